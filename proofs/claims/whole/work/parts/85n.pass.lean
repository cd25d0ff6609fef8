/-! ===== the best order through a pass: sets of loads, and all rows of loads ===== -/
def pc5 (m : Nat) : Nat := m % 2 + m / 2 % 2 + m / 4 % 2 + m / 8 % 2 + m / 16 % 2
def clr (m l : Nat) : Bool := decide (m / 2 ^ l % 2 = 0)
theorem pf1' : ∀ n, n < 6 → ∀ m, m < 32 → ∀ l, l < 5 → ((decide (m < 2 ^ n) && (decide (l < n) && clr m l)) = false ∨ (m + 2 ^ l < 2 ^ n ∧ pc5 (m + 2 ^ l) = pc5 m + 1 ∧ (m ||| 2 ^ l) = m + 2 ^ l ∧ pc5 m < n)) := by decide +kernel
theorem pf1 (n : Nat) (hn : n < 6) (m : Nat) (hm : m < 32) (l : Nat) (hl : l < 5) (h1 : m < 2 ^ n) (h2 : l < n) (h3 : clr m l = true) : m + 2 ^ l < 2 ^ n ∧ pc5 (m + 2 ^ l) = pc5 m + 1 ∧ (m ||| 2 ^ l) = m + 2 ^ l ∧ pc5 m < n := by
  rcases pf1' n hn m hm l hl with h | h
  · rw [decide_eq_true h1, decide_eq_true h2, h3] at h; cases h
  · exact h
theorem pf2 : ∀ m, m < 32 → ∀ l, l < 5 → (clr m l = false → (m ||| 2 ^ l) = m) := by decide +kernel
theorem pf3 : ∀ m, m < 32 → ∀ l, l < 5 → (pc5 (m ||| 2 ^ l) ≤ pc5 m + 1 ∧ (m ||| 2 ^ l) < 32) := by decide +kernel
theorem pf4 : ∀ n, n < 6 → pc5 (2 ^ n - 1) = n := by decide +kernel
theorem pf5' : ∀ n, n < 6 → ∀ m, m < 32 → (2 ^ n ≤ m ∨ (pc5 m ≤ n ∧ (pc5 m < n ∨ m = 2 ^ n - 1) ∧ (n ≤ pc5 m ∨ (List.range n).any (clr m) = true) ∧ (2 ^ n ≤ m + 1 ∨ pc5 m < n))) := by decide +kernel
theorem pf5 (n : Nat) (hn : n < 6) (m : Nat) (hm : m < 32) (h : m < 2 ^ n) : pc5 m ≤ n ∧ (pc5 m = n → m = 2 ^ n - 1) ∧ (pc5 m < n → (List.range n).any (clr m) = true) ∧ (m + 1 < 2 ^ n → pc5 m < n) := by
  rcases pf5' n hn m hm with z | ⟨a, b, c, d⟩
  · omega
  · refine ⟨a, fun e => ?_, fun e => ?_, fun e => ?_⟩
    · rcases b with b | b
      · omega
      · exact b
    · rcases c with c | c
      · omega
      · exact c
    · rcases d with d | d
      · omega
      · exact d
theorem pf6 : ∀ a, a < 32 → ∀ b, b < 32 → nI a ||| nI b = nI (a ||| b) := by decide +kernel
theorem pf7 : ∀ m, m < 32 → ∀ l, l < 5 → ((((nI m >>> (nI l &&& 31)) &&& 1) = 0 ∧ clr m l = true) ∨ (¬ ((nI m >>> (nI l &&& 31)) &&& 1) = 0 ∧ clr m l = false)) := by decide +kernel
def bc6 (p0 : Int32) : Int32 :=
  let x1 : Int32 := p0 - (((Int32.toUInt32 p0 >>> (Int32.toUInt32 1 &&& Int32.toUInt32 31)).toInt32) &&& 1431655765)
  let x2 : Int32 := (x1 &&& 858993459) + (((Int32.toUInt32 x1 >>> (Int32.toUInt32 2 &&& Int32.toUInt32 31)).toInt32) &&& 858993459)
  let x3 : Int32 := (x2 + ((Int32.toUInt32 x2 >>> (Int32.toUInt32 4 &&& Int32.toUInt32 31)).toInt32)) &&& 252645135
  let x4 : Int32 := x3 + ((Int32.toUInt32 x3 >>> (Int32.toUInt32 8 &&& Int32.toUInt32 31)).toInt32)
  let x5 : Int32 := x4 + ((Int32.toUInt32 x4 >>> (Int32.toUInt32 16 &&& Int32.toUInt32 31)).toInt32)
  x5 &&& 63
theorem bc6_ok : ∀ m, m < 32 → bc6 (nI m) = nI (pc5 m) := by decide +kernel
theorem s_bits5 {m : Nat} (hm : m < 32) {I : MI} {J : MJ} {Q : Int32 → MI → MJ → Prop} (q : Q (nI (pc5 m)) I J) : vc_J6_bitCount_0f7a4 (nI m) I J Q := by
  rw [← bc6_ok m hm] at q
  exact nm_e (nm_e (nm_e (nm_e (nm_e q))))
theorem p2_lt {n : Nat} (h : n ≤ 5) {m : Nat} (hm : m < 2 ^ n) : m < 32 := by have := p2_5 h; omega
/-- the best of those below j, the first of the best -/
def bfq (P : Nat → Bool) (g : Nat → Nat) : Nat → Option (Nat × Nat)
  | 0 => none
  | j + 1 => if P j then (match bfq P g j with | none => some (g j, j) | some (v, l) => if v < g j then some (g j, j) else some (v, l)) else bfq P g j
theorem bfq_f {P : Nat → Bool} {g : Nat → Nat} {j : Nat} (h : P j = false) : bfq P g (j + 1) = bfq P g j := by
  show (if P j then _ else _) = _
  rw [h]; rfl
theorem bfq_n {P : Nat → Bool} {g : Nat → Nat} {j : Nat} (h : P j = true) (e : bfq P g j = none) : bfq P g (j + 1) = some (g j, j) := by
  show (if P j then (match bfq P g j with | none => some (g j, j) | some (v, l) => if v < g j then some (g j, j) else some (v, l)) else _) = _
  rw [h, e]; rfl
theorem bfq_s {P : Nat → Bool} {g : Nat → Nat} {j v l : Nat} (h : P j = true) (e : bfq P g j = some (v, l)) : bfq P g (j + 1) = if v < g j then some (g j, j) else some (v, l) := by
  show (if P j then (match bfq P g j with | none => some (g j, j) | some (v, l) => if v < g j then some (g j, j) else some (v, l)) else _) = _
  rw [h, e]; rfl
theorem bfq_sp (P : Nat → Bool) (g : Nat → Nat) : ∀ j, (bfq P g j = none ∧ ∀ l, l < j → P l = false) ∨ ∃ v l, bfq P g j = some (v, l) ∧ l < j ∧ P l = true ∧ g l = v ∧ (∀ k, k < l → P k = true → g k < v) ∧ ∀ k, k < j → P k = true → g k ≤ v
  | 0 => Or.inl ⟨rfl, fun l h => absurd h (Nat.not_lt_zero l)⟩
  | j + 1 => by
    have lt : ∀ k, k < j + 1 → k < j ∨ k = j := fun k h => by omega
    cases hP : P j with
    | false =>
      rw [bfq_f hP]
      rcases bfq_sp P g j with ⟨h1, h2⟩ | ⟨v, l, h1, h2, h3, h4, h5, h6⟩
      · refine Or.inl ⟨h1, fun k hk => ?_⟩
        rcases lt k hk with h | h
        · exact h2 k h
        · rw [h]; exact hP
      · refine Or.inr ⟨v, l, h1, by omega, h3, h4, h5, fun k hk hk2 => ?_⟩
        rcases lt k hk with h | h
        · exact h6 k h hk2
        · rw [h, hP] at hk2; cases hk2
    | true =>
      rcases bfq_sp P g j with ⟨h1, h2⟩ | ⟨v, l, h1, h2, h3, h4, h5, h6⟩
      · rw [bfq_n hP h1]
        refine Or.inr ⟨g j, j, rfl, by omega, hP, rfl, fun k hk hk2 => ?_, fun k hk hk2 => ?_⟩
        · rw [h2 k hk] at hk2; cases hk2
        · rcases lt k hk with h | h
          · rw [h2 k h] at hk2; cases hk2
          · rw [h]; exact Nat.le_refl _
      · rw [bfq_s hP h1]
        by_cases hv : v < g j
        · rw [if_pos hv]
          refine Or.inr ⟨g j, j, rfl, by omega, hP, rfl, fun k hk hk2 => ?_, fun k hk hk2 => ?_⟩
          · have := h6 k hk hk2; omega
          · rcases lt k hk with h | h
            · have := h6 k h hk2; omega
            · rw [h]; exact Nat.le_refl _
        · rw [if_neg hv]
          refine Or.inr ⟨v, l, rfl, by omega, h3, h4, h5, fun k hk hk2 => ?_⟩
          rcases lt k hk with h | h
          · exact h6 k h hk2
          · rw [h]; omega
/-- the most that may follow behind the set m, r loads before the end, and the first row that gives it -/
def Bq (n : Nat) (W : Nat → Nat → Nat) : Nat → Nat → Nat × List Nat
  | 0, _ => (0, [])
  | r + 1, m => match bfq (clr m) (fun l => W l (pc5 m) + (Bq n W r (m + 2 ^ l)).1) n with | none => (0, []) | some (v, l) => (v, l :: (Bq n W r (m + 2 ^ l)).2)
theorem Bq_s {n : Nat} {W : Nat → Nat → Nat} {r m v l : Nat} (e : bfq (clr m) (fun l => W l (pc5 m) + (Bq n W r (m + 2 ^ l)).1) n = some (v, l)) : Bq n W (r + 1) m = (v, l :: (Bq n W r (m + 2 ^ l)).2) := by
  show (match bfq (clr m) (fun l => W l (pc5 m) + (Bq n W r (m + 2 ^ l)).1) n with | none => (0, []) | some (v, l) => (v, l :: (Bq n W r (m + 2 ^ l)).2)) = _
  rw [e]
theorem bfq_ex {n m : Nat} (hn : n ≤ 5) (hm : m < 2 ^ n) (hp : pc5 m < n) (g : Nat → Nat) : ∃ v l, bfq (clr m) g n = some (v, l) ∧ l < n ∧ clr m l = true ∧ g l = v ∧ (∀ k, k < l → clr m k = true → g k < v) ∧ ∀ k, k < n → clr m k = true → g k ≤ v := by
  rcases bfq_sp (clr m) g n with ⟨h1, h2⟩ | h
  · have h3 := (pf5 n (by omega) m (p2_lt hn hm) hm).2.2.1 hp
    obtain ⟨l, hl, hl2⟩ := List.any_eq_true.mp h3
    rw [h2 l (List.mem_range.mp hl)] at hl2
    cases hl2
  · exact h
theorem Bq_le {n : Nat} {W : Nat → Nat → Nat} (hW : ∀ l t, W l t ≤ 99) : ∀ r m, (Bq n W r m).1 ≤ 99 * r
  | 0, _ => Nat.le_refl 0
  | r + 1, m => by
    rcases bfq_sp (clr m) (fun l => W l (pc5 m) + (Bq n W r (m + 2 ^ l)).1) n with ⟨h1, h2⟩ | ⟨v, l, h1, h2, h3, h4, h5, h6⟩
    · have e : Bq n W (r + 1) m = (0, []) := by
        show (match bfq (clr m) (fun l => W l (pc5 m) + (Bq n W r (m + 2 ^ l)).1) n with | none => (0, []) | some (v, l) => (v, l :: (Bq n W r (m + 2 ^ l)).2)) = _
        rw [h1]
      rw [e]; exact Nat.zero_le _
    · rw [Bq_s h1]
      have h7 := Bq_le (n := n) hW r (m + 2 ^ l)
      have h8 := hW l (pc5 m)
      have h4 : W l (pc5 m) + (Bq n W r (m + 2 ^ l)).1 = v := h4
      show v ≤ _
      omega
/-! all rows -/
def orL : List Nat → Nat
  | [] => 0
  | d :: ds => orL ds ||| 2 ^ d
def smF (W : Nat → Nat → Nat) : Nat → List Nat → Nat
  | _, [] => 0
  | t, d :: ds => W d t + smF W (t + 1) ds
/-- r places of a number to the base n, the greatest first -/
def dgs (n : Nat) : Nat → Nat → List Nat
  | 0, _ => []
  | r + 1, c => c / n ^ r :: dgs n r (c % n ^ r)
theorem dgs_len (n : Nat) : ∀ r c, (dgs n r c).length = r
  | 0, _ => rfl
  | r + 1, c => by show (dgs n r (c % n ^ r)).length + 1 = _; rw [dgs_len n r]
theorem dgs_lt {n : Nat} : ∀ r c, c < n ^ r → ∀ d ∈ dgs n r c, d < n
  | 0, _, _, d, h => absurd h List.not_mem_nil
  | r + 1, c, hc, d, h => by
    have hn : 0 < n ^ r := by
      rcases Nat.eq_zero_or_pos (n ^ r) with z | z
      · rw [Nat.pow_succ, z, Nat.zero_mul] at hc; omega
      · exact z
    rcases List.mem_cons.mp h with e | e
    · rw [e]; exact Nat.div_lt_of_lt_mul (by rw [Nat.pow_succ] at hc; exact hc)
    · exact dgs_lt r _ (Nat.mod_lt _ hn) d e
theorem dgs_get {n : Nat} : ∀ r c i, c < n ^ r → i < r → (dgs n r c).getD i 0 = c / n ^ (r - 1 - i) % n
  | 0, _, _, _, hi => absurd hi (Nat.not_lt_zero _)
  | r + 1, c, 0, hc, _ => by
    show c / n ^ r = c / n ^ r % n
    rw [Nat.mod_eq_of_lt (Nat.div_lt_of_lt_mul (by rw [Nat.pow_succ] at hc; exact hc))]
  | r + 1, c, i + 1, hc, hi => by
    have hn : 0 < n ^ r := by
      rcases Nat.eq_zero_or_pos (n ^ r) with z | z
      · rw [Nat.pow_succ, z, Nat.zero_mul] at hc; omega
      · exact z
    show (dgs n r (c % n ^ r)).getD i 0 = _
    rw [dgs_get r _ i (Nat.mod_lt _ hn) (by omega)]
    have e1 : n ^ r = n ^ (r - 1 - i) * n ^ (i + 1) := by rw [← Nat.pow_add]; congr 1; omega
    have e2 : r + 1 - 1 - (i + 1) = r - 1 - i := by omega
    rw [e1, Nat.mod_mul_right_div_self, e2, Nat.mod_mod_of_dvd _ (Nat.dvd_of_pow_dvd (by omega) (Nat.dvd_refl (n ^ (i + 1))))]
theorem or_bd : ∀ (ds : List Nat) (m : Nat), (∀ d ∈ ds, d < 5) → m < 32 → pc5 (m ||| orL ds) ≤ pc5 m + ds.length ∧ (m ||| orL ds) < 32
  | [], m, _, hm => by
    show pc5 (m ||| 0) ≤ _ ∧ (m ||| 0) < 32
    rw [Nat.or_zero]; exact ⟨Nat.le_refl _, hm⟩
  | d :: ds, m, h, hm => by
    have h1 := pf3 m hm d (h d List.mem_cons_self)
    have h2 := or_bd ds (m ||| 2 ^ d) (fun x hx => h x (List.mem_cons_of_mem _ hx)) h1.2
    show pc5 (m ||| (orL ds ||| 2 ^ d)) ≤ pc5 m + (ds.length + 1) ∧ (m ||| (orL ds ||| 2 ^ d)) < 32
    rw [Nat.or_comm (orL ds), ← Nat.or_assoc]
    omega
def runK {σ : Type} (f : Nat → σ → σ) : Nat → Nat → σ → σ
  | 0, _, s => s
  | k + 1, c, s => runK f k (c + 1) (f c s)
theorem runK_add {σ : Type} (f : Nat → σ → σ) : ∀ a b c s, runK f (a + b) c s = runK f b (c + a) (runK f a c s)
  | 0, b, c, s => by rw [Nat.zero_add]; rfl
  | a + 1, b, c, s => by
    rw [show a + 1 + b = (a + b) + 1 by omega]
    show runK f (a + b) (c + 1) (f c s) = runK f b (c + (a + 1)) (runK f a (c + 1) (f c s))
    rw [runK_add f a b (c + 1), show c + (a + 1) = c + 1 + a by omega]
theorem runK_sh {σ : Type} {f g : Nat → σ → σ} : ∀ k c d s, (∀ i, i < k → f (c + i) = g (d + i)) → runK f k c s = runK g k d s
  | 0, _, _, _, _ => rfl
  | k + 1, c, d, s, h => by
    show runK f k (c + 1) (f c s) = runK g k (d + 1) (g d s)
    have h0 := h 0 (by omega)
    rw [Nat.add_zero, Nat.add_zero] at h0
    rw [h0]
    exact runK_sh k (c + 1) (d + 1) _ (fun i hi => by have := h (i + 1) (by omega); rwa [show c + 1 + i = c + (i + 1) by omega, show d + 1 + i = d + (i + 1) by omega])
theorem runK_id {σ : Type} {f : Nat → σ → σ} : ∀ k c s, (∀ i, i < k → ∀ s, f (c + i) s = s) → runK f k c s = s
  | 0, _, _, _ => rfl
  | k + 1, c, s, h => by
    show runK f k (c + 1) (f c s) = s
    have h0 := h 0 (by omega) s
    rw [Nat.add_zero] at h0
    rw [h0]
    exact runK_id k (c + 1) s (fun i hi s => by have := h (i + 1) (by omega) s; rwa [show c + 1 + i = c + (i + 1) by omega])
def stp (n : Nat) (W : Nat → Nat → Nat) (r t m ps : Nat) (pre : List Nat) (c : Nat) (s : Nat × List Nat) : Nat × List Nat := if (m ||| orL (dgs n r c)) = 2 ^ n - 1 ∧ s.1 ≤ ps + smF W t (dgs n r c) then (ps + smF W t (dgs n r c) + 1, pre ++ dgs n r c) else s
theorem stp_c {n : Nat} {W : Nat → Nat → Nat} {r t m ps j i : Nat} {pre : List Nat} (hi : i < n ^ r) : stp n W (r + 1) t m ps pre (j * n ^ r + i) = stp n W r (t + 1) (m ||| 2 ^ j) (ps + W j t) (pre ++ [j]) i := by
  funext s
  have hn : 0 < n ^ r := by omega
  have e : dgs n (r + 1) (j * n ^ r + i) = j :: dgs n r i := by
    show (j * n ^ r + i) / n ^ r :: dgs n r ((j * n ^ r + i) % n ^ r) = _
    rw [Nat.mul_comm, Nat.mul_add_mod, Nat.mod_eq_of_lt hi, Nat.mul_add_div hn, Nat.div_eq_of_lt hi, Nat.add_zero]
  unfold stp
  rw [e]
  have e1 : (m ||| orL (j :: dgs n r i)) = ((m ||| 2 ^ j) ||| orL (dgs n r i)) := by
    show (m ||| (orL (dgs n r i) ||| 2 ^ j)) = _
    rw [Nat.or_comm (orL (dgs n r i)), ← Nat.or_assoc]
  have e2 : ps + smF W t (j :: dgs n r i) = ps + W j t + smF W (t + 1) (dgs n r i) := by
    show ps + (W j t + smF W (t + 1) (dgs n r i)) = _
    omega
  rw [e1, e2, List.append_assoc]
  rfl
theorem blk {n : Nat} (hn : n ≤ 5) (W : Nat → Nat → Nat) : ∀ r m ps pre s, m < 2 ^ n → pc5 m + r = n → runK (stp n W r (pc5 m) m ps pre) (n ^ r) 0 s = if s.1 ≤ ps + (Bq n W r m).1 then (ps + (Bq n W r m).1 + 1, pre ++ (Bq n W r m).2) else s
  | 0, m, ps, pre, s, hm, hp => by
    show stp n W 0 (pc5 m) m ps pre 0 s = if s.1 ≤ ps + 0 then (ps + 0 + 1, pre ++ []) else s
    unfold stp
    have e : m = 2 ^ n - 1 := (pf5 n (by omega) m (p2_lt hn hm) hm).2.1 (by omega)
    have e1 : (m ||| orL (dgs n 0 0)) = m := Nat.or_zero m
    rw [e1]
    have e2 : smF W (pc5 m) (dgs n 0 0) = 0 := rfl
    rw [e2]
    by_cases h : s.1 ≤ ps + 0
    · rw [if_pos ⟨e, h⟩, if_pos h]; rfl
    · rw [if_neg (fun z => h z.2), if_neg h]
  | r + 1, m, ps, pre, s, hm, hp => by
    have hm32 := p2_lt hn hm
    generalize hg : (fun l => W l (pc5 m) + (Bq n W r (m + 2 ^ l)).1) = g
    have key : ∀ j, j ≤ n → runK (stp n W (r + 1) (pc5 m) m ps pre) (j * n ^ r) 0 s = match bfq (clr m) g j with | none => s | some (v, l) => if s.1 ≤ ps + v then (ps + v + 1, pre ++ l :: (Bq n W r (m + 2 ^ l)).2) else s := by
      intro j
      induction j with
      | zero => intro _; rw [Nat.zero_mul]; rfl
      | succ j ih =>
        intro hj
        rw [Nat.succ_mul, runK_add, ih (by omega), Nat.zero_add, runK_sh (n ^ r) (j * n ^ r) 0 _ (g := stp n W r (pc5 m + 1) (m ||| 2 ^ j) (ps + W j (pc5 m)) (pre ++ [j])) (fun i hi => by rw [Nat.zero_add]; exact stp_c hi)]
        cases hc : clr m j with
        | false =>
          rw [bfq_f hc, runK_id]
          intro i hi s'
          rw [Nat.zero_add]
          unfold stp
          rw [pf2 m hm32 j (by omega) hc]
          refine if_neg (fun z => ?_)
          have h1 := (or_bd (dgs n r i) m (fun d hd => by have := dgs_lt r i hi d hd; omega) hm32).1
          rw [z.1, dgs_len, pf4 n (by omega)] at h1
          omega
        | true =>
          have h1 := pf1 n (by omega) m hm32 j (by omega) hm (by omega) hc
          have h2 := blk hn W r (m + 2 ^ j) (ps + W j (pc5 m)) (pre ++ [j]) (match bfq (clr m) g j with | none => s | some (v, l) => if s.1 ≤ ps + v then (ps + v + 1, pre ++ l :: (Bq n W r (m + 2 ^ l)).2) else s) h1.1 (by omega)
          rw [h1.2.1] at h2
          rw [h1.2.2.1, h2]
          have hgj : g j = W j (pc5 m) + (Bq n W r (m + 2 ^ j)).1 := by rw [← hg]
          have e1 : ps + W j (pc5 m) + (Bq n W r (m + 2 ^ j)).1 = ps + g j := by rw [hgj]; omega
          rw [e1, List.append_assoc]
          cases hb : bfq (clr m) g j with
          | none => rw [bfq_n hc hb]; rfl
          | some p =>
            obtain ⟨v, l⟩ := p
            rw [bfq_s hc hb]
            show (if (if s.1 ≤ ps + v then (ps + v + 1, pre ++ l :: (Bq n W r (m + 2 ^ l)).2) else s).1 ≤ ps + g j then (ps + g j + 1, pre ++ j :: (Bq n W r (m + 2 ^ j)).2) else (if s.1 ≤ ps + v then (ps + v + 1, pre ++ l :: (Bq n W r (m + 2 ^ l)).2) else s)) = _
            by_cases hv : v < g j
            · rw [if_pos hv]
              show _ = if s.1 ≤ ps + g j then (ps + g j + 1, pre ++ j :: (Bq n W r (m + 2 ^ j)).2) else s
              by_cases hs : s.1 ≤ ps + v
              · rw [if_pos hs, if_pos (by show ps + v + 1 ≤ ps + g j; omega), if_pos (by omega)]
              · rw [if_neg hs]
            · rw [if_neg hv]
              show _ = if s.1 ≤ ps + v then (ps + v + 1, pre ++ l :: (Bq n W r (m + 2 ^ l)).2) else s
              by_cases hs : s.1 ≤ ps + v
              · rw [if_pos hs, if_neg (by show ¬ ps + v + 1 ≤ ps + g j; omega)]
              · rw [if_neg hs, if_neg (by omega)]
    have h := key n (Nat.le_refl n)
    rw [show n ^ (r + 1) = n * n ^ r by rw [Nat.pow_succ, Nat.mul_comm], h]
    obtain ⟨v, l, h1, h2, -⟩ := bfq_ex hn hm (by omega) g
    rw [h1]
    rw [← hg] at h1
    rw [Bq_s h1]
