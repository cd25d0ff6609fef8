/-! ===== ways around bandits: roads relaxed round by round ===== -/
/-- what a road costs: bandits by a hundred, hours -/
def stc (C : Cty) (r : Nat) : Nat := if C.rk r = 2 then 100 + C.rh r else C.rh r
/-- one end by the other -/
def rx (f : Nat → Nat) (a b c : Nat) : Nat → Nat := setN f a (if f b + c < f a then f b + c else f a)
def rlx (C : Cty) (r : Nat) (f : Nat → Nat) : Nat → Nat := rx (rx f (C.ra r) (C.rb r) (stc C r)) (C.rb r) (C.ra r) (stc C r)
def rnd (C : Cty) : Nat → (Nat → Nat) → Nat → Nat
  | 0, f => f
  | n + 1, f => rlx C n (rnd C n f)
def rdK (C : Cty) : Nat → (Nat → Nat) → Nat → Nat
  | 0, f => f
  | k + 1, f => rnd C C.nr (rdK C k f)
def inid (B to : Nat) : Nat → Nat := fun p => if p = to then 0 else B
theorem rx_le (f : Nat → Nat) (a b c p : Nat) : rx f a b c p ≤ f p := by
  unfold rx setN
  by_cases h : p = a
  · rw [if_pos h, h]; split <;> omega
  · rw [if_neg h]; exact Nat.le_refl _
theorem rx_e (f : Nat → Nat) (a b c : Nat) : rx f a b c a ≤ f b + c := by
  unfold rx setN
  rw [if_pos rfl]; split <;> omega
theorem rx_out {f : Nat → Nat} {a b c p : Nat} (h : p ≠ a) : rx f a b c p = f p := by
  unfold rx setN
  rw [if_neg h]
theorem rlx_le (C : Cty) (r : Nat) (f : Nat → Nat) (p : Nat) : rlx C r f p ≤ f p := Nat.le_trans (rx_le _ _ _ _ _) (rx_le _ _ _ _ _)
theorem rnd_le (C : Cty) : ∀ n f p, rnd C n f p ≤ f p
  | 0, _, _ => Nat.le_refl _
  | n + 1, f, p => Nat.le_trans (rlx_le C n _ p) (rnd_le C n f p)
theorem rnd_e (C : Cty) (f : Nat → Nat) : ∀ n r, r < n → rnd C n f (C.ra r) ≤ f (C.rb r) + stc C r ∧ rnd C n f (C.rb r) ≤ f (C.ra r) + stc C r
  | 0, r, h => absurd h (Nat.not_lt_zero r)
  | n + 1, r, h => by
    by_cases hr : r = n
    · subst hr
      show rlx C r (rnd C r f) (C.ra r) ≤ _ ∧ rlx C r (rnd C r f) (C.rb r) ≤ _
      have h1 := rnd_le C r f (C.ra r)
      have h2 := rnd_le C r f (C.rb r)
      have h3 := rx_le (rx (rnd C r f) (C.ra r) (C.rb r) (stc C r)) (C.rb r) (C.ra r) (stc C r) (C.ra r)
      have h4 := rx_e (rnd C r f) (C.ra r) (C.rb r) (stc C r)
      have h5 := rx_e (rx (rnd C r f) (C.ra r) (C.rb r) (stc C r)) (C.rb r) (C.ra r) (stc C r)
      have h6 := rx_le (rnd C r f) (C.ra r) (C.rb r) (stc C r) (C.ra r)
      unfold rlx
      omega
    · have ih := rnd_e C f n r (by omega)
      have h1 := rlx_le C n (rnd C n f) (C.ra r)
      have h2 := rlx_le C n (rnd C n f) (C.rb r)
      show rlx C n (rnd C n f) (C.ra r) ≤ _ ∧ rlx C n (rnd C n f) (C.rb r) ≤ _
      omega
/-- each number below the bound comes by a road -/
def sup (C : Cty) (B to : Nat) (f : Nat → Nat) : Prop := f to = 0 ∧ ∀ p, p ≠ to → f p < B → ∃ r, r < C.nr ∧ tch C r p ∧ f (far C r p) + stc C r ≤ f p
theorem sup_rx {C : Cty} {B to r a b : Nat} {f : Nat → Nat} (h : sup C B to f) (hr : r < C.nr) (ht : tch C r a) (hf : far C r a = b) (hab : a ≠ b) : sup C B to (rx f a b (stc C r)) := by
  refine ⟨Nat.le_zero.mp (by have := rx_le f a b (stc C r) to; rw [h.1] at this; exact this), fun p hp hB => ?_⟩
  by_cases hl : p = a ∧ f b + stc C r < f a
  · obtain ⟨rfl, hl⟩ := hl
    refine ⟨r, hr, ht, ?_⟩
    rw [hf, rx_out (Ne.symm hab)]
    unfold rx
    rw [setN_same, if_pos hl]
    exact Nat.le_refl _
  · have e : rx f a b (stc C r) p = f p := by
      by_cases hp : p = a
      · subst hp
        unfold rx
        rw [setN_same, if_neg (fun z => hl ⟨rfl, z⟩)]
      · exact rx_out hp
    rw [e] at hB ⊢
    obtain ⟨q, q1, q2, q3⟩ := h.2 p hp hB
    exact ⟨q, q1, q2, Nat.le_trans (Nat.add_le_add_right (rx_le _ _ _ _ _) _) q3⟩
theorem far_a {C : Cty} {r : Nat} : far C r (C.ra r) = C.rb r := if_pos rfl
theorem far_b {C : Cty} {r : Nat} (h : C.ra r ≠ C.rb r) : far C r (C.rb r) = C.ra r := if_neg h
theorem sup_rnd {C : Cty} (hC : wfC C) {B to : Nat} {f : Nat → Nat} (h : sup C B to f) : ∀ n, n ≤ C.nr → sup C B to (rnd C n f)
  | 0, _ => h
  | n + 1, hn => by
    have h1 := hC.2.2.1 n (by omega)
    exact sup_rx (sup_rx (sup_rnd hC h n (by omega)) (by omega) (Or.inl rfl) far_a h1.2.2.1) (by omega) (Or.inr rfl) (far_b h1.2.2.1) (Ne.symm h1.2.2.1)
theorem sup_rdK {C : Cty} (hC : wfC C) {B to : Nat} : ∀ k, sup C B to (rdK C k (inid B to))
  | 0 => ⟨if_pos rfl, fun p hp hB => by
      have e : rdK C 0 (inid B to) p = B := if_neg hp
      rw [e] at hB
      exact absurd hB (Nat.lt_irrefl B)⟩
  | k + 1 => sup_rnd hC (sup_rdK hC k) C.nr (Nat.le_refl _)
theorem rdK_le (C : Cty) (f : Nat → Nat) (p : Nat) : ∀ d k, rdK C (k + d) f p ≤ rdK C k f p
  | 0, k => Nat.le_refl _
  | d + 1, k => Nat.le_trans (rnd_le C C.nr _ p) (rdK_le C f p d k)
theorem rnd_out {C : Cty} (hC : wfC C) {f : Nat → Nat} {p : Nat} (hp : C.np ≤ p) : ∀ n, n ≤ C.nr → rnd C n f p = f p
  | 0, _ => rfl
  | n + 1, hn => by
    have h1 := hC.2.2.1 n (by omega)
    show rx (rx (rnd C n f) _ _ _) _ _ _ p = f p
    rw [rx_out (by omega), rx_out (by omega)]
    exact rnd_out hC hp n (by omega)
theorem rdK_out {C : Cty} (hC : wfC C) {f : Nat → Nat} {p : Nat} (hp : C.np ≤ p) : ∀ k, rdK C k f p = f p
  | 0 => rfl
  | k + 1 => (rnd_out hC hp C.nr (Nat.le_refl _)).trans (rdK_out hC hp k)
/-- what only sinks comes to rest -/
theorem sinks {s : Nat → Nat} (h : ∀ d k, s (k + d) ≤ s k) : ∃ M, ∀ d, s (M + d) = s M := by
  obtain ⟨v, ⟨M, hM⟩, hl⟩ := pk_least (fun v => ∃ k, s k = v) ⟨s 0, 0, rfl⟩
  refine ⟨M, fun d => ?_⟩
  have h1 := h d M
  have h2 : ¬ s (M + d) < v := fun z => hl _ z ⟨M + d, rfl⟩
  omega
theorem sinksN {s : Nat → Nat → Nat} (h : ∀ p d k, s (k + d) p ≤ s k p) : ∀ n, ∃ M, ∀ p, p < n → ∀ d, s (M + d) p = s M p
  | 0 => ⟨0, fun p hp => absurd hp (Nat.not_lt_zero p)⟩
  | n + 1 => by
    obtain ⟨M1, h1⟩ := sinksN h n
    obtain ⟨M2, h2⟩ := sinks (s := fun k => s k n) (fun d k => h n d k)
    refine ⟨M1 + M2, fun p hp d => ?_⟩
    by_cases e : p = n
    · subst e
      have a := h2 (M1 + d)
      have b := h2 M1
      rw [show M1 + M2 + d = M2 + (M1 + d) by omega, show M1 + M2 = M2 + M1 by omega]
      exact a.trans b.symm
    · rw [show M1 + M2 + d = M1 + (M2 + d) by omega, h1 p (by omega), h1 p (by omega)]
theorem cM_le {P R : Nat → Bool} (h : ∀ q, P q = true → R q = true) : ∀ n, cM P n ≤ cM R n
  | 0 => Nat.le_refl _
  | n + 1 => by
    have ih := cM_le h n
    show cM P n + (if P n then 1 else 0) ≤ cM R n + (if R n then 1 else 0)
    cases hP : P n with
    | false => rw [if_neg (by decide)]; omega
    | true => rw [h n hP]; omega
theorem cM_lt {P R : Nat → Bool} (h : ∀ q, P q = true → R q = true) {q : Nat} (h1 : P q = false) (h2 : R q = true) : ∀ n, q < n → cM P n < cM R n
  | 0, hq => absurd hq (Nat.not_lt_zero q)
  | n + 1, hq => by
    show cM P n + (if P n then 1 else 0) < cM R n + (if R n then 1 else 0)
    by_cases e : q = n
    · subst e
      have ih := cM_le h q
      rw [h1, h2, if_neg (by decide), if_pos rfl]
      omega
    · have ih := cM_lt h h1 h2 n (by omega)
      cases hP : P n with
      | false => rw [if_neg (by decide)]; omega
      | true => rw [h n hP]; omega
theorem cM_all : ∀ n, cM (fun _ => true) n = n
  | 0 => rfl
  | n + 1 => by
    show cM (fun _ => true) n + 1 = n + 1
    rw [cM_all n]
theorem stc_b {C : Cty} (hC : wfC C) {r : Nat} (hr : r < C.nr) : 1 ≤ stc C r ∧ stc C r ≤ 106 := by
  have := hC.2.2.1 r hr
  unfold stc
  split <;> omega
/-- behind as many rounds as there are places, less one, nothing changes any more -/
theorem rdK_fix {C : Cty} (hC : wfC C) {B to : Nat} (hto : to < C.np) : ∀ d, rdK C (C.np - 1 + d) (inid B to) = rdK C (C.np - 1) (inid B to) := by
  obtain ⟨M, hM⟩ := sinksN (s := fun k p => rdK C k (inid B to) p) (fun p d k => rdK_le C _ p d k) C.np
  generalize hdl : rdK C M (inid B to) = dl
  have hM : ∀ p, p < C.np → ∀ d, rdK C (M + d) (inid B to) p = dl p := fun p hp d => by rw [← hdl]; exact hM p hp d
  have hsup : sup C B to dl := by rw [← hdl]; exact sup_rdK hC M
  have hlow : ∀ k p, p < C.np → dl p ≤ rdK C k (inid B to) p := fun k p hp => by
    have h1 := rdK_le C (inid B to) p M k
    have h2 := hM p hp k
    rw [show k + M = M + k by omega, h2] at h1
    exact h1
  have hB : ∀ k p, rdK C k (inid B to) p ≤ B := fun k p => by
    have h1 := rdK_le C (inid B to) p k 0
    rw [Nat.zero_add] at h1
    have h2 : inid B to p ≤ B := by unfold inid; split <;> omega
    exact Nat.le_trans h1 h2
  have main : ∀ k p, p < C.np → cM (fun q => decide (dl q < dl p)) C.np ≤ k → rdK C k (inid B to) p = dl p := by
    intro k
    induction k with
    | zero =>
      intro p hp hk
      by_cases ht : p = to
      · subst ht; rw [hsup.1]; exact (sup_rdK hC 0).1
      · by_cases hb : dl p < B
        · obtain ⟨r, r1, r2, r3⟩ := hsup.2 p ht hb
          have hc := (stc_b hC r1).1
          have h1 := hC.2.2.1 r r1
          have hq : far C r p < C.np := by unfold far; split <;> omega
          have := cM_lt (P := fun _ => false) (R := fun q => decide (dl q < dl p)) (fun q z => by cases z) (q := far C r p) rfl (decide_eq_true (by omega)) C.np hq
          omega
        · have h1 := hlow 0 p hp
          have h2 := hB 0 p
          omega
    | succ k ih =>
      intro p hp hk
      have h0 := hlow (k + 1) p hp
      by_cases ht : p = to
      · subst ht; rw [hsup.1]; exact (sup_rdK hC (k + 1)).1
      · by_cases hb : dl p < B
        · obtain ⟨r, r1, r2, r3⟩ := hsup.2 p ht hb
          have hc := (stc_b hC r1).1
          have h1 := hC.2.2.1 r r1
          have hq : far C r p < C.np := by unfold far; split <;> omega
          have hlt := cM_lt (P := fun q => decide (dl q < dl (far C r p))) (R := fun q => decide (dl q < dl p)) (fun q z => decide_eq_true (by have := of_decide_eq_true z; omega)) (q := far C r p) (decide_eq_false (by omega)) (decide_eq_true (by omega)) C.np hq
          have hih := ih (far C r p) hq (by omega)
          have he := rnd_e C (rdK C k (inid B to)) C.nr r r1
          have h3 : rdK C (k + 1) (inid B to) p ≤ rdK C k (inid B to) (far C r p) + stc C r := by
            show rnd C C.nr (rdK C k (inid B to)) p ≤ _
            rcases r2 with e | e
            · subst e; rw [far_a]; exact he.1
            · subst e; rw [far_b h1.2.2.1]; exact he.2
          omega
        · have h2 := hB (k + 1) p
          omega
  have fin : ∀ k p, C.np - 1 ≤ k → p < C.np → rdK C k (inid B to) p = dl p := fun k p hk hp => by
    refine main k p hp ?_
    have := cM_lt (P := fun q => decide (dl q < dl p)) (R := fun _ => true) (fun _ _ => rfl) (q := p) (decide_eq_false (Nat.lt_irrefl _)) rfl C.np hp
    rw [cM_all] at this
    omega
  intro d
  funext p
  by_cases hp : p < C.np
  · rw [fin _ p (by omega) hp, fin _ p (Nat.le_refl _) hp]
  · rw [rdK_out hC (by omega), rdK_out hC (by omega)]
/-- two bounds for what has no way -/
def twB (M : Nat) (f g : Nat → Nat) : Prop := ∀ p, (f p = 1000000 ∧ g p = 99999) ∨ (f p = g p ∧ f p ≤ M)
theorem tw_rx {M a b c : Nat} {f g : Nat → Nat} (h : twB M f g) (hM : M ≤ 90000) (hc : 1 ≤ c ∧ c ≤ 106) : twB (M + 106) (rx f a b c) (rx g a b c) := by
  intro p
  have hp := h p
  by_cases e : p = a
  · subst e
    unfold rx
    rw [setN_same, setN_same]
    have hb := h b
    split <;> split <;> omega
  · rw [rx_out e, rx_out e]; omega
theorem tw_rnd {C : Cty} (hC : wfC C) {M : Nat} {f g : Nat → Nat} (h : twB M f g) (hM : M + 212 * 9 ≤ 90000) : ∀ n, n ≤ C.nr → twB (M + 212 * n) (rnd C n f) (rnd C n g)
  | 0, _ => h
  | n + 1, hn => by
    have h9 := hC.1.2.1
    have hc := stc_b hC (show n < C.nr by omega)
    have ih := tw_rnd hC h hM n (by omega)
    have := tw_rx (a := C.rb n) (b := C.ra n) (tw_rx (a := C.ra n) (b := C.rb n) ih (by omega) hc) (by omega) hc
    rw [show M + 212 * (n + 1) = M + 212 * n + 106 + 106 by omega]
    exact this
theorem tw_rdK {C : Cty} (hC : wfC C) {to : Nat} : ∀ k, k ≤ 7 → twB (2000 * k) (rdK C k (inid 1000000 to)) (rdK C k (inid 99999 to))
  | 0, _ => fun p => by
    show (inid 1000000 to p = 1000000 ∧ inid 99999 to p = 99999) ∨ (inid 1000000 to p = inid 99999 to p ∧ inid 1000000 to p ≤ 2000 * 0)
    unfold inid
    split <;> omega
  | k + 1, hk => by
    have h9 := hC.1.2.1
    have ih := tw_rdK (to := to) hC k (by omega)
    have h1 := tw_rnd hC ih (by omega) C.nr (Nat.le_refl _)
    intro p
    have := h1 p
    show (rnd C C.nr (rdK C k (inid 1000000 to)) p = 1000000 ∧ rnd C C.nr (rdK C k (inid 99999 to)) p = 99999) ∨ (rnd C C.nr (rdK C k (inid 1000000 to)) p = rnd C C.nr (rdK C k (inid 99999 to)) p ∧ rnd C C.nr (rdK C k (inid 1000000 to)) p ≤ 2000 * (k + 1))
    omega
theorem rdK_B (C : Cty) (B to k p : Nat) : rdK C k (inid B to) p ≤ B := by
  have h1 := rdK_le C (inid B to) p k 0
  rw [Nat.zero_add] at h1
  have h2 : inid B to p ≤ B := by unfold inid; split <;> omega
  exact Nat.le_trans h1 h2
theorem nI_min {a b : Nat} (ha : a < 2 ^ 31) (hb : b < 2 ^ 31) : (if nI a < nI b then nI a else nI b) = nI (if a < b then a else b) := by
  by_cases h : a < b
  · rw [if_pos ((nI_ltI ha hb).mpr h), if_pos h]
  · rw [if_neg (fun z => h ((nI_ltI ha hb).mp z)), if_neg h]
