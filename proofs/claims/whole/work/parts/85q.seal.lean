/-! ===== longs that are numbers ===== -/
def nJ (n : Nat) : Int64 := Int64.ofNat n
theorem nJ_toInt {n : Nat} (h : n < 2 ^ 63) : (nJ n).toInt = n := lg_ofNat_toInt h
theorem nJ_ext {x : Int64} {n : Nat} (hn : n < 2 ^ 63) (h : x.toInt = (n : Int)) : x = nJ n := by
  apply Int64.toInt_inj.mp
  rw [h, nJ_toInt hn]
theorem nJ_add (a b : Nat) : nJ a + nJ b = nJ (a + b) := (Int64.ofNat_add a b).symm
theorem nJ_mul (a b : Nat) : nJ a * nJ b = nJ (a * b) := (Int64.ofNat_mul a b).symm
theorem nJ_lt {a b : Nat} (ha : a < 2 ^ 63) (hb : b < 2 ^ 63) : nJ a < nJ b ↔ a < b := by
  rw [Int64.lt_iff_toInt_lt, nJ_toInt ha, nJ_toInt hb]; omega
theorem nJ_le {a b : Nat} (ha : a < 2 ^ 63) (hb : b < 2 ^ 63) : nJ a ≤ nJ b ↔ a ≤ b := by
  rw [Int64.le_iff_toInt_le, nJ_toInt ha, nJ_toInt hb]; omega
theorem nJ_eq {a b : Nat} (ha : a < 2 ^ 63) (hb : b < 2 ^ 63) : nJ a = nJ b ↔ a = b := by
  refine ⟨fun h => ?_, fun h => by rw [h]⟩
  have h2 : (nJ a).toInt = (nJ b).toInt := by rw [h]
  rw [nJ_toInt ha, nJ_toInt hb] at h2
  omega
theorem nJ_I {a : Nat} (h : a < 2 ^ 31) : (nI a).toInt64 = nJ a := nJ_ext (by omega) (by rw [Int32.toInt_toInt64, nI_toInt h])
theorem nJ_div {a b : Nat} (ha : a < 2 ^ 63) (hb : b < 2 ^ 63) (h0 : 0 < b) : nJ a / nJ b = nJ (a / b) := by
  have h1 : a / b ≤ a := Nat.div_le_self _ _
  apply nJ_ext (by omega)
  rw [lg_ldiv_nonneg (by rw [nJ_toInt ha]; omega) (by rw [nJ_toInt hb]; omega), nJ_toInt ha, nJ_toInt hb]
  exact (Int.natCast_ediv a b).symm
theorem nJ_rem {a b : Nat} (ha : a < 2 ^ 63) (hb : b < 2 ^ 63) : nJ a - nJ a / nJ b * nJ b = nJ (a % b) := by
  have h1 : a % b ≤ a := Nat.mod_le _ _
  apply nJ_ext (by omega)
  rw [Int64.toInt_sub, Int64.toInt_mul, Int64.toInt_div, Int.bmod_mul_bmod, Int.sub_bmod_bmod, Int.mul_comm, ← Int.tmod_def, nJ_toInt ha, nJ_toInt hb, Int.tmod_eq_emod_of_nonneg (by omega), ← Int.natCast_emod, Int.bmod_eq_of_le (by omega) (by omega)]
theorem nJ_cmp0 {a b : Nat} (ha : a < 2 ^ 63) (hb : b < 2 ^ 63) : lg_cmp (nJ a) (nJ b) = 0 ↔ a = b := by rw [lg_cmp_eq, nJ_eq ha hb]
theorem nJ_cmple {a b : Nat} (ha : a < 2 ^ 63) (hb : b < 2 ^ 63) : lg_cmp (nJ a) (nJ b) ≤ 0 ↔ a ≤ b := by rw [lg_cmp_le, nJ_le ha hb]
theorem t10 {d : Nat} (h : d ≤ 6) : 1 ≤ 10 ^ d ∧ 10 ^ d ≤ 1000000 := by
  have h1 : 10 ^ d ≤ 10 ^ 6 := Nat.pow_le_pow_right (by decide) h
  have h2 : 0 < 10 ^ d := Nat.pow_pos (by decide)
  omega
/-! ===== when to break a seal ===== -/
def swW (s u m : Nat) : Nat := if m < 5 * s * u then 5 * s * u else m
def swC (s u m : Nat) : Nat := if m < 3 * s * u then 3 * s * u else m
def swN (p : Nat) : Nat → Nat → Nat
  | 0, _ => 0
  | d + 1, s => p * swW s (10 ^ d) (swN p d (opn s)) + (10 - p) * swC s (10 ^ d) (swN p d s)
theorem sw_b {s d m : Nat} (hs : s ≤ 99) (hm : m ≤ 500 * 10 ^ d) : swW s (10 ^ d) m ≤ 500 * 10 ^ d ∧ swC s (10 ^ d) m ≤ 500 * 10 ^ d := by
  have h1 : s * 10 ^ d ≤ 99 * 10 ^ d := Nat.mul_le_mul_right _ hs
  unfold swW swC
  rw [Nat.mul_assoc, Nat.mul_assoc]
  constructor <;> split <;> omega
theorem swN_le {p : Nat} (hp : p ≤ 10) : ∀ d s, s ≤ 99 → swN p d s ≤ 500 * 10 ^ d
  | 0, _, _ => Nat.zero_le _
  | d + 1, s, hs => by
    have h1 := sw_b hs (swN_le hp d (opn s) (Nat.le_trans (opn_le s) hs))
    have h2 := sw_b hs (swN_le hp d s hs)
    show p * swW s (10 ^ d) (swN p d (opn s)) + (10 - p) * swC s (10 ^ d) (swN p d s) ≤ 500 * 10 ^ (d + 1)
    have h3 : p * swW s (10 ^ d) (swN p d (opn s)) ≤ p * (500 * 10 ^ d) := Nat.mul_le_mul_left _ h1.1
    have h4 : (10 - p) * swC s (10 ^ d) (swN p d s) ≤ (10 - p) * (500 * 10 ^ d) := Nat.mul_le_mul_left _ h2.2
    have h5 : p * (500 * 10 ^ d) + (10 - p) * (500 * 10 ^ d) = 10 * (500 * 10 ^ d) := by rw [← Nat.add_mul]; congr 1; omega
    rw [Nat.pow_succ]
    omega
theorem swN_b {p d s : Nat} (hp : p ≤ 10) (hd : d ≤ 6) (hs : s ≤ 99) : swN p d s ≤ 500000000 := by
  have h1 := swN_le hp d s hs
  have h2 := t10 hd
  omega
theorem su_b {s u : Nat} (hs : s ≤ 99) (hu : u ≤ 1000000) : 5 * s * u ≤ 495000000 ∧ 3 * s * u ≤ 297000000 := by
  have h1 : s * u ≤ 99 * 1000000 := Nat.mul_le_mul hs hu
  rw [Nat.mul_assoc, Nat.mul_assoc]
  omega
theorem c_tens {n : Nat} (hn : n ≤ 6) {I : MI} {J : MJ} {Q : Int64 → MI → MJ → Prop} (q : Q (nJ (10 ^ n)) I J) : vc_X2_tens (nI n) I J Q := by
  have loop : ∀ d i, i + d = n → vc_X2_tens_L4 Q (d + 1) (nI n) (nJ (10 ^ i)) (nI i) I J := by
    intro d
    induction d with
    | zero =>
      intro i hi
      have e : i = n := by omega
      subst e
      show vc_X2_tens_L4s Q (vc_X2_tens_L4 Q 0) _ _ _ I J
      unfold vc_X2_tens_L4s
      exact pk_le i i (fun _ => q) (fun z => by omega)
    | succ d ih =>
      intro i hi
      show vc_X2_tens_L4s Q (vc_X2_tens_L4 Q (d + 1)) _ _ _ I J
      unfold vc_X2_tens_L4s
      refine pk_le n i (fun z => by omega) (fun _ => nm_r (show nJ (10 ^ i) * 10 = nJ (10 ^ (i + 1)) from ?_) (nm_r (nI_1 i) (ih (i + 1) (by omega))))
      rw [show (10 : Int64) = nJ 10 from rfl, nJ_mul, Nat.pow_succ]
  exact ⟨n + 1, loop n 0 (by omega)⟩
theorem nJ_mx {a b : Nat} (ha : a < 2 ^ 63) (hb : b < 2 ^ 63) : (if nJ a < nJ b then nJ b else nJ a) = nJ (if a < b then b else a) := by
  by_cases h : a < b
  · rw [if_pos ((nJ_lt ha hb).mpr h), if_pos h]
  · rw [if_neg (fun z => h ((nJ_lt ha hb).mp z)), if_neg h]
theorem c_sealed {p : Nat} (hp : p ≤ 10) : ∀ (f d s : Nat) {I : MI} {J : MJ} {Q : Int64 → MI → MJ → Prop}, d ≤ 6 → d < f → s ≤ 99 → Q (nJ (swN p d s)) I J → vc_X2_sealedWorth f (nI s) (nI d) (nI p) I J Q
  | 0, _, _, _, _, _, _, h, _, _ => absurd h (Nat.not_lt_zero _)
  | f + 1, 0, s, I, J, Q, _, _, _, q => by
    show vcs_X2_sealedWorth (vc_X2_sealedWorth f) _ _ _ I J Q
    unfold vcs_X2_sealedWorth
    exact ⟨fun _ => q, fun z => absurd (by decide) z⟩
  | f + 1, d + 1, s, I, J, Q, hd, hf, hs, q => by
    show vcs_X2_sealedWorth (vc_X2_sealedWorth f) _ _ _ I J Q
    unfold vcs_X2_sealedWorth
    have ho := opn_le s
    have ht := t10 (d := d) (by omega)
    have hb := su_b hs ht.2
    have h1 := swN_b (s := opn s) hp (show d ≤ 6 by omega) (by omega)
    have h2 := swN_b (s := s) hp (show d ≤ 6 by omega) hs
    refine pk_lt (d + 1) 1 (fun z => by omega) (fun _ => pk_le (d + 1) 6 (fun _ => ?_) (fun z => by omega))
    rw [show nI (d + 1) - 1 = nI d from pk_sub (b := 1) (by omega)]
    refine c_tens (by omega) (s_opened (by omega) (c_sealed hp f d (opn s) (by omega) (by omega) (by omega) ?_))
    have e5 : (Int32.toInt64 (5 * nI s)) * nJ (10 ^ d) = nJ (5 * s * 10 ^ d) := by rw [show (5 : Int32) = nI 5 from rfl, pk_mul, nJ_I (by omega), nJ_mul]
    have e3 : (Int32.toInt64 (3 * nI s)) * nJ (10 ^ d) = nJ (3 * s * 10 ^ d) := by rw [show (3 : Int32) = nI 3 from rfl, pk_mul, nJ_I (by omega), nJ_mul]
    rw [e5, e3, nJ_mx (by omega) (by omega)]
    refine nm_e (c_sealed hp f d s (by omega) (by omega) hs ?_)
    rw [nJ_mx (by omega) (by omega)]
    refine nm_e ?_
    rw [show (10 : Int32) = nI 10 from rfl, pk_sub hp, nJ_I (by omega), nJ_I (by omega), nJ_mul, nJ_mul, nJ_add]
    exact q
/-! lowest terms -/
theorem cop2 {o : Nat} (h : o % 2 ≠ 0) : Nat.Coprime o 2 := by
  have h1 : o % 2 = 1 := by omega
  show Nat.gcd o 2 = 1
  rw [Nat.gcd_comm, Nat.gcd_rec, h1]
  decide
theorem cop5 {o : Nat} (h : o % 5 ≠ 0) : Nat.Coprime o 5 := by
  have h1 : o % 5 = 1 ∨ o % 5 = 2 ∨ o % 5 = 3 ∨ o % 5 = 4 := by omega
  show Nat.gcd o 5 = 1
  rw [Nat.gcd_comm, Nat.gcd_rec]
  rcases h1 with e | e | e | e <;> rw [e] <;> decide
theorem gcd_red {A U o u g : Nat} (h1 : A = g * o) (h2 : U = g * u) (hU : 0 < U) (hc : Nat.Coprime o u) : A / Nat.gcd A U = o ∧ U / Nat.gcd A U = u := by
  have hg : 0 < g := by
    rcases Nat.eq_zero_or_pos g with z | z
    · rw [z, Nat.zero_mul] at h2; omega
    · exact z
  have e : Nat.gcd A U = g := by
    rw [h1, h2, Nat.gcd_mul_left, hc, Nat.mul_one]
  rw [e, h1, h2, Nat.mul_div_cancel_left _ hg, Nat.mul_div_cancel_left _ hg]
  exact ⟨rfl, rfl⟩
theorem p25_le {a b n : Nat} (ha : a ≤ n) (hb : b ≤ n) : 2 ^ a * 5 ^ b ≤ 10 ^ n := by
  have h1 : 2 ^ a ≤ 2 ^ n := Nat.pow_le_pow_right (by decide) ha
  have h2 : 5 ^ b ≤ 5 ^ n := Nat.pow_le_pow_right (by decide) hb
  have h3 : (10 : Nat) ^ n = 2 ^ n * 5 ^ n := by rw [← Nat.mul_pow]
  rw [h3]
  exact Nat.mul_le_mul h1 h2
theorem odd5 : ∀ b, 5 ^ b % 2 = 1
  | 0 => rfl
  | b + 1 => by rw [Nat.pow_succ, Nat.mul_mod, odd5 b]
theorem ne5 : ∀ a, 2 ^ a % 5 ≠ 0
  | 0 => by decide
  | a + 1 => by
    have h := ne5 a
    rw [Nat.pow_succ]
    omega
theorem c_lowest {A n : Nat} {part : Int32} (hn : n ≤ 6) (hA : A ≤ 500000000) {I : MI} {J : MJ} {Q : Int64 → MI → MJ → Prop} (q : Q (if part = 0 then nJ (A / Nat.gcd A (10 ^ n)) else nJ (10 ^ n / Nat.gcd A (10 ^ n))) I J) : vc_X2_inLowestTerms (nJ A) (nI n) part I J Q := by
  have ht := t10 hn
  have loop : ∀ d i o a b g, i + d = n → a ≤ n → b ≤ n → A = g * o → 10 ^ n = g * (2 ^ a * 5 ^ b) → (a + i ≤ n ∨ o % 2 ≠ 0 ∨ a = 0) → (b + i ≤ n ∨ o % 5 ≠ 0 ∨ b = 0) → vc_X2_inLowestTerms_L12 Q (d + 1) (nI n) part (nJ o) (nJ (2 ^ a * 5 ^ b)) (nI i) I J := by
    intro d
    induction d with
    | zero =>
      intro i o a b g hi ha hb e1 e2 c2 c5
      show vc_X2_inLowestTerms_L12s Q (vc_X2_inLowestTerms_L12 Q 0) _ _ _ _ _ I J
      unfold vc_X2_inLowestTerms_L12s
      have hc : Nat.Coprime o (2 ^ a * 5 ^ b) := by
        apply Nat.Coprime.mul_right
        · rcases (show o % 2 ≠ 0 ∨ a = 0 by omega) with h | h
          · exact Nat.Coprime.pow_right a (cop2 h)
          · rw [h]; exact Nat.coprime_one_right o
        · rcases (show o % 5 ≠ 0 ∨ b = 0 by omega) with h | h
          · exact Nat.Coprime.pow_right b (cop5 h)
          · rw [h]; exact Nat.coprime_one_right o
      obtain ⟨r1, r2⟩ := gcd_red e1 e2 (by omega) hc
      rw [r1, r2] at q
      refine pk_le n i (fun _ => ⟨fun z => ?_, fun z => ?_⟩) (fun z => by omega)
      · rw [if_neg z] at q; exact q
      · rw [if_pos z] at q; exact q
    | succ d ih =>
      intro i o a b g hi ha hb e1 e2 c2 c5
      have hg : 0 < g := by
        rcases Nat.eq_zero_or_pos g with z | z
        · rw [z, Nat.zero_mul] at e2; omega
        · exact z
      have ho : o ≤ A := by rw [e1]; exact Nat.le_mul_of_pos_left _ hg
      have b56 : ∀ o a g, o ≤ A → a ≤ n → A = g * o → 10 ^ n = g * (2 ^ a * 5 ^ b) → (a + (i + 1) ≤ n ∨ o % 2 ≠ 0 ∨ a = 0) → (b + i ≤ n ∨ o % 5 ≠ 0 ∨ b = 0) → vc_X2_inLowestTerms_B56 Q (vc_X2_inLowestTerms_L12 Q (d + 1)) (nI n) part (nJ o) (nJ (2 ^ a * 5 ^ b)) (nI i) I J := by
        intro o a g ho ha e1 e2 c2 c5
        have hu := p25_le ha hb
        unfold vc_X2_inLowestTerms_B56
        rw [show (5 : Int64) = nJ 5 from rfl, show (0 : Int64) = nJ 0 from rfl, nJ_rem (by omega) (by omega), nJ_rem (by omega) (by omega), nJ_cmp0 (by omega) (by omega), nJ_cmp0 (by omega) (by omega), nJ_div (by omega) (by omega) (by omega), nJ_div (by omega) (by omega) (by omega)]
        refine ⟨fun z => nm_r (nI_1 i) (ih (i + 1) o a b g (by omega) ha hb e1 e2 c2 (by omega)), fun z => ⟨fun z2 => nm_r (nI_1 i) (ih (i + 1) o a b g (by omega) ha hb e1 e2 c2 ?_), fun z2 => ?_⟩⟩
        · refine Or.inr (Or.inr ?_)
          rcases Nat.eq_zero_or_pos b with hb0 | hb0
          · exact hb0
          · obtain ⟨b', rfl⟩ : ∃ b', b = b' + 1 := ⟨b - 1, by omega⟩
            exfalso
            apply z2
            rw [Nat.pow_succ, ← Nat.mul_assoc]
            exact Nat.mul_mod_left _ _
        · obtain ⟨b', rfl⟩ : ∃ b', b = b' + 1 := by
            rcases Nat.eq_zero_or_pos b with hb0 | hb0
            · rw [hb0, Nat.pow_zero, Nat.mul_one] at z2
              exact absurd z2 (ne5 a)
            · exact ⟨b - 1, by omega⟩
          have e3 : 2 ^ a * 5 ^ (b' + 1) / 5 = 2 ^ a * 5 ^ b' := by rw [Nat.pow_succ, ← Nat.mul_assoc, Nat.mul_div_cancel _ (by decide)]
          rw [e3]
          have e4 : o = 5 * (o / 5) := by omega
          refine nm_e (nm_e (nm_r (nI_1 i) (ih (i + 1) (o / 5) a b' (g * 5) (by omega) ha (by omega) ?_ ?_ ?_ ?_)))
          · rw [Nat.mul_assoc, ← e4]; exact e1
          · rw [e2, Nat.pow_succ, Nat.mul_assoc, Nat.mul_comm 5, Nat.mul_assoc]
          · rcases c2 with h | h | h
            · exact Or.inl h
            · exact Or.inr (Or.inl (by omega))
            · exact Or.inr (Or.inr h)
          · rcases c5 with h | h | h
            · exact Or.inl (by omega)
            · omega
            · omega
      have hu := p25_le ha hb
      show vc_X2_inLowestTerms_L12s Q (vc_X2_inLowestTerms_L12 Q (d + 1)) _ _ _ _ _ I J
      unfold vc_X2_inLowestTerms_L12s
      rw [show (2 : Int64) = nJ 2 from rfl, show (0 : Int64) = nJ 0 from rfl, nJ_rem (by omega) (by omega), nJ_rem (by omega) (by omega), nJ_cmp0 (by omega) (by omega), nJ_cmp0 (by omega) (by omega), nJ_div (by omega) (by omega) (by omega), nJ_div (by omega) (by omega) (by omega)]
      refine pk_le n i (fun z => by omega) (fun _ => ⟨fun z => b56 o a g ho ha e1 e2 (by omega) c5, fun z => ⟨fun z2 => b56 o a g ho ha e1 e2 ?_ c5, fun z2 => ?_⟩⟩)
      · refine Or.inr (Or.inr ?_)
        rcases Nat.eq_zero_or_pos a with ha0 | ha0
        · exact ha0
        · obtain ⟨a', rfl⟩ : ∃ a', a = a' + 1 := ⟨a - 1, by omega⟩
          exfalso
          apply z2
          rw [Nat.pow_succ, Nat.mul_comm (2 ^ a') 2, Nat.mul_assoc]
          exact Nat.mul_mod_right _ _
      · obtain ⟨a', rfl⟩ : ∃ a', a = a' + 1 := by
          rcases Nat.eq_zero_or_pos a with ha0 | ha0
          · rw [ha0, Nat.pow_zero, Nat.one_mul, odd5 b] at z2
            omega
          · exact ⟨a - 1, by omega⟩
        have e3 : 2 ^ (a' + 1) * 5 ^ b / 2 = 2 ^ a' * 5 ^ b := by rw [Nat.pow_succ, Nat.mul_comm (2 ^ a') 2, Nat.mul_assoc, Nat.mul_div_cancel_left _ (by decide)]
        rw [e3]
        have e4 : o = 2 * (o / 2) := by omega
        refine nm_e (nm_e (b56 (o / 2) a' (g * 2) (by omega) (by omega) ?_ ?_ ?_ ?_))
        · rw [Nat.mul_assoc, ← e4]; exact e1
        · rw [e2, Nat.pow_succ, Nat.mul_comm (2 ^ a') 2, Nat.mul_assoc, Nat.mul_assoc]
        · rcases c2 with h | h | h
          · exact Or.inl (by omega)
          · omega
          · omega
        · rcases c5 with h | h | h
          · exact Or.inl h
          · exact Or.inr (Or.inl (by omega))
          · exact Or.inr (Or.inr h)
  refine c_tens hn ⟨n + 1, ?_⟩
  have h := loop n 0 A n n 1 (by omega) (Nat.le_refl n) (Nat.le_refl n) (by omega) (by rw [Nat.one_mul, ← Nat.mul_pow]) (Or.inl (by omega)) (Or.inl (by omega))
  rw [← Nat.mul_pow] at h
  exact h
