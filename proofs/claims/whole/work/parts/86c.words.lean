/-! ===== words: spelled letter by letter, or told by a number ===== -/
def txs : List (List Nat) := [[108, 97, 110, 100], [119, 97, 114, 109], [99, 97, 108, 109], [99, 114, 111, 115, 115, 105, 110, 103], [109, 111, 117, 110, 116, 97, 105, 110], [99, 101, 108, 108, 97, 114], [99, 105, 116, 121], [114, 111, 97, 100], [115, 104, 97, 100, 101, 100], [98, 97, 110, 100, 105, 116, 115], [], [99, 97, 114, 116], [111, 108, 100], [115, 116, 97, 109, 112, 101, 100]]
def tln (k : Nat) : Nat := (txs.getD k []).length
def tch_ (k i : Nat) : Nat := (txs.getD k []).getD i 0
theorem tx_len : ∀ k, k < 14 → stL.getD k 0 = tln k ∧ Int32.ofNat (stL.getD k 0) = nI (tln k) ∧ Int32.ofNat (stL.getD k 0) >>> ((0 : Int32) &&& 31) = nI (tln k) ∧ tln k ≤ 8 ∧ (k ≠ 10 → 1 ≤ tln k) := by decide +kernel
theorem tx_chr : ∀ k, k < 14 → ∀ i, i < tln k → stC k (nI i) = nI (tch_ k i) ∧ 97 ≤ tch_ k i ∧ tch_ k i ≤ 122 := by decide +kernel
/-- the letters from s on, m of them, spell the text k -/
def spl (f : Nat → Nat) (s m k : Nat) : Bool := decide (m = tln k ∧ ∀ i, i < m → f (s + i) = tch_ k i)
theorem spl_i {f : Nat → Nat} {s m k : Nat} : spl f s m k = true ↔ (m = tln k ∧ ∀ i, i < m → f (s + i) = tch_ k i) := by unfold spl; exact decide_eq_true_iff
theorem spl_n {f : Nat → Nat} {s m k : Nat} (h : ¬ (m = tln k ∧ ∀ i, i < m → f (s + i) = tch_ k i)) : spl f s m k = false := by unfold spl; exact decide_eq_false h
section Wrd
variable {T : Rw} {I : MI} {J : MJ} {s t : Nat}
theorem c_spells (hT : rRw T (I 1 1) (I 2)) (wT : wfR T 160 0 255) (h5 : I 1 5 = nI s) (h6 : I 1 6 = nI t) (hst : s ≤ t) (ht : t ≤ T.1) {k : Nat} (hk : k < 14) (hk0 : k ≠ 10) {Q : Int32 → MI → MJ → Prop} (q1 : spl T.2 s (t - s) k = true → Q 1 I J) (q0 : spl T.2 s (t - s) k = false → Q 0 I J) : vc_X6_spells k I J Q := by
  have n160 := wT.1
  obtain ⟨l1, l2, l3, l4, l5⟩ := tx_len k hk
  have l5 := l5 hk0
  have loop : t - s = tln k → ∀ d i, i + d = tln k → (∀ j, j < i → T.2 (s + j) = tch_ k j) → vc_X6_spells_L27 k Q (d + 1) (nI i) I J := by
    intro hm d
    induction d with
    | zero =>
      intro i hi hj
      show vc_X6_spells_L27s k Q (vc_X6_spells_L27 k Q 0) (nI i) I J
      unfold vc_X6_spells_L27s vc_J0_length_8abf5
      rw [l3]
      exact pk_le (tln k) i (fun _ => q1 (spl_i.mpr ⟨hm, fun j hj' => hj j (by omega)⟩)) (fun z => by omega)
    | succ d ih =>
      intro i hi hj
      show vc_X6_spells_L27s k Q (vc_X6_spells_L27 k Q (d + 1)) (nI i) I J
      unfold vc_X6_spells_L27s vc_J0_length_8abf5
      rw [l3]
      have hc := tx_chr k hk i (by omega)
      have v := (wT.2 (s + i) (by omega)).2
      have hl : I 2 (Int32.toNatClampNeg (I 1 5 + nI i)) = nI (T.2 (s + i)) := by
        rw [h5, nI_add, nI_clamp (by omega)]; exact hT.2 _ (by omega)
      refine pk_le (tln k) i (fun z => by omega) (fun _ => ⟨by rw [h5, nI_add]; exact vp_in_nI (by omega) (by omega), ?_⟩)
      unfold vc_J0_charAt_5068e
      refine ⟨by rw [l1]; exact vp_in_nI (by omega) (by omega), nI_pos (by omega), by rw [l2]; exact nI_lt (by omega) (by omega), ?_⟩
      rw [hl, hc.1]
      refine pk_eq (T.2 (s + i)) (tch_ k i) (fun z => nm_r (nI_1 i) (ih (i + 1) (by omega) (fun j hj' => ?_))) (fun z => q0 (spl_n (fun y => z (y.2 i (by omega)))))
      by_cases e : j = i
      · rw [e]; exact z
      · exact hj j (by omega)
  unfold vc_X6_spells vc_J0_isEmpty_aae02
  rw [l2]
  refine ⟨fun _ => b0 ?_, fun z => absurd z (nI_ne0 (by omega) (by omega))⟩
  unfold vc_J0_length_8abf5
  rw [l3, h5, h6, pk_sub hst]
  exact pk_eq (t - s) (tln k) (fun z => ⟨tln k + 1, loop z (tln k) 0 (by omega) (fun j hj => absurd hj (Nat.not_lt_zero j))⟩) (fun z => q0 (spl_n (fun y => z y.1)))
theorem c_spells0 {Q : Int32 → MI → MJ → Prop} (q0 : Q 0 I J) : vc_X6_spells 10 I J Q := by
  unfold vc_X6_spells vc_J0_isEmpty_aae02
  refine ⟨fun z => absurd (by decide) z, fun _ => b1 q0⟩
end Wrd
/-- which word: a place's kind 0 to 3, a road's and 4, a cart's and 7, 10 land, 11 warm, 12 calm, 13 none -/
def wrd (f : Nat → Nat) (s m : Nat) : Nat := if spl f s m 0 then 10 else if spl f s m 1 then 11 else if spl f s m 2 then 12 else if spl f s m 3 then 0 else if spl f s m 4 then 1 else if spl f s m 5 then 2 else if spl f s m 6 then 3 else if spl f s m 7 then 4 else if spl f s m 8 then 5 else if spl f s m 9 then 6 else if spl f s m 11 then 7 else if spl f s m 12 then 8 else if spl f s m 13 then 9 else 13
theorem le13 {c : Bool} {a b : Nat} (ha : a ≤ 13) (hb : b ≤ 13) : (if c then a else b) ≤ 13 := by
  cases c
  · exact hb
  · exact ha
theorem wrd_le (f : Nat → Nat) (s m : Nat) : wrd f s m ≤ 13 :=
  le13 (by decide) (le13 (by decide) (le13 (by decide) (le13 (by decide) (le13 (by decide) (le13 (by decide) (le13 (by decide) (le13 (by decide) (le13 (by decide) (le13 (by decide) (le13 (by decide) (le13 (by decide) (le13 (by decide) (by decide)))))))))))))
/-- the class's number of a word -/
def cwo (w : Nat) : Nat := if w = 10 then 0 else if w < 10 then w + 1 else w
def kwI (w : Nat) : Int32 := if w = 13 then -1 else nI (cwo w)
def mwI (w : Nat) : Int32 := if w = 13 then -1 else nI w
theorem c_word {T : Rw} {I : MI} {J : MJ} {s t : Nat} (hT : rRw T (I 1 1) (I 2)) (wT : wfR T 160 0 255) (h5 : I 1 5 = nI s) (h6 : I 1 6 = nI t) (hst : s ≤ t) (ht : t ≤ T.1) {Q : Int32 → MI → MJ → Prop} (q : Q (kwI (wrd T.2 s (t - s))) I J) : vc_X6_wordInHand I J Q := by
  have S : ∀ {k : Nat} (hk : k < 14) (hk0 : k ≠ 10) {R : Int32 → MI → MJ → Prop}, (spl T.2 s (t - s) k = true → R 1 I J) → (spl T.2 s (t - s) k = false → R 0 I J) → vc_X6_spells k I J R := fun {k} hk hk0 {R} a b => c_spells hT wT h5 h6 hst ht hk hk0 a b
  have fin : ∀ {w : Nat} {x : Int32}, wrd T.2 s (t - s) = w → kwI w = x → Q x I J := fun e1 e2 => by rw [e1, e2] at q; exact q
  unfold vc_X6_wordInHand vc_X6_kindOf
  refine S (by decide) (by decide) (fun z => b1' (fin (w := 10) (by simp [wrd, z]) (by decide))) (fun z0 => b0' ?_)
  refine S (by decide) (by decide) (fun z => b1' (fin (w := 11) (by simp [wrd, z, z0]) (by decide))) (fun z1 => b0' ?_)
  refine S (by decide) (by decide) (fun z => b1' (fin (w := 12) (by simp [wrd, z, z0, z1]) (by decide))) (fun z2 => b0' ?_)
  have mm : ∀ {x : Int32} {A B : Prop}, x ≠ -1 → B → (x = -1 → A) ∧ (¬ x = -1 → B) := fun h b => ⟨fun z => absurd z h, fun _ => b⟩
  have m0 : ∀ {A B : Prop}, A → ((-1 : Int32) = -1 → A) ∧ (¬ (-1 : Int32) = -1 → B) := fun a => ⟨fun _ => a, fun z => absurd rfl z⟩
  refine S (by decide) (by decide) (fun z => b1' (mm (by decide) (fin (w := 0) (by simp [wrd, z, z0, z1, z2]) (by decide)))) (fun z3 => b0' ?_)
  refine S (by decide) (by decide) (fun z => b1' (mm (by decide) (fin (w := 1) (by simp [wrd, z, z0, z1, z2, z3]) (by decide)))) (fun z4 => b0' ?_)
  refine S (by decide) (by decide) (fun z => b1' (mm (by decide) (fin (w := 2) (by simp [wrd, z, z0, z1, z2, z3, z4]) (by decide)))) (fun z5 => b0' ?_)
  refine S (by decide) (by decide) (fun z => b1' (mm (by decide) (fin (w := 3) (by simp [wrd, z, z0, z1, z2, z3, z4, z5]) (by decide)))) (fun z6 => b0' (m0 ?_))
  refine S (by decide) (by decide) (fun z => b1' (mm (by decide) (fin (w := 4) (by simp [wrd, z, z0, z1, z2, z3, z4, z5, z6]) (by decide)))) (fun z7 => b0' ?_)
  refine S (by decide) (by decide) (fun z => b1' (mm (by decide) (fin (w := 5) (by simp [wrd, z, z0, z1, z2, z3, z4, z5, z6, z7]) (by decide)))) (fun z8 => b0' ?_)
  refine S (by decide) (by decide) (fun z => b1' (mm (by decide) (fin (w := 6) (by simp [wrd, z, z0, z1, z2, z3, z4, z5, z6, z7, z8]) (by decide)))) (fun z9 => b0' ?_)
  refine c_spells0 (b0' (m0 ?_))
  refine S (by decide) (by decide) (fun z => b1' (mm (by decide) (fin (w := 7) (by simp [wrd, z, z0, z1, z2, z3, z4, z5, z6, z7, z8, z9]) (by decide)))) (fun z11 => b0' ?_)
  refine S (by decide) (by decide) (fun z => b1' (mm (by decide) (fin (w := 8) (by simp [wrd, z, z0, z1, z2, z3, z4, z5, z6, z7, z8, z9, z11]) (by decide)))) (fun z12 => b0' ?_)
  refine S (by decide) (by decide) (fun z => b1' (mm (by decide) (fin (w := 9) (by simp [wrd, z, z0, z1, z2, z3, z4, z5, z6, z7, z8, z9, z11, z12]) (by decide)))) (fun z13 => b0' ?_)
  exact c_spells0 (b0' (m0 (fin (w := 13) (by simp [wrd, z0, z1, z2, z3, z4, z5, z6, z7, z8, z9, z11, z12, z13]) (by decide))))
/-! the reference's numbers of the words -/
theorem vl_inj {f g : Nat → Nat} {s u : Nat} : ∀ m n, (∀ i, i < m → sm (f (s + i)) = true) → (∀ i, i < n → sm (g (u + i)) = true) → vl f s m = vl g u n → m = n ∧ ∀ i, i < m → f (s + i) = g (u + i)
  | 0, 0, _, _, _ => ⟨rfl, fun i hi => absurd hi (Nat.not_lt_zero i)⟩
  | 0, n + 1, _, h2, h => by
    have := sm_i.mp (h2 n (by omega))
    have h : 0 = 27 * vl g u n + (g (u + n) - 96) := h
    omega
  | m + 1, 0, h1, _, h => by
    have := sm_i.mp (h1 m (by omega))
    have h : 27 * vl f s m + (f (s + m) - 96) = 0 := h
    omega
  | m + 1, n + 1, h1, h2, h => by
    have a := sm_i.mp (h1 m (by omega))
    have b := sm_i.mp (h2 n (by omega))
    have h : 27 * vl f s m + (f (s + m) - 96) = 27 * vl g u n + (g (u + n) - 96) := h
    obtain ⟨e, c⟩ := vl_inj m n (fun i hi => h1 i (by omega)) (fun i hi => h2 i (by omega)) (by omega)
    refine ⟨by omega, fun i hi => ?_⟩
    by_cases ei : i = m
    · rw [ei]
      have : f (s + m) = g (u + n) := by omega
      rw [this, e]
    · exact c i (by omega)
theorem vl_cg {f g : Nat → Nat} {s u : Nat} : ∀ m, (∀ i, i < m → f (s + i) = g (u + i)) → vl f s m = vl g u m
  | 0, _ => rfl
  | m + 1, h => by
    show 27 * vl f s m + (f (s + m) - 96) = 27 * vl g u m + (g (u + m) - 96)
    rw [vl_cg m (fun i hi => h i (by omega)), h m (by omega)]
theorem vl_lt {f : Nat → Nat} {s : Nat} : ∀ m, (∀ i, i < m → sm (f (s + i)) = true) → vl f s m < 27 ^ m
  | 0, _ => Nat.one_pos
  | m + 1, h => by
    have a := vl_lt m (fun i hi => h i (by omega))
    have b := sm_i.mp (h m (by omega))
    show 27 * vl f s m + (f (s + m) - 96) < 27 ^ (m + 1)
    rw [Nat.pow_succ]
    omega
theorem p27 : ∀ m, m < 10 → 27 ^ m ≤ 27 ^ 9 := fun m h => Nat.pow_le_pow_right (by decide) (by omega)
theorem vl_63 {f : Nat → Nat} {s m : Nat} (hm : m ≤ 9) (h : ∀ i, i < m → sm (f (s + i)) = true) : vl f s m < 2 ^ 63 := by
  have a := vl_lt m h
  have b := p27 m (by omega)
  have c : (27 : Nat) ^ 9 < 2 ^ 63 := by decide +kernel
  omega
def wn (k : Nat) : Nat := vl (tch_ k) 0 (tln k)
theorem wn_63 : ∀ k, k < 14 → wn k < 2 ^ 63 ∧ lN (wn k) ≠ -1 ∧ lN (wn k) ≠ -2 ∧ lN (wn k) ≠ -3 ∧ lN (wn k) ≠ -4 := by decide +kernel
theorem tke_sm {T : Rw} {s : Nat} (h : s < T.1) (h1 : sm (T.2 s) = true) : ∀ i, i < tke T s - s → sm (T.2 (s + i)) = true := by
  intro i hi
  rw [tke_s h h1] at hi
  by_cases e : i = 0
  · rw [e]; exact h1
  · exact runF_all sm T.2 (T.1 - (s + 1)) (s + 1) (s + i) (by omega) (by omega)
/-- the reference's number tells the word -/
theorem tkv_w {T : Rw} {s : Nat} (hs : s ≤ T.1) {k : Nat} (hk : k < 14) (hk0 : k ≠ 10) : tkv T s = lN (wn k) ↔ spl T.2 s (tke T s - s) k = true := by
  obtain ⟨l1, l2, l3, l4, l5⟩ := tx_len k hk
  have l5 := l5 hk0
  obtain ⟨w1, w2, w3, w4, w5⟩ := wn_63 k hk
  have ch := fun i hi => (tx_chr k hk i hi).2
  by_cases hse : T.1 ≤ s
  · rw [tkv_e hse, spl_i, tke_e hse]
    exact ⟨fun z => absurd z.symm w3, fun z => by omega⟩
  have hs1 : s < T.1 := by omega
  have hle := (tke_le T hs).2.2 hs1
  cases h1 : sm (T.2 s) with
  | true =>
    have hsm := tke_sm hs1 h1
    rw [tkv_s hs1 h1]
    by_cases h9 : tke T s - s ≤ 9
    · rw [if_pos h9, pk_lEQ (vl_63 h9 hsm) w1, spl_i]
      constructor
      · intro e
        obtain ⟨a, b⟩ := vl_inj (g := tch_ k) (u := 0) _ _ hsm (fun i hi => sm_i.mpr (by rw [Nat.zero_add]; exact ch i hi)) e
        exact ⟨a, fun i hi => by rw [b i hi, Nat.zero_add]⟩
      · rintro ⟨a, b⟩
        unfold wn
        rw [← a]
        exact vl_cg _ (fun i hi => by rw [b i hi, Nat.zero_add])
    · rw [if_neg h9, spl_i]
      exact ⟨fun z => absurd z.symm w5, fun z => by omega⟩
  | false =>
    have no : ¬ spl T.2 s (tke T s - s) k = true := by
      rw [spl_i]
      rintro ⟨a, b⟩
      have b0 := b 0 (by omega)
      have c0 := ch 0 (by omega)
      rw [Nat.add_zero] at b0
      rw [← b0] at c0
      rw [sm_i.mpr c0] at h1
      cases h1
    refine ⟨fun z => ?_, fun z => absurd z no⟩
    exfalso
    cases h2 : dg (T.2 s) with
    | true =>
      rw [tkv_d hs1 h2 h1] at z
      split at z
      · exact w2 z.symm
      · exact w5 z.symm
    | false =>
      rw [tkv_o hs1 h2 h1] at z
      split at z
      · exact w4 z.symm
      · exact w5 z.symm
