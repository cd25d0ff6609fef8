/-! ===== the class reads a clause ===== -/
theorem bn_100 : ∀ v, v ≤ 99 → (nI v = -1 ↔ v = 100) := fun v hv => ⟨fun z => absurd z (nI_ne_m1 (by omega)), fun z => by omega⟩
section Clr
variable {T : Rw} {I0 I : MI} {J : MJ} {s t k w : Nat} {N : Cn} {Q : Int32 → MI → MJ → Prop}
theorem c_road (hT : rRw T (I0 1 1) (I0 2)) (wT : wfR T 160 0 255) (ht : t ≤ T.1) (h : CR0 I0 I t k N) (h5 : I 1 5 = nI s) (hk : k < 14) (bN : bdN N)
    (qf : ∀ x, rdRoad T s t w N = .inl x → ∀ I' : MI, FR I0 I' → I' 1 5 = nI x → Q 0 I' J)
    (qs : ∀ a b c, rdRoad T s t w N = .inr (nx T (nx T (nx T t)), (w, a, b, c), (N.1, N.2.1 + 1, N.2.2)) → ∀ I' : MI, CR T I0 I' (nx T (nx T (nx T t))) k (N.1, N.2.1 + 1, N.2.2) → I' 3 = I 3 → (∀ m, m < 3 * k → I' 4 m = I 4 m) → I' 4 (3 * k) = nI a → I' 4 (3 * k + 1) = nI b → I' 4 (3 * k + 2) = nI c → Q 1 I' J) : vc_X6_readRoad I J Q := by
  obtain ⟨fr, h4, h6, h7, h8, h9⟩ := id h
  obtain ⟨bd1, bd2, bd3⟩ := bN
  have t2 := (nx_le T ht).2
  have t3 := (nx_le T t2).2
  unfold vc_X6_readRoad
  refine pk_lt N.2.1 9 (fun y => ?_) (fun y => qf s (by unfold rdRoad; rw [if_neg (by omega)]) I fr h5) h8
  refine nm_r (e' := wI I 1 8 (nI (N.2.1 + 1))) (by rw [h8, nI_1]) ?_
  have r0 : CR0 I0 (wI I 1 8 (nI (N.2.1 + 1))) t k (N.1, N.2.1 + 1, N.2.2) := ⟨⟨fun j a b c => (wI_row a).trans (fr.1 j a b c), fun m hm => (wI_col (by omega)).trans (fr.2 m hm)⟩, (wI_col (by decide)).trans h4, (wI_col (by decide)).trans h6, (wI_col (by decide)).trans h7, wI_same _ _ _ _, (wI_col (by decide)).trans h9⟩
  refine c_nextR hT wT ht r0 (fun I2 r2 a3 a4 => ?_)
  have a3 : I2 3 = I 3 := a3.trans (wI_row (by decide))
  have a4 : I2 4 = I 4 := a4.trans (wI_row (by decide))
  refine c_num hT wT ht r2 hk (sl := 0) (lo := 0) (hx := N.1) (bx := 100) (by decide) (by decide) (by omega) rfl rfl (by rw [r2.1.2.2.2.1]) bn_100 (fun g => b0' ?_) (fun a ga na I3 r3 c3 c4 c5 => b1' ⟨?_, ?_⟩)
  · have g' : numR T t 0 N.1 = none := g.elim id (fun z => by have := (numR_s z).2; omega)
    exact qf (skp T t) (by unfold rdRoad; rw [if_pos y, g']; rfl) I2 r2.1.1 r2.2
  · rw [r3.1.2.1, show (3 : Int32) = nI 3 from rfl, pk_mul]
    exact vp_in_nI (by omega) (by omega)
  · have i3 : I3 4 (Int32.toNatClampNeg (I3 1 4 * 3)) = nI a := by
      rw [r3.1.2.1, show (3 : Int32) = nI 3 from rfl, pk_mul, nI_clamp (by omega), Nat.mul_comm]; exact c4
    have ab := (numR_s ga).2
    rw [i3]
    refine c_num hT wT t2 r3 hk (sl := 1) (lo := 0) (hx := N.1) (bx := a) (by decide) (by decide) (by omega) rfl rfl (by rw [r3.1.2.2.2.1]) (fun v hv => nI_eq (by omega) (by omega)) (fun g => b0' ?_) (fun b gb nb I4 r4 d3 d4 d5 => b1' ?_)
    · refine qf (skp T (nx T t)) ?_ I3 r3.1.1 r3.2
      unfold rdRoad
      rcases g with g | g
      · rw [if_pos y, ga, g]; rfl
      · rw [if_pos y, ga, g]
        show (if a = a then (Sum.inl (skp T (nx T t)) : Nat ⊕ (Nat × Ln × Cn)) else _) = _
        exact if_pos rfl
    · refine c_num hT wT t3 r4 hk (sl := 2) (lo := 1) (hx := 7) (bx := 100) (by decide) (by decide) (by decide) rfl rfl (by decide) bn_100 (fun g => b0' ?_) (fun c gc nc I5 r5 e3 e4 e5 => b1' ?_)
      · have g' : numR T (nx T (nx T t)) 1 7 = none := g.elim id (fun z => by have := (numR_s z).2; omega)
        refine qf (skp T (nx T (nx T t))) ?_ I4 r4.1.1 r4.2
        unfold rdRoad
        rw [if_pos y, ga, gb, g']
        show (if b = a then (Sum.inl (skp T (nx T t)) : Nat ⊕ (Nat × Ln × Cn)) else _) = _
        exact (if_neg nb).trans rfl
      · refine qs a b c ?_ I5 r5 ((e3.trans d3).trans (c3.trans a3)) (fun m hm => ?_) ?_ ?_ e4
        · unfold rdRoad
          rw [if_pos y, ga, gb, gc]
          show (if b = a then (Sum.inl (skp T (nx T t)) : Nat ⊕ (Nat × Ln × Cn)) else _) = _
          exact (if_neg nb).trans rfl
        · rw [e5 m (by omega), d5 m (by omega), c5 m (by omega), a4]
        · rw [e5 _ (by omega), d5 _ (by omega)]; exact c4
        · rw [e5 _ (by omega)]; exact d4
theorem c_cart (hT : rRw T (I0 1 1) (I0 2)) (wT : wfR T 160 0 255) (ht : t ≤ T.1) (h : CR0 I0 I t k N) (h5 : I 1 5 = nI s) (hk : k < 14) (bN : bdN N)
    (qf : ∀ x, rdCart T s t w N = .inl x → ∀ I' : MI, FR I0 I' → I' 1 5 = nI x → Q 0 I' J)
    (qs : ∀ a b, rdCart T s t w N = .inr (nx T (nx T t), (w, a, b, 0), (N.1, N.2.1, N.2.2 + 1)) → ∀ I' : MI, CR T I0 I' (nx T (nx T t)) k (N.1, N.2.1, N.2.2 + 1) → I' 3 = I 3 → (∀ m, m < 3 * k → I' 4 m = I 4 m) → I' 4 (3 * k) = nI a → I' 4 (3 * k + 1) = nI b → Q 1 I' J) : vc_X6_readCart I J Q := by
  obtain ⟨fr, h4, h6, h7, h8, h9⟩ := id h
  obtain ⟨bd1, bd2, bd3⟩ := bN
  have t2 := (nx_le T ht).2
  unfold vc_X6_readCart
  refine pk_lt N.2.2 4 (fun y => ?_) (fun y => qf s (by unfold rdCart; rw [if_neg (by omega)]) I fr h5) h9
  refine nm_r (e' := wI I 1 9 (nI (N.2.2 + 1))) (by rw [h9, nI_1]) ?_
  have r0 : CR0 I0 (wI I 1 9 (nI (N.2.2 + 1))) t k (N.1, N.2.1, N.2.2 + 1) := ⟨⟨fun j a b c => (wI_row a).trans (fr.1 j a b c), fun m hm => (wI_col (by omega)).trans (fr.2 m hm)⟩, (wI_col (by decide)).trans h4, (wI_col (by decide)).trans h6, (wI_col (by decide)).trans h7, (wI_col (by decide)).trans h8, wI_same _ _ _ _⟩
  refine c_nextR hT wT ht r0 (fun I2 r2 a3 a4 => ?_)
  have a3 : I2 3 = I 3 := a3.trans (wI_row (by decide))
  have a4 : I2 4 = I 4 := a4.trans (wI_row (by decide))
  refine c_num hT wT ht r2 hk (sl := 0) (lo := 0) (hx := N.1) (bx := 100) (by decide) (by decide) (by omega) rfl rfl (by rw [r2.1.2.2.2.1]) bn_100 (fun g => b0' ?_) (fun a ga na I3 r3 c3 c4 c5 => b1' ?_)
  · have g' : numR T t 0 N.1 = none := g.elim id (fun z => by have := (numR_s z).2; omega)
    exact qf (skp T t) (by unfold rdCart; rw [if_pos y, g']; rfl) I2 r2.1.1 r2.2
  · refine c_num hT wT t2 r3 hk (sl := 1) (lo := 0) (hx := 4) (bx := 100) (by decide) (by decide) (by decide) rfl rfl (by decide) bn_100 (fun g => b0' ?_) (fun b gb nb I4 r4 d3 d4 d5 => b1' ?_)
    · have g' : numR T (nx T t) 0 4 = none := g.elim id (fun z => by have := (numR_s z).2; omega)
      exact qf (skp T (nx T t)) (by unfold rdCart; rw [if_pos y, ga, g']; rfl) I3 r3.1.1 r3.2
    · refine qs a b ?_ I4 r4 (d3.trans (c3.trans a3)) (fun m hm => ?_) ?_ d4
      · unfold rdCart
        rw [if_pos y, ga, gb]; rfl
      · rw [d5 m (by omega), c5 m (by omega), a4]
      · rw [d5 _ (by omega)]; exact c4
end Clr
theorem cwo_r {w : Nat} (h : w ≤ 12) : (w = 10 ∧ cwo w = 0) ∨ (w < 10 ∧ cwo w = w + 1) ∨ (10 < w ∧ cwo w = w) := by
  unfold cwo
  by_cases h1 : w = 10
  · rw [if_pos h1]; omega
  · rw [if_neg h1]
    by_cases h2 : w < 10
    · rw [if_pos h2]; omega
    · rw [if_neg h2]; omega
theorem nn_r {w : Nat} (h0 : 4 ≤ w) (h : w < 7) : nn w = 3 := by unfold nn; rw [if_neg (by omega), if_pos h]
theorem nn_c {w : Nat} (h0 : 7 ≤ w) (h : w < 10) : nn w = 2 := by unfold nn; rw [if_neg (by omega), if_neg (by omega), if_pos h]
theorem nn_w {w : Nat} (h : w = 11) : nn w = 1 := by rw [h]; rfl
theorem nn_0 {w : Nat} (h : w < 4 ∨ w = 10 ∨ 12 ≤ w) : nn w = 0 := by
  unfold nn
  by_cases h1 : w < 4
  · rw [if_pos h1]
  · rw [if_neg h1, if_neg (by omega), if_neg (by omega), if_neg (by omega)]
theorem c_line {T : Rw} {I0 I : MI} {J : MJ} {e k : Nat} {N : Cn} (hT : rRw T (I0 1 1) (I0 2)) (wT : wfR T 160 0 255) (he : e ≤ T.1) (h : CR T I0 I e k N) (hk : k < 14) (bN : bdN N) {Q : Int32 → MI → MJ → Prop}
    (qf : ∀ x, rdLine T e N = .inl x → ∀ I' : MI, FR I0 I' → I' 1 5 = nI x → Q 0 I' J)
    (qs : ∀ e' L N', rdLine T e N = .inr (e', L, N') → ∀ I' : MI, CR T I0 I' e' k N' → (∀ i, i < k → I' 3 i = I 3 i) → (∀ m, m < 3 * k → I' 4 m = I 4 m) → lnC L k I' → Q 1 I' J) : vc_X6_readClause I J Q := by
  obtain ⟨h0, h5⟩ := id h
  obtain ⟨fr, h4, h6, h7, h8, h9⟩ := id h0
  obtain ⟨s1, s2⟩ := skp_le T he
  obtain ⟨t1, t2, -⟩ := tke_le T s2
  have t2' : nx T e ≤ T.1 := t2
  have t1' : skp T e ≤ nx T e := t1
  unfold vc_X6_readClause
  refine c_word (T := T) (s := skp T e) (t := nx T e) (by rw [fr.2 1 (by decide), fr.1 2 (by decide) (by decide) (by decide)]; exact hT) wT h5 h6 t1' t2' ?_
  have hw13 := wrd_le T.2 (skp T e) (nx T e - skp T e)
  have hR : rdLine T e N = rdW T (skp T e) (nx T e) (wrd T.2 (skp T e) (nx T e - skp T e)) N := rfl
  generalize wrd T.2 (skp T e) (nx T e - skp T e) = w at hw13 hR ⊢
  by_cases c0 : w = 13
  · rw [show kwI w = -1 from if_pos c0]
    exact ⟨fun z => absurd rfl z, fun _ => qf _ (by rw [hR, rdW_13 c0]) I fr h5⟩
  rw [show kwI w = nI (cwo w) from if_neg c0]
  have hc := cwo_r (w := w) (by omega)
  refine ⟨fun _ => ⟨by rw [h4]; exact vp_in_nI hk (by decide), ?_⟩, fun z => absurd z (nI_ne_m1 (by omega))⟩
  refine nm_r (e' := wI I 3 k (nI (cwo w))) (by rw [h4, nI_clamp (by omega)]) ?_
  have r6 : CR0 I0 (wI I 3 k (nI (cwo w))) (nx T e) k N := ⟨⟨fun j a b c => (wI_row b).trans (fr.1 j a b c), fr.2⟩, h4, h6, h7, h8, h9⟩
  have r65 : wI I 3 k (nI (cwo w)) 1 5 = nI (skp T e) := h5
  have g3 : ∀ i, i < k → wI I 3 k (nI (cwo w)) 3 i = I 3 i := fun i hi => wI_col (by omega)
  have g3k : wI I 3 k (nI (cwo w)) 3 k = nI (cwo w) := wI_same _ _ _ _
  have g4 : wI I 3 k (nI (cwo w)) 4 = I 4 := wI_row (by decide)
  generalize wI I 3 k (nI (cwo w)) = I6 at r6 r65 g3 g3k g4 ⊢
  have fr6 := r6.1
  -- a clause without numbers, or with those that are laid
  have fin : ∀ e' a b c N', rdLine T e N = .inr (e', (w, a, b, c), N') → ∀ I' : MI, CR T I0 I' e' k N' → I' 3 = I6 3 → (∀ m, m < 3 * k → I' 4 m = I6 4 m) → (∀ j, j < nn w → I' 4 (3 * k + j) = nI (lnm (w, a, b, c) j)) → Q 1 I' J := fun e' a b c N' er I' r i3 i4 il => qs e' _ N' er I' r (fun i hi => by rw [i3]; exact g3 i hi) (fun m hm => by rw [i4 m hm, g4]) ⟨by rw [i3]; exact g3k, il⟩
  generalize hcw : cwo w = cw at hc g3k ⊢
  by_cases c10 : w = 10
  · have e0 : cw = 0 := by omega
    rw [e0]
    refine ⟨fun z => absurd rfl z, fun _ => nm_e (nm_e (nm_e ?_))⟩
    refine c_nextR (e := nx T e) (k := k) (N := (0, 0, 0)) hT wT t2' ⟨⟨fun j a b c => (wI_row a).trans ((wI_row a).trans ((wI_row a).trans (fr6.1 j a b c))), fun m hm => (wI_col (by omega)).trans ((wI_col (by omega)).trans ((wI_col (by omega)).trans (fr6.2 m hm)))⟩, ?_, ?_, ?_, ?_, wI_same _ _ _ _⟩ (fun I' r i3 i4 => fin _ 0 0 0 _ (by rw [hR, rdW_l c10]) I' r ?_ ?_ (fun j hj => ?_))
    · rw [wI_col (by decide), wI_col (by decide), wI_col (by decide)]; exact r6.2.1
    · rw [wI_col (by decide), wI_col (by decide), wI_col (by decide)]; exact r6.2.2.1
    · rw [wI_col (by decide), wI_col (by decide), wI_same]; rfl
    · rw [wI_col (by decide), wI_same]; rfl
    · rw [i3, wI_row (by decide), wI_row (by decide), wI_row (by decide)]
    · intro m hm
      rw [i4, wI_row (by decide), wI_row (by decide), wI_row (by decide)]
    · rw [nn_0 (by omega)] at hj; omega
  refine ⟨fun _ => ?_, fun z => absurd z (nI_ne0 (by omega) (by omega))⟩
  refine pk_le 5 cw (fun z5 => pk_le 8 cw (fun z8 => pk_le 11 cw (fun z11 => ?_) (fun z11 => ?_)) (fun z8 => ?_)) (fun z5 => ?_)
  · -- warm, calm
    refine c_nextR (k := k) (N := N) hT wT t2' r6 (fun I2 r2 a3 a4 => ?_)
    rw [show (12 : Int32) = nI 12 from rfl, nI_eq (by omega) (by omega)]
    refine ⟨fun z => fin _ 0 0 0 _ (by rw [hR, rdW_m (by omega)]) I2 r2 a3 (fun m hm => by rw [a4]) (fun j hj => by rw [nn_0 (by omega)] at hj; omega), fun z => ?_⟩
    have w11 : w = 11 := by omega
    refine c_num hT wT t2' r2 hk (sl := 0) (lo := 0) (hx := 48) (bx := 100) (by decide) (by decide) (by decide) rfl rfl (by decide) bn_100 (fun g => b0' ?_) (fun a ga na I3 r3 c3 c4 c5 => b1' ?_)
    · have g' : numR T (nx T e) 0 48 = none := g.elim id (fun z => by have := (numR_s z).2; omega)
      exact qf (skp T (nx T e)) (by rw [hR, rdW_w w11]; unfold rdWarm; rw [g']; rfl) I2 r2.1.1 r2.2
    · refine fin _ a 0 0 _ (by rw [hR, rdW_w w11]; unfold rdWarm; rw [ga]; rfl) I3 r3 (c3.trans a3) (fun m hm => by rw [c5 m (by omega), a4]) (fun j hj => ?_)
      rw [nn_w w11] at hj
      have ej : j = 0 := by omega
      subst ej
      exact c4
  · -- a cart
    refine c_cart (w := w) (s := skp T e) hT wT t2' r6 r65 hk bN (fun x er I' f e5 => ⟨.inl rfl, qf x (by rw [hR, rdW_c (by omega) (by omega)]; exact er) I' f e5⟩) (fun a b er I' r i3 i4 ia ib => ⟨.inr rfl, fin _ a b 0 _ (by rw [hR, rdW_c (by omega) (by omega)]; exact er) I' r i3 i4 (fun j hj => ?_)⟩)
    rw [nn_c (by omega) (by omega)] at hj
    by_cases j0 : j = 0
    · subst j0; exact ia
    · have j1 : j = 1 := by omega
      subst j1; exact ib
  · -- a road
    refine c_road (w := w) (s := skp T e) hT wT t2' r6 r65 hk bN (fun x er I' f e5 => ⟨.inl rfl, qf x (by rw [hR, rdW_r (by omega) (by omega)]; exact er) I' f e5⟩) (fun a b c er I' r i3 i4 ia ib ic => ⟨.inr rfl, fin _ a b c _ (by rw [hR, rdW_r (by omega) (by omega)]; exact er) I' r i3 i4 (fun j hj => ?_)⟩)
    rw [nn_r (by omega) (by omega)] at hj
    by_cases j0 : j = 0
    · subst j0; exact ia
    · by_cases j1 : j = 1
      · subst j1; exact ib
      · have j2 : j = 2 := by omega
        subst j2; exact ic
  · -- a place
    obtain ⟨bd1, bd2, bd3⟩ := bN
    unfold vc_X6_readPlace
    refine pk_lt N.1 7 (fun y => nm_r (e' := wI I6 1 7 (nI (N.1 + 1))) (by rw [r6.2.2.2.1, nI_1]) ?_) (fun y => ⟨.inl rfl, qf _ (by rw [hR, rdW_p (by omega), if_neg (by omega)]) I6 fr6 r65⟩) r6.2.2.2.1
    refine c_nextR (e := nx T e) (k := k) (N := (N.1 + 1, N.2.1, N.2.2)) hT wT t2' ⟨⟨fun j a b c => (wI_row a).trans (fr6.1 j a b c), fun m hm => (wI_col (by omega)).trans (fr6.2 m hm)⟩, (wI_col (by decide)).trans r6.2.1, (wI_col (by decide)).trans r6.2.2.1, wI_same _ _ _ _, (wI_col (by decide)).trans r6.2.2.2.2.1, (wI_col (by decide)).trans r6.2.2.2.2.2⟩ (fun I' r i3 i4 => ⟨.inr rfl, fin _ 0 0 0 _ (by rw [hR, rdW_p (by omega), if_pos y]) I' r (i3.trans (wI_row (by decide))) (fun m hm => by rw [i4, wI_row (by decide)]) (fun j hj => ?_)⟩)
    rw [nn_0 (by omega)] at hj; omega
