/-! ===== the reference reads a clause ===== -/
def MF (I0 : MI) (J0 : MJ) (I : MI) (J : MJ) : Prop := (∀ j, j ≠ 87 → j ≠ 92 → I j = I0 j) ∧ (∀ m, (m < 9 ∨ 18 < m) → I 87 m = I0 87 m) ∧ JX J0 J
/-- the end of what is read is e; k clauses; so many places, roads, carts -/
def MR (I0 : MI) (J0 : MJ) (I : MI) (J : MJ) (e k : Nat) (N : Cn) : Prop := MF I0 J0 I J ∧ I 87 9 = nI e ∧ I 87 15 = nI k ∧ I 87 16 = nI N.1 ∧ I 87 17 = nI N.2.1 ∧ I 87 18 = nI N.2.2
section Mln
variable {T : Rw} {I0 I : MI} {J0 J : MJ} {e k : Nat} {N : Cn}
theorem m_nextR (hT : rRw T (I0 87 7) (I0 91)) (wT : wfR T 160 0 255) (he : e ≤ T.1) (h : MR I0 J0 I J e k N) {Q : MI → MJ → Prop} (q : ∀ (I' : MI) (J' : MJ), MR I0 J0 I' J' (nx T e) k N → I' 92 = I 92 → I' 87 10 = nI (skp T e) → J' 87 11 = tkv T (skp T e) → (skp T e < T.1 → dg (T.2 (skp T e)) = true → I' 87 13 = nI (nv T.2 (skp T e) (nx T e - skp T e))) → Q I' J') : vc_X11_nextToken I J Q := by
  obtain ⟨⟨f1, f2, f3⟩, h9, h15, h16, h17, h18⟩ := h
  refine m_nxt (T := T) (e := e) (by rw [f2 7 (by decide), f1 91 (by decide) (by decide)]; exact hT) wT he h9 (fun I' J' k kj e10 e9 e11 e13 => q I' J' ⟨⟨fun j a b => (k.1 j a).trans (f1 j a b), fun m hm => (k.2 m (by omega) (by omega) (by omega) (by omega)).trans (f2 m hm), fun j a => (kj.1 j a).trans (f3.1 j a), fun m a => (kj.2 m a).trans (f3.2 m a)⟩, e9, ?_, ?_, ?_, ?_⟩ (k.1 92 (by decide)) e10 e11 e13)
  · rw [k.2 15 (by decide) (by decide) (by decide) (by decide)]; exact h15
  · rw [k.2 16 (by decide) (by decide) (by decide) (by decide)]; exact h16
  · rw [k.2 17 (by decide) (by decide) (by decide) (by decide)]; exact h17
  · rw [k.2 18 (by decide) (by decide) (by decide) (by decide)]; exact h18
theorem m_fails {x : Nat} (h : MR I0 J0 I J e k N) (h10 : I 87 10 = nI x) {Q : Int32 → MI → MJ → Prop} (q : ∀ I' : MI, MF I0 J0 I' J → I' 87 14 = nI x → Q 0 I' J) : vc_X11_fails I J Q :=
  nm_r (e' := wI I 87 14 (nI x)) (by rw [h10]) (q _ ⟨fun j a b => (wI_row a).trans (h.1.1 j a b), fun m hm => (wI_col (by omega)).trans (h.1.2.1 m hm), h.1.2.2⟩ (wI_same _ _ _ _))
theorem m_num (hT : rRw T (I0 87 7) (I0 91)) (wT : wfR T 160 0 255) (he : e ≤ T.1) (h : MR I0 J0 I J e k N) {p lo hx : Nat} {p1 p2 p3 : Int32} (hp : p < 56) (hlo : lo ≤ 100) (hhx : hx ≤ 100) (e1 : p1 = nI p) (e2 : p2 = nI lo) (e3 : p3 = nI hx - 1) {Q : Int32 → MI → MJ → Prop}
    (q0 : numR T e lo hx = none → ∀ (I' : MI) (J' : MJ), MF I0 J0 I' J' → I' 87 14 = nI (skp T e) → Q 0 I' J')
    (q1 : ∀ v, numR T e lo hx = some v → ∀ (I' : MI) (J' : MJ), MR I0 J0 I' J' (nx T e) k N → I' 87 10 = nI (skp T e) → I' 92 p = nI v → (∀ m, m ≠ p → I' 92 m = I 92 m) → Q 1 I' J') : vc_X11_isNumber p1 p2 p3 I J Q := by
  subst e1
  have n160 := wT.1
  obtain ⟨s1, s2⟩ := skp_le T he
  unfold vc_X11_isNumber
  refine m_nextR hT wT he h (fun I' J' r i92 i10 i11 i13 => ?_)
  have bad : numR T e lo hx = none → vc_X11_isNumber_B27 Q I' J' := fun g => by
    unfold vc_X11_isNumber_B27
    exact m_fails r i10 (fun I2 f e14 => ⟨.inl rfl, q0 g I2 J' f e14⟩)
  rw [lg_eq0, i11, tkv_1 s2]
  refine ⟨fun z => bad (numR_f (fun y => z ⟨y.1, y.2.1, y.2.2.1⟩)), fun z => ?_⟩
  obtain ⟨z1, z2, z3⟩ := z
  have v99 : nv T.2 (skp T e) (nx T e - skp T e) ≤ 99 := nv_99 z1 z2 z3
  refine m_wi (by omega) hlo hhx (i13 z1 z2) e2 e3 (fun l1 l2 => b1 ⟨vp_in_nI hp (by decide), ?_⟩) (fun l => b0 (bad (numR_f (fun y => l y.2.2.2))))
  rw [nI_clamp (by omega), i13 z1 z2]
  refine nm_e (q1 _ (numR_t z1 z2 z3 l1 l2) _ J' ⟨⟨fun j a b => (wI_row b).trans (r.1.1 j a b), r.1.2.1, r.1.2.2⟩, r.2⟩ i10 (wI_same _ _ _ _) (fun m hm => (wI_col hm).trans (by rw [i92])))
end Mln
section Mlr
variable {T : Rw} {I0 I : MI} {J0 J : MJ} {s t k w : Nat} {N : Cn} {Q : Int32 → MI → MJ → Prop}
theorem m_road (hT : rRw T (I0 87 7) (I0 91)) (wT : wfR T 160 0 255) (ht : t ≤ T.1) (h : MR I0 J0 I J t k N) (h10 : I 87 10 = nI s) (hk : k < 14) (bN : bdN N)
    (qf : ∀ x, rdRoad T s t w N = .inl x → ∀ (I' : MI) (J' : MJ), MF I0 J0 I' J' → I' 87 14 = nI x → Q 0 I' J')
    (qs : ∀ a b c, rdRoad T s t w N = .inr (nx T (nx T (nx T t)), (w, a, b, c), (N.1, N.2.1 + 1, N.2.2)) → ∀ (I' : MI) (J' : MJ), MR I0 J0 I' J' (nx T (nx T (nx T t))) k (N.1, N.2.1 + 1, N.2.2) → (∀ m, m ≤ 4 * k → I' 92 m = I 92 m) → I' 92 (4 * k + 1) = nI a → I' 92 (4 * k + 2) = nI b → I' 92 (4 * k + 3) = nI c → Q 1 I' J') : vc_X11_isRoadLine (nI (4 * k)) I J Q := by
  obtain ⟨fr, h9, h15, h16, h17, h18⟩ := id h
  obtain ⟨bd1, bd2, bd3⟩ := bN
  have t2 := (nx_le T ht).2
  have t3 := (nx_le T t2).2
  unfold vc_X11_isRoadLine
  rw [show nI (4 * k) + 1 = nI (4 * k + 1) from nI_add _ 1, show nI (4 * k) + 2 = nI (4 * k + 2) from nI_add _ 2, show nI (4 * k) + 3 = nI (4 * k + 3) from nI_add _ 3]
  rw [h17, show (9 : Int32) = nI 9 from rfl, nI_eq (by omega) (by omega)]
  refine ⟨fun y => ?_, fun y => m_fails h h10 (fun I' f e14 => ⟨.inl rfl, qf s (by unfold rdRoad; rw [if_neg (by omega)]) I' J f e14⟩)⟩
  have y' : N.2.1 < 9 := by omega
  refine nm_r (e' := wI I 87 17 (nI (N.2.1 + 1))) (by rw [nI_1]) ?_
  have r0 : MR I0 J0 (wI I 87 17 (nI (N.2.1 + 1))) J t k (N.1, N.2.1 + 1, N.2.2) := ⟨⟨fun j a b => (wI_row a).trans (fr.1 j a b), fun m hm => (wI_col (by omega)).trans (fr.2.1 m hm), fr.2.2⟩, (wI_col (by decide)).trans h9, (wI_col (by decide)).trans h15, (wI_col (by decide)).trans h16, wI_same _ _ _ _, (wI_col (by decide)).trans h18⟩
  refine m_num hT wT ht r0 (p := 4 * k + 1) (lo := 0) (hx := N.1) (by omega) (by decide) (by omega) rfl rfl (by rw [r0.2.2.2.1]) (fun g I2 J2 f e14 => b0' ?_) (fun a ga I3 J3 r3 i10 c4 c5 => b1' ?_)
  · exact qf (skp T t) (by unfold rdRoad; rw [if_pos y', g]; rfl) I2 J2 f e14
  have a1 := (numR_s ga).2
  refine m_num hT wT t2 r3 (p := 4 * k + 2) (lo := 0) (hx := N.1) (by omega) (by decide) (by omega) rfl rfl (by rw [r3.2.2.2.1]) (fun g I2 J2 f e14 => b0 ?_) (fun b gb I4 J4 r4 j10 d4 d5 => b1 ⟨vp_in_nI (by omega) (by omega), vp_in_nI (by omega) (by omega), ?_⟩)
  · exact qf (skp T (nx T t)) (by unfold rdRoad; rw [if_pos y', ga, g]; rfl) I2 J2 f e14
  have b1_ := (numR_s gb).2
  rw [nI_clamp (by omega), nI_clamp (by omega), d4, d5 (4 * k + 1) (by omega), c4, nI_eq (by omega) (by omega)]
  refine ⟨fun nab => ?_, fun eab => m_fails r4 j10 (fun I' f e14 => ⟨.inl rfl, qf (skp T (nx T t)) ?_ I' J4 f e14⟩)⟩
  · have nb : ¬ b = a := fun z => nab z.symm
    refine m_num hT wT t3 r4 (p := 4 * k + 3) (lo := 1) (hx := 7) (by omega) (by decide) (by decide) rfl rfl (by decide) (fun g I2 J2 f e14 => ⟨.inl rfl, ?_⟩) (fun c gc I5 J5 r5 k10 e4 e5 => ⟨.inr rfl, ?_⟩)
    · refine qf (skp T (nx T (nx T t))) ?_ I2 J2 f e14
      unfold rdRoad
      rw [if_pos y', ga, gb, g]
      show (if b = a then (Sum.inl (skp T (nx T t)) : Nat ⊕ (Nat × Ln × Cn)) else _) = _
      exact (if_neg nb).trans rfl
    · refine qs a b c ?_ I5 J5 r5 (fun m hm => ?_) ?_ ?_ e4
      · unfold rdRoad
        rw [if_pos y', ga, gb, gc]
        show (if b = a then (Sum.inl (skp T (nx T t)) : Nat ⊕ (Nat × Ln × Cn)) else _) = _
        exact (if_neg nb).trans rfl
      · rw [e5 m (by omega), d5 m (by omega), c5 m (by omega), wI_row (by decide)]
      · rw [e5 _ (by omega), d5 _ (by omega)]; exact c4
      · rw [e5 _ (by omega)]; exact d4
  · unfold rdRoad
    rw [if_pos y', ga, gb]
    show (if b = a then (Sum.inl (skp T (nx T t)) : Nat ⊕ (Nat × Ln × Cn)) else _) = _
    exact if_pos eab.symm
end Mlr
theorem m_line {T : Rw} {I0 I : MI} {J0 J : MJ} {e k : Nat} {N : Cn} (hT : rRw T (I0 87 7) (I0 91)) (wT : wfR T 160 0 255) (he : e ≤ T.1) (h : MR I0 J0 I J e k N) (hk : k < 14) (bN : bdN N) {Q : Int32 → MI → MJ → Prop}
    (qf : ∀ x, rdLine T e N = .inl x → ∀ (I' : MI) (J' : MJ), MF I0 J0 I' J' → I' 87 14 = nI x → Q 0 I' J')
    (qs : ∀ e' L N', rdLine T e N = .inr (e', L, N') → ∀ (I' : MI) (J' : MJ), MR I0 J0 I' J' e' k N' → (∀ m, m < 4 * k → I' 92 m = I 92 m) → lnM L k I' → Q 1 I' J') : vc_X11_isLine (nI (4 * k)) I J Q := by
  obtain ⟨s1, s2⟩ := skp_le T he
  have t2 : nx T e ≤ T.1 := (nx_le T he).2
  obtain ⟨bd1, bd2, bd3⟩ := id bN
  unfold vc_X11_isLine
  refine m_nextR hT wT he h (fun I1 J1 r1 i92 i10 i11 i13 => m_sort ?_)
  have hw13 := wrd_le T.2 (skp T e) (nx T e - skp T e)
  have hR : rdLine T e N = rdW T (skp T e) (nx T e) (wrd T.2 (skp T e) (nx T e - skp T e)) N := rfl
  rw [i11, srt_w s2, show tke T (skp T e) = nx T e from rfl]
  generalize wrd T.2 (skp T e) (nx T e - skp T e) = w at hw13 hR ⊢
  refine ⟨vp_in_nI (by omega) (by decide), ?_⟩
  rw [nI_clamp (by omega)]
  refine nm_e ?_
  have r6 : MR I0 J0 (wI I1 92 (4 * k) (mwI w)) J1 (nx T e) k N := ⟨⟨fun j a b => (wI_row b).trans (r1.1.1 j a b), r1.1.2.1, r1.1.2.2⟩, r1.2⟩
  have r10 : wI I1 92 (4 * k) (mwI w) 87 10 = nI (skp T e) := i10
  have g3 : ∀ m, m < 4 * k → wI I1 92 (4 * k) (mwI w) 92 m = I 92 m := fun m hm => (wI_col (by omega)).trans (by rw [i92])
  have g3k : wI I1 92 (4 * k) (mwI w) 92 (4 * k) = mwI w := wI_same _ _ _ _
  generalize wI I1 92 (4 * k) (mwI w) = I6 at r6 r10 g3 g3k ⊢
  by_cases c0 : w = 13
  · rw [show mwI w = -1 from if_pos c0]
    exact ⟨fun z => absurd rfl z, fun _ => m_fails r6 r10 (fun I' f e14 => ⟨.inl rfl, qf _ (by rw [hR, rdW_13 c0]) I' J1 f e14⟩)⟩
  rw [show mwI w = nI w from if_neg c0] at g3k ⊢
  obtain ⟨fr6, h9, h15, h16, h17, h18⟩ := id r6
  have fin : ∀ e' a b c N', rdLine T e N = .inr (e', (w, a, b, c), N') → ∀ (I' : MI) (J' : MJ), MR I0 J0 I' J' e' k N' → (∀ m, m ≤ 4 * k → I' 92 m = I6 92 m) → (∀ j, j < nn w → I' 92 (4 * k + 1 + j) = nI (lnm (w, a, b, c) j)) → Q 1 I' J' := fun e' a b c N' er I' J' r i4 il => qs e' _ N' er I' J' r (fun m hm => by rw [i4 m (by omega)]; exact g3 m hm) ⟨by rw [i4 _ (Nat.le_refl _)]; exact g3k, il⟩
  refine ⟨fun _ => ?_, fun z => absurd z (nI_ne_m1 (by omega))⟩
  refine pk_le 4 w (fun z4 => pk_le 7 w (fun z7 => pk_le 10 w (fun z10 => ?_) (fun z10 => ?_)) (fun z7 => ?_)) (fun z4 => ?_)
  · rw [show (10 : Int32) = nI 10 from rfl, nI_eq (by omega) (by omega)]
    refine ⟨fun n10 => ?_, fun e10 => nm_e (nm_e (nm_e ?_))⟩
    · unfold vc_X11_isLine_B160
      rw [show (11 : Int32) = nI 11 from rfl, nI_eq (by omega) (by omega), show nI (4 * k) + 1 = nI (4 * k + 1) from nI_add _ 1]
      refine ⟨fun n11 => fin _ 0 0 0 _ (by rw [hR, rdW_m (by omega)]) I6 J1 r6 (fun m hm => rfl) (fun j hj => by rw [nn_0 (by omega)] at hj; omega), fun w11 => ?_⟩
      refine m_num hT wT t2 r6 (p := 4 * k + 1) (lo := 0) (hx := 48) (by omega) (by decide) (by decide) rfl rfl (by decide) (fun g I2 J2 f e14 => b0' ?_) (fun a ga I3 J3 r3 k10 c4 c5 => b1' ?_)
      · exact qf (skp T (nx T e)) (by rw [hR, rdW_w w11]; unfold rdWarm; rw [g]; rfl) I2 J2 f e14
      · refine fin _ a 0 0 _ (by rw [hR, rdW_w w11]; unfold rdWarm; rw [ga]; rfl) I3 J3 r3 (fun m hm => c5 m (by omega)) (fun j hj => ?_)
        rw [nn_w w11] at hj
        have ej : j = 0 := by omega
        subst ej
        exact c4
    · unfold vc_X11_isLine_B160
      rw [show (11 : Int32) = nI 11 from rfl, nI_eq (by omega) (by omega)]
      refine ⟨fun n11 => fin _ 0 0 0 (0, 0, 0) (by rw [hR, rdW_l e10]) _ J1 ⟨⟨fun j a b => (wI_row a).trans ((wI_row a).trans ((wI_row a).trans (fr6.1 j a b))), fun m hm => (wI_col (by omega)).trans ((wI_col (by omega)).trans ((wI_col (by omega)).trans (fr6.2.1 m hm))), fr6.2.2⟩, ?_, ?_, ?_, ?_, wI_same _ _ _ _⟩ (fun m hm => ?_) (fun j hj => by rw [nn_0 (by omega)] at hj; omega), fun w11 => by omega⟩
      · rw [wI_col (by decide), wI_col (by decide), wI_col (by decide)]; exact h9
      · rw [wI_col (by decide), wI_col (by decide), wI_col (by decide)]; exact h15
      · rw [wI_col (by decide), wI_col (by decide), wI_same]; rfl
      · rw [wI_col (by decide), wI_same]; rfl
      · rw [wI_row (by decide), wI_row (by decide), wI_row (by decide)]
  · -- a cart
    rw [h18, show (4 : Int32) = nI 4 from rfl, nI_eq (by omega) (by omega), show nI (4 * k) + 1 = nI (4 * k + 1) from nI_add _ 1, show nI (4 * k) + 2 = nI (4 * k + 2) from nI_add _ 2]
    have er := rdW_c (T := T) (s := skp T e) (t := nx T e) (N := N) (by omega) z10
    refine ⟨fun y => ?_, fun y => m_fails r6 r10 (fun I' f e14 => ⟨.inl rfl, qf _ (by rw [hR, er]; unfold rdCart; rw [if_neg (by omega)]) I' J1 f e14⟩)⟩
    have y' : N.2.2 < 4 := by omega
    refine nm_r (e' := wI I6 87 18 (nI (N.2.2 + 1))) (by rw [nI_1]) ?_
    have r0 : MR I0 J0 (wI I6 87 18 (nI (N.2.2 + 1))) J1 (nx T e) k (N.1, N.2.1, N.2.2 + 1) := ⟨⟨fun j a b => (wI_row a).trans (fr6.1 j a b), fun m hm => (wI_col (by omega)).trans (fr6.2.1 m hm), fr6.2.2⟩, (wI_col (by decide)).trans h9, (wI_col (by decide)).trans h15, (wI_col (by decide)).trans h16, (wI_col (by decide)).trans h17, wI_same _ _ _ _⟩
    refine m_num hT wT t2 r0 (p := 4 * k + 1) (lo := 0) (hx := N.1) (by omega) (by decide) (by omega) rfl rfl (by rw [r0.2.2.2.1]) (fun g I2 J2 f e14 => b0' ?_) (fun a ga I3 J3 r3 k10 c4 c5 => b1' ?_)
    · exact qf (skp T (nx T e)) (by rw [hR, er]; unfold rdCart; rw [if_pos y', g]; rfl) I2 J2 f e14
    · refine m_num hT wT (nx_le T t2).2 r3 (p := 4 * k + 2) (lo := 0) (hx := 4) (by omega) (by decide) (by decide) rfl rfl (by decide) (fun g I2 J2 f e14 => b0' ?_) (fun b gb I4 J4 r4 l10 d4 d5 => b1' ?_)
      · exact qf (skp T (nx T (nx T e))) (by rw [hR, er]; unfold rdCart; rw [if_pos y', ga, g]; rfl) I2 J2 f e14
      · refine fin _ a b 0 (N.1, N.2.1, N.2.2 + 1) (by rw [hR, er]; unfold rdCart; rw [if_pos y', ga, gb]; rfl) I4 J4 r4 (fun m hm => by rw [d5 m (by omega), c5 m (by omega), wI_row (by decide)]) (fun j hj => ?_)
        rw [nn_c (by omega) (by omega)] at hj
        by_cases j0 : j = 0
        · subst j0
          rw [d5 _ (by omega)]; exact c4
        · have j1 : j = 1 := by omega
          subst j1; exact d4
  · -- a road
    have er := rdW_r (T := T) (s := skp T e) (t := nx T e) (N := N) z4 z7
    refine m_road (w := w) (s := skp T e) hT wT t2 r6 r10 hk bN (fun x ex I' J' f e14 => ⟨.inl rfl, qf x (by rw [hR, er]; exact ex) I' J' f e14⟩) (fun a b c ex I' J' r i4 ia ib ic => ⟨.inr rfl, fin _ a b c _ (by rw [hR, er]; exact ex) I' J' r i4 (fun j hj => ?_)⟩)
    rw [nn_r (by omega) (by omega)] at hj
    by_cases j0 : j = 0
    · subst j0; exact ia
    · by_cases j1 : j = 1
      · subst j1; exact ib
      · have j2 : j = 2 := by omega
        subst j2; exact ic
  · -- a place
    have er := rdW_p (T := T) (s := skp T e) (t := nx T e) (N := N) z4
    refine nm_r (e' := wI I6 87 16 (nI (N.1 + 1))) (by rw [h16, nI_1]) ?_
    have r0 : MR I0 J0 (wI I6 87 16 (nI (N.1 + 1))) J1 (nx T e) k (N.1 + 1, N.2.1, N.2.2) := ⟨⟨fun j a b => (wI_row a).trans (fr6.1 j a b), fun m hm => (wI_col (by omega)).trans (fr6.2.1 m hm), fr6.2.2⟩, (wI_col (by decide)).trans h9, (wI_col (by decide)).trans h15, wI_same _ _ _ _, (wI_col (by decide)).trans h17, (wI_col (by decide)).trans h18⟩
    have r10' : wI I6 87 16 (nI (N.1 + 1)) 87 10 = nI (skp T e) := (wI_col (by decide)).trans r10
    have g92 : ∀ m, m ≤ 4 * k → wI I6 87 16 (nI (N.1 + 1)) 92 m = I6 92 m := fun m hm => by rw [wI_row (by decide)]
    refine pk_le (N.1 + 1) 7 (fun y => fin _ 0 0 0 _ (by rw [hR, er, if_pos (by omega)]) _ J1 r0 g92 (fun j hj => by rw [nn_0 (by omega)] at hj; omega)) (fun y => m_fails r0 r10' (fun I' f e14 => b0' (qf _ (by rw [hR, er, if_neg (by omega)]) I' J1 f e14))) (wI_same _ _ _ _)
