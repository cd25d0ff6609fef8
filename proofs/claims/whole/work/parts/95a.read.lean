/-! ===== the whole text ===== -/
/-- the place of the fault, or the clauses -/
def rdAll (T : Rw) : Nat → Nat → Cn → Nat ⊕ List Ln
  | 0, _, _ => .inl 0
  | d + 1, e, N => (rdLine T e N).elim (fun x => .inl x) (fun r => if skp T r.1 = T.1 then .inr [r.2.1] else if T.2 (skp T r.1) = 59 ∧ d ≠ 0 then (rdAll T d (nx T r.1) r.2.2).elim (fun x => .inl x) (fun Ls => .inr (r.2.1 :: Ls)) else .inl (skp T r.1))
theorem rdAll_f {T : Rw} {d e x : Nat} {N : Cn} (h : rdLine T e N = .inl x) : rdAll T (d + 1) e N = .inl x := by
  show (rdLine T e N).elim _ _ = _
  rw [h]; rfl
theorem rdAll_s {T : Rw} {d e e' : Nat} {L : Ln} {N N' : Cn} (h : rdLine T e N = .inr (e', L, N')) : rdAll T (d + 1) e N = if skp T e' = T.1 then .inr [L] else if T.2 (skp T e') = 59 ∧ d ≠ 0 then (rdAll T d (nx T e') N').elim (fun x => .inl x) (fun Ls => .inr (L :: Ls)) else .inl (skp T e') := by
  show (rdLine T e N).elim _ _ = _
  rw [h]; rfl
def chain : Cn → List Ln → Prop
  | _, [] => True
  | N, L :: Ls => ∃ N', okL N L N' ∧ chain N' Ls
theorem rdAll_ok {T : Rw} : ∀ d e (N : Cn) (Ls : List Ln), e ≤ T.1 → rdAll T d e N = .inr Ls → chain N Ls ∧ Ls.length ≤ d
  | 0, e, N, Ls, _, h => by
    have h : (Sum.inl 0 : Nat ⊕ List Ln) = .inr Ls := h
    cases h
  | d + 1, e, N, Ls, he, h => by
    cases hl : rdLine T e N with
    | inl x => rw [rdAll_f hl] at h; cases h
    | inr r =>
      obtain ⟨e', L, N'⟩ := r
      obtain ⟨o1, o2⟩ := rdLine_ok he hl
      rw [rdAll_s hl] at h
      by_cases c1 : skp T e' = T.1
      · rw [if_pos c1] at h
        cases h
        exact ⟨⟨N', o1, trivial⟩, Nat.succ_le_succ (Nat.zero_le _)⟩
      · rw [if_neg c1] at h
        by_cases c2 : T.2 (skp T e') = 59 ∧ d ≠ 0
        · rw [if_pos c2] at h
          cases hr : rdAll T d (nx T e') N' with
          | inl x => rw [hr] at h; cases h
          | inr Ls' =>
            rw [hr] at h
            have h : (Sum.inr (L :: Ls') : Nat ⊕ List Ln) = .inr Ls := h
            cases h
            obtain ⟨a, b⟩ := rdAll_ok d (nx T e') N' Ls' (nx_le T o2).2 hr
            exact ⟨⟨N', o1, a⟩, Nat.succ_le_succ b⟩
        · rw [if_neg c2] at h; cases h
theorem gq {L0 : List Ln} {L L' : Ln} {i : Nat} (h : (L0 ++ [L])[i]? = some L') : (L0[i]? = some L' ∧ i < L0.length) ∨ (i = L0.length ∧ L' = L) := by
  by_cases hi : i < L0.length
  · rw [List.getElem?_append_left hi] at h; exact .inl ⟨h, hi⟩
  · rw [List.getElem?_append_right (by omega)] at h
    cases e : i - L0.length with
    | zero => rw [e] at h; exact .inr ⟨by omega, (Option.some.inj h).symm⟩
    | succ n => rw [e] at h; simp at h
theorem nn_3 (w : Nat) : nn w ≤ 3 := by
  unfold nn
  by_cases h1 : w < 4
  · rw [if_pos h1]; decide
  · by_cases h2 : w < 7
    · rw [if_neg h1, if_pos h2]; decide
    · by_cases h3 : w < 10
      · rw [if_neg h1, if_neg h2, if_pos h3]; decide
      · by_cases h4 : w = 11
        · rw [if_neg h1, if_neg h2, if_neg h3, if_pos h4]; decide
        · rw [if_neg h1, if_neg h2, if_neg h3, if_neg h4]; decide
theorem lnC.cg {L : Ln} {i : Nat} {I I' : MI} (h : lnC L i I) (e3 : I' 3 i = I 3 i) (e4 : ∀ j, j < 3 → I' 4 (3 * i + j) = I 4 (3 * i + j)) : lnC L i I' :=
  ⟨e3.trans h.1, fun j hj => (e4 j (Nat.lt_of_lt_of_le hj (nn_3 _))).trans (h.2 j hj)⟩
theorem lnM.cg {L : Ln} {i : Nat} {I I' : MI} (h : lnM L i I) (e : ∀ m, m ≤ 4 * i + 3 → I' 92 m = I 92 m) : lnM L i I' :=
  ⟨(e _ (by omega)).trans h.1, fun j hj => (e _ (by have := nn_3 L.1; omega)).trans (h.2 j hj)⟩
theorem c_all {T : Rw} {I0 : MI} {J : MJ} {Q : Int32 → MI → MJ → Prop} (hT : rRw T (I0 1 1) (I0 2)) (wT : wfR T 160 0 255) : ∀ d e k (N : Cn) (I : MI) (L0 : List Ln), k + d = 14 → d ≠ 0 → e ≤ T.1 → bdN N → CR0 I0 I e k N → L0.length = k → (∀ i L, L0[i]? = some L → lnC L i I) →
    (∀ x, rdAll T d e N = .inl x → ∀ I' : MI, FR I0 I' → Q (nI x) I' J) →
    (∀ Ls, rdAll T d e N = .inr Ls → ∀ I' : MI, FR I0 I' → I' 1 4 = nI (k + Ls.length) → (∀ i L, (L0 ++ Ls)[i]? = some L → lnC L i I') → Q (-1) I' J) → vc_X6_readOver_L36 Q (d + 1) (nI k) I J := by
  have n160 := wT.1
  intro d
  induction d with
  | zero => intro e k N I L0 hk hd; exact absurd rfl hd
  | succ d ih =>
    intro e k N I L0 hk hd he bN h hL0 hrc qf qs
    show vc_X6_readOver_L36s Q (vc_X6_readOver_L36 Q (d + 1)) (nI k) I J
    unfold vc_X6_readOver_L36s
    refine pk_le 14 k (fun z => by omega) (fun _ => ?_)
    refine c_nextR hT wT he h (fun I1 r1 a3 a4 => ?_)
    refine c_line hT wT he r1 (by omega) bN (fun x ex I2 f e5 => b0 ?_) (fun e' L N' el I2 r2 b3 b4 bl => b1 ?_)
    · rw [e5]; exact qf x (rdAll_f ex) I2 f
    obtain ⟨o1, o2⟩ := rdLine_ok he el
    refine nm_r (e' := wI I2 1 4 (nI (k + 1))) (by rw [r2.1.2.1, nI_1]) ?_
    have f8 : FR I0 (wI I2 1 4 (nI (k + 1))) := ⟨fun j a b c => (wI_row a).trans (r2.1.1.1 j a b c), fun m hm => (wI_col (by omega)).trans (r2.1.1.2 m hm)⟩
    have r8 : CR T I0 (wI I2 1 4 (nI (k + 1))) e' (k + 1) N' := ⟨⟨f8, wI_same _ _ _ _, (wI_col (by decide)).trans r2.1.2.2.1, (wI_col (by decide)).trans r2.1.2.2.2.1, (wI_col (by decide)).trans r2.1.2.2.2.2.1, (wI_col (by decide)).trans r2.1.2.2.2.2.2⟩, (wI_col (by decide)).trans r2.2⟩
    have l8 : ∀ i L', (L0 ++ [L])[i]? = some L' → lnC L' i (wI I2 1 4 (nI (k + 1))) := by
      intro i L' hi
      rcases gq hi with ⟨h1, h2⟩ | ⟨h1, h2⟩
      · refine (hrc i L' h1).cg ?_ (fun j hj => ?_)
        · rw [wI_row (by decide), b3 i (by omega), a3]
        · rw [wI_row (by decide), b4 _ (by omega), a4]
      · subst h2
        rw [h1, hL0]
        exact bl.cg (by rw [wI_row (by decide)]) (fun j hj => by rw [wI_row (by decide)])
    have k8 : wI I2 1 4 (nI (k + 1)) 1 4 = nI (k + 1) := wI_same _ _ _ _
    generalize wI I2 1 4 (nI (k + 1)) = I8 at f8 r8 l8 k8 ⊢
    obtain ⟨s1, s2⟩ := skp_le T o2
    have hr := rdAll_s (d := d) el
    have e15 : I8 1 5 = nI (skp T e') := r8.2
    have e11 : I8 1 1 = nI T.1 := (f8.2 1 (by decide)).trans hT.1
    have e2 : I8 2 = I0 2 := f8.1 2 (by decide) (by decide) (by decide)
    rw [e15, e11, nI_eq (by omega) (by omega)]
    refine ⟨fun z => ⟨vp_in_nI (by omega) (by decide), ?_⟩, fun z => qs [L] (by rw [hr, if_pos z]) I8 f8 k8 l8⟩
    have hsT : skp T e' < T.1 := by omega
    have v := (wT.2 _ hsT).2
    rw [nI_clamp (by omega), e2, hT.2 _ hsT, show (59 : Int32) = nI 59 from rfl, nI_eq (by omega) (by omega)]
    refine ⟨fun y => nm_r (nI_1 k) ?_, fun y => qf _ (by rw [hr, if_neg z, if_neg (fun x => y x.1)]) I8 f8⟩
    by_cases d0 : d = 0
    · subst d0
      show vc_X6_readOver_L36s Q (vc_X6_readOver_L36 Q 0) (nI (k + 1)) I8 J
      unfold vc_X6_readOver_L36s
      refine pk_le 14 (k + 1) (fun _ => ?_) (fun x => by omega)
      rw [e15]
      exact qf _ (by rw [hr, if_neg z, if_neg (fun x => x.2 rfl)]) I8 f8
    · refine ih (nx T e') (k + 1) N' I8 (L0 ++ [L]) (by omega) d0 (nx_le T o2).2 (okL_bd o1 bN) r8.1 (by rw [List.length_append, hL0]; rfl) l8 (fun x ex I' f => qf x ?_ I' f) (fun Ls ex I' f c l => qs (L :: Ls) ?_ I' f ?_ ?_)
      · rw [hr, if_neg z, if_pos ⟨y, d0⟩, ex]; rfl
      · rw [hr, if_neg z, if_pos ⟨y, d0⟩, ex]; rfl
      · rw [c, List.length_cons, show k + 1 + Ls.length = k + (Ls.length + 1) by omega]
      · intro i L' hi
        refine l i L' ?_
        rw [List.append_assoc]; exact hi
theorem m_all {T : Rw} {I0 : MI} {J0 : MJ} {Q : Int32 → MI → MJ → Prop} (hT : rRw T (I0 87 7) (I0 91)) (wT : wfR T 160 0 255) : ∀ d e k (N : Cn) (I : MI) (J : MJ) (L0 : List Ln), k + d = 14 → d ≠ 0 → e ≤ T.1 → bdN N → MR I0 J0 I J e k N → L0.length = k → (∀ i L, L0[i]? = some L → lnM L i I) →
    (∀ x, rdAll T d e N = .inl x → ∀ (I' : MI) (J' : MJ), MF I0 J0 I' J' → I' 87 14 = nI x → Q 0 I' J') →
    (∀ Ls, rdAll T d e N = .inr Ls → ∀ (I' : MI) (J' : MJ), MF I0 J0 I' J' → I' 87 15 = nI (k + Ls.length) → (∀ i L, (L0 ++ Ls)[i]? = some L → lnM L i I') → Q 1 I' J') → vc_X11_isRead_L36 Q (d + 1) 1 I J := by
  have n160 := wT.1
  intro d
  induction d with
  | zero => intro e k N I J L0 hk hd; exact absurd rfl hd
  | succ d ih =>
    intro e k N I J L0 hk hd he bN h hL0 hrc qf qs
    show vc_X11_isRead_L36s Q (vc_X11_isRead_L36 Q (d + 1)) 1 I J
    unfold vc_X11_isRead_L36s
    refine b1' ?_
    rw [h.2.2.1, show (4 : Int32) = nI 4 from rfl, pk_mul]
    refine m_line hT wT he h (by omega) bN (fun x ex I2 J2 f e14 => b0 (qf x (rdAll_f ex) I2 J2 f e14)) (fun e' L N' el I2 J2 r2 b4 bl => b1 ?_)
    obtain ⟨o1, o2⟩ := rdLine_ok he el
    refine nm_r (e' := wI I2 87 15 (nI (k + 1))) (by rw [r2.2.2.1, nI_1]) ?_
    have r8 : MR I0 J0 (wI I2 87 15 (nI (k + 1))) J2 e' (k + 1) N' := ⟨⟨fun j a b => (wI_row a).trans (r2.1.1 j a b), fun m hm => (wI_col (by omega)).trans (r2.1.2.1 m hm), r2.1.2.2⟩, (wI_col (by decide)).trans r2.2.1, wI_same _ _ _ _, (wI_col (by decide)).trans r2.2.2.2.1, (wI_col (by decide)).trans r2.2.2.2.2.1, (wI_col (by decide)).trans r2.2.2.2.2.2⟩
    have l8 : ∀ i L', (L0 ++ [L])[i]? = some L' → lnM L' i (wI I2 87 15 (nI (k + 1))) := by
      intro i L' hi
      rcases gq hi with ⟨h1, h2⟩ | ⟨h1, h2⟩
      · exact (hrc i L' h1).cg (fun m hm => by rw [wI_row (by decide), b4 m (by omega)])
      · subst h2
        rw [h1, hL0]
        exact bl.cg (fun m hm => by rw [wI_row (by decide)])
    generalize wI I2 87 15 (nI (k + 1)) = I8 at r8 l8 ⊢
    obtain ⟨s1, s2⟩ := skp_le T o2
    have hr := rdAll_s (d := d) el
    refine m_nextR hT wT o2 r8 (fun I9 J9 r9 i92 i10 i11 i13 => ?_)
    have l9 : ∀ i L', (L0 ++ [L])[i]? = some L' → lnM L' i I9 := fun i L' hi => (l8 i L' hi).cg (fun m hm => by rw [i92])
    -- it ends here
    have stop : (¬ (skp T e' < T.1 ∧ T.2 (skp T e') = 59) ∨ d = 0) → vc_X11_isRead_L36 Q (d + 1) 0 I9 J9 := by
      intro hs
      show vc_X11_isRead_L36s Q (vc_X11_isRead_L36 Q d) 0 I9 J9
      unfold vc_X11_isRead_L36s
      refine b0' ?_
      rw [lg_eq0, i11, tkv_2 s2]
      refine ⟨fun z => qs [L] (by rw [hr, if_pos z]) I9 J9 r9.1 r9.2.2.1 l9, fun z => m_fails r9 i10 (fun I' f e14 => b0' (qf _ ?_ I' J9 f e14))⟩
      rw [hr, if_neg z, if_neg (fun x => hs.elim (fun y => y ⟨by omega, x.1⟩) (fun y => x.2 y))]
    rw [lg_eq0, i11, tkv_3 s2]
    refine ⟨fun z => stop (.inl z), fun z => ?_⟩
    refine pk_le 14 (k + 1) (fun y => stop (.inr (by omega))) (fun y => ?_) rfl r9.2.2.1
    have d0 : d ≠ 0 := by omega
    have zn : ¬ skp T e' = T.1 := by omega
    refine ih (nx T e') (k + 1) N' I9 J9 (L0 ++ [L]) (by omega) d0 (nx_le T o2).2 (okL_bd o1 bN) r9 (by rw [List.length_append, hL0]; rfl) l9 (fun x ex I' J' f e14 => qf x ?_ I' J' f e14) (fun Ls ex I' J' f c l => qs (L :: Ls) ?_ I' J' f ?_ ?_)
    · rw [hr, if_neg zn, if_pos ⟨z.2, d0⟩, ex]; rfl
    · rw [hr, if_neg zn, if_pos ⟨z.2, d0⟩, ex]; rfl
    · rw [c, List.length_cons, show k + 1 + Ls.length = k + (Ls.length + 1) by omega]
    · intro i L' hi
      refine l i L' ?_
      rw [List.append_assoc]; exact hi
abbrev rdS (S : ST) : Nat ⊕ List Ln := rdAll S.T 14 0 S.C.1
theorem wf.bd {S : ST} (hw : wf S) : bdN S.C.1 := hw.1.1
theorem c_over {S : ST} {I : MI} {J : MJ} (hw : wf S) (hc : Cp S I J) {Q : Int32 → MI → MJ → Prop}
    (qf : ∀ x, rdS S = .inl x → ∀ I' : MI, FR I I' → Q (nI x) I' J)
    (qs : ∀ Ls, rdS S = .inr Ls → ∀ I' : MI, FR I I' → I' 1 4 = nI Ls.length → (∀ i L, Ls[i]? = some L → lnC L i I') → Q (-1) I' J) : vc_X6_readOver I J Q := by
  obtain ⟨⟨c1, c2, c3, -⟩, -, -, -, hT, -, -⟩ := id hc
  unfold vc_X6_readOver
  refine nm_e (nm_e (nm_e (nm_e (nm_e ⟨15, c_all (I0 := I) hT hw.2.2.2.2.1 14 0 0 S.C.1 _ [] rfl (by decide) (Nat.zero_le _) hw.bd ⟨⟨fun j a b c => ?_, fun m hm => ?_⟩, ?_, wI_same _ _ _ _, ?_, ?_, ?_⟩ rfl (fun i L h => by simp at h) qf (fun Ls e I' f c l => qs Ls e I' f (by rw [c, Nat.zero_add]) l)⟩))))
  · rw [wI_row a, wI_row a, wI_row a, wI_row a, wI_row a]
  · rw [wI_col (by omega), wI_col (by omega), wI_col (by omega), wI_col (by omega), wI_col (by omega)]
  · rw [wI_col (by decide), wI_same]; rfl
  · rw [wI_col (by decide), wI_col (by decide), wI_col (by decide), wI_col (by decide), wI_same, c1]
  · rw [wI_col (by decide), wI_col (by decide), wI_col (by decide), wI_same, wI_row (by decide), c2]
  · rw [wI_col (by decide), wI_col (by decide), wI_same, wI_row (by decide), wI_row (by decide), c3]
theorem m_over {S : ST} {I : MI} {J : MJ} (hw : wf S) (hm : Mp S I J) {Q : Int32 → MI → MJ → Prop}
    (qf : ∀ x, rdS S = .inl x → ∀ (I' : MI) (J' : MJ), MF I J I' J' → I' 87 14 = nI x → Q 0 I' J')
    (qs : ∀ Ls, rdS S = .inr Ls → ∀ (I' : MI) (J' : MJ), MF I J I' J' → I' 87 15 = nI Ls.length → (∀ i L, Ls[i]? = some L → lnM L i I') → Q 1 I' J') : vc_X11_isRead I J Q := by
  obtain ⟨⟨c1, c2, c3, -⟩, -, -, -, hT, -, -⟩ := id hm
  unfold vc_X11_isRead
  refine nm_e (nm_e (nm_e (nm_e (nm_e ⟨15, m_all (I0 := I) (J0 := J) hT hw.2.2.2.2.1 14 0 0 S.C.1 _ J [] rfl (by decide) (Nat.zero_le _) hw.bd ⟨⟨fun j a b => ?_, fun m hm => ?_, JX.rf⟩, ?_, ?_, ?_, ?_, ?_⟩ rfl (fun i L h => by simp at h) qf (fun Ls e I' J' f c l => qs Ls e I' J' f (by rw [c, Nat.zero_add]) l)⟩))))
  · rw [wI_row a, wI_row a, wI_row a, wI_row a, wI_row a]
  · rw [wI_col (by omega), wI_col (by omega), wI_col (by omega), wI_col (by omega), wI_col (by omega)]
  · rw [wI_col (by decide), wI_col (by decide), wI_col (by decide), wI_col (by decide), wI_same]; rfl
  · rw [wI_col (by decide), wI_col (by decide), wI_col (by decide), wI_same]; rfl
  · rw [wI_col (by decide), wI_col (by decide), wI_same, wI_col (by decide), wI_col (by decide), c1]
  · rw [wI_col (by decide), wI_same, wI_col (by decide), wI_col (by decide), wI_col (by decide), c2]
  · rw [wI_same, wI_col (by decide), wI_col (by decide), wI_col (by decide), wI_col (by decide), c3]
theorem Cp.fr {S : ST} {I I' : MI} {J : MJ} (hc : Cp S I J) (f : FR I I') : Cp S I' J := hc.cg (fun j _ a b c _ _ _ => f.1 j a b c) (f.2 1 (by decide)) rfl
theorem Mp.mf {S : ST} {I I' : MI} {J J' : MJ} (hm : Mp S I J) (f : MF I J I' J') : Mp S I' J' := hm.cg (fun j a _ b => f.1 j (by omega) b) (fun m hm => f.2.1 m (by omega)) (f.2.2.2 6 (by decide))
theorem FR.hi {I I' : MI} {J : MJ} (f : FR I I') : Hi I J I' J := ⟨fun j hj => f.1 j (by omega) (by omega) (by omega), fun _ _ => rfl⟩
theorem MF.lo {I I' : MI} {J J' : MJ} (f : MF I J I' J') : Lo I J I' J' := ⟨fun j hj => f.1 j (by omega) (by omega), fun j hj => f.2.2.1 j (by omega)⟩
theorem p_fault (I : MI) (J : MJ) (hI : Inv I J) : vc_X10_fault I J (fun r I1 J1 => vc_X11_fault I1 J1 (fun q I2 J2 => r = q ∧ Inv I2 J2)) := by
  obtain ⟨S, hw, hc, hm⟩ := hI
  refine bothI (S := S) (S' := S) (r := (rdS S).elim nI (fun _ => -1)) hw hm (fun Q hQ => ?_) (fun I1 J1 Q hm1 hQ => ?_)
  · refine c_over hw hc (fun x ex I' f => ?_) (fun Ls ex I' f _ _ => ?_)
    · have h := hQ I' J (hc.fr f) f.hi
      rw [ex] at h; exact h
    · have h := hQ I' J (hc.fr f) f.hi
      rw [ex] at h; exact h
  · unfold vc_X11_fault
    refine m_over hw hm1 (fun x ex I' J' f e14 => b0' ?_) (fun Ls ex I' J' f _ _ => b1' ?_)
    · have h := hQ I' J' (hm1.mf f) f.lo
      rw [ex] at h
      rw [e14]; exact h
    · have h := hQ I' J' (hm1.mf f) f.lo
      rw [ex] at h; exact h
