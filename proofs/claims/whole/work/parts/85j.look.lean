/-! ===== undo, keep, back; what a call only looks at ===== -/
theorem bothQ {α : Type} {vcC vcM : MI → MJ → (α → MI → MJ → Prop) → Prop} {I : MI} {J : MJ} {S : ST} {r : α} (hw : wf S) (hc0 : Cp S I J) (hm0 : Mp S I J)
    (hc : ∀ Q : α → MI → MJ → Prop, Q r I J → vcC I J Q)
    (hm : ∀ (I1 : MI) (J1 : MJ) (Q : α → MI → MJ → Prop), Mp S I1 J1 → Q r I1 J1 → vcM I1 J1 Q) :
    vcC I J (fun r I1 J1 => vcM I1 J1 (fun q I2 J2 => r = q ∧ Inv I2 J2)) :=
  bothI (S := S) (S' := S) (r := r) hw hm0 (fun Q hQ => hc Q (hQ _ _ hc0 Hi.rf)) (fun I1 J1 Q h hQ => hm I1 J1 Q h (hQ _ _ h Lo.rf))
theorem Cp.nowU {S : ST} {D' : Sd} {U' : List Sd} {I I' : MI} {J : MJ} (hc : Cp S I J) (e : ∀ j, j < 87 → j ≠ 14 → (j < 32 ∨ 36 < j) → I' j = I j) (hD : rSc D' I' 32) (hU : cU U' I') : Cp (S.C, D', U', S.K, S.T, S.tk, S.rw) I' J := by
  obtain ⟨h1, h2, h3, h4, h5, h6, h7⟩ := hc
  refine ⟨h1.cg (fun j a b => e j (by omega) (by omega) (by omega)) rfl, hD, hU, h4.cg (e 17 (by decide) (by decide) (by decide)) (fun j a b => e j (by omega) (by omega) (by omega)), ?_, ?_, ?_⟩
  · rw [e 1 (by decide) (by decide) (by decide), e 2 (by decide) (by decide) (by decide)]; exact h5
  · rw [e 18 (by decide) (by decide) (by decide), e 19 (by decide) (by decide) (by decide)]; exact h6
  · rw [e 20 (by decide) (by decide) (by decide), e 21 (by decide) (by decide) (by decide)]; exact h7
theorem Mp.nowU {S : ST} {D' : Sd} {U' : List Sd} {I I' : MI} {J : MJ} (hm : Mp S I J) (e : ∀ j, 88 ≤ j → j ≤ 98 → j ≠ 93 → j ≠ 96 → I' j = I j) (e87 : ∀ m, m ≠ 24 → I' 87 m = I 87 m) (hD : rSm D' (I' 93) 0) (hU : mU U' I') : Mp (S.C, D', U', S.K, S.T, S.tk, S.rw) I' J := by
  obtain ⟨h1, h2, h3, h4, h5, h6, h7⟩ := hm
  refine ⟨h1.cg (e87 0 (by decide)) (e87 2 (by decide)) (e87 4 (by decide)) (fun j a b => e j a (by omega) (by omega) (by omega)) rfl, hD, hU, h4.cg (e 95 (by decide) (by decide) (by decide) (by decide)) (e 94 (by decide) (by decide) (by decide) (by decide)), ?_, ?_, ?_⟩
  · rw [e87 7 (by decide), e 91 (by decide) (by decide) (by decide) (by decide)]; exact h5
  · rw [e87 26 (by decide), e 97 (by decide) (by decide) (by decide) (by decide)]; exact h6
  · rw [e87 28 (by decide), e 98 (by decide) (by decide) (by decide) (by decide)]; exact h7
theorem p_undo (I : MI) (J : MJ) (hI : Inv I J) : vc_X10_undo I J (fun r I1 J1 => vc_X11_undo I1 J1 (fun q I2 J2 => r = q ∧ Inv I2 J2)) := by
  obtain ⟨S, hw, hc, hm⟩ := hI
  obtain ⟨w1, w2, ⟨w3, w3'⟩, w4, w5, w6, w7⟩ := id hw
  rcases Nat.eq_zero_or_pos S.U.length with hn | hn
  · refine bothQ (S := S) (r := -4) hw hc hm (fun Q hQ => ?_) (fun I1 J1 Q hm1 hQ => ?_)
    · unfold vc_X10_undo vc_X0_recall
      rw [hc.2.2.1.1, hn]
      exact ⟨fun z => absurd rfl z, fun _ => b0' hQ⟩
    · unfold vc_X11_undo
      rw [hm1.2.2.1.1, hn]
      exact ⟨fun z => absurd rfl z, fun _ => hQ⟩
  · obtain ⟨D0, hD0⟩ : ∃ D0, S.U[S.U.length - 1]? = some D0 := ⟨_, List.getElem?_eq_getElem (by omega)⟩
    have hdl : ∀ b D, (S.U.dropLast)[b]? = some D → b < S.U.length - 1 ∧ S.U[b]? = some D := by
      intro b D h
      have h1 := (List.getElem?_eq_some_iff.mp h).1
      rw [List.length_dropLast] at h1
      rw [List.getElem?_dropLast, if_pos h1] at h
      exact ⟨h1, h⟩
    refine bothI (S := S) (S' := (S.C, D0, S.U.dropLast, S.K, S.T, S.tk, S.rw)) (r := nI (S.U.length - 1)) ?_ hm (fun Q hQ => ?_) (fun I1 J1 Q hm1 hQ => ?_)
    · exact ⟨w1, w3' _ _ hD0, ⟨by show S.U.dropLast.length ≤ 8; rw [List.length_dropLast]; omega, fun b D h => w3' b D (hdl b D h).2⟩, w4, w5, w6, w7⟩
    · obtain ⟨e5, nx, hnx, e4, hr⟩ := id hc.2.2.1
      have ev : (((I 14 4) + 8) - 1) - (((I 14 4) + 8) - 1) / 8 * 8 = nI ((nx + 7) % 8) := by
        rw [e4, show (8 : Int32) = nI 8 from rfl, nI_add, show (1 : Int32) = nI 1 from rfl, pk_sub (by omega), pk_rem (by omega) (by omega) (by omega)]
        congr 1
      unfold vc_X10_undo vc_X0_recall
      rw [ev]
      have hlt := Nat.mod_lt (nx + 7) (show 0 < 8 by decide)
      refine ⟨fun _ => nm_e ?_, fun z => absurd z (by rw [e5, show (0 : Int32) = nI 0 from rfl, nI_eq (by omega) (by omega)]; omega)⟩
      rw [wI_same, nI_clamp (by omega)]
      refine ⟨vp_in_nI (by omega) (by omega), s_copyOf (D := D0) (by omega) ?_ (fun I4 hD4 e4' => nm_e (b1' ?_))⟩
      · have h := hr _ _ hD0
        have ea : ringA nx S.U.length (S.U.length - 1) = 37 + 5 * ((nx + 7) % 8) := by unfold ringA; omega
        rw [ea] at h
        exact h.cg (fun j a b => wI_row (by omega))
      · rw [wI_same, e4' 14 (by omega), wI_col (by decide), e5, show (1 : Int32) = nI 1 from rfl, pk_sub (by omega)]
        refine hQ _ _ (hc.nowU (fun j a b d => ?_) ?_ ⟨?_, (nx + 7) % 8, hlt, ?_, fun b D h => ?_⟩) ⟨fun j hj => ?_, fun _ _ => rfl⟩
        · rw [wI_row b, e4' j (by omega), wI_row b]
        · exact hD4.cg (fun j a b => wI_row (by omega))
        · rw [wI_same, List.length_dropLast]
        · rw [wI_col (by decide), e4' 14 (by omega), wI_same]
        · obtain ⟨h1, h2⟩ := hdl b D h
          have h3 := hr b D h2
          have ea : ringA ((nx + 7) % 8) S.U.dropLast.length b = ringA nx S.U.length b := by rw [List.length_dropLast]; unfold ringA; omega
          rw [ea]
          have hi := @ring_in nx S.U.length b
          exact h3.cg (fun j q1 q2 => by rw [wI_row (by omega), e4' j (by omega), wI_row (by omega)])
        · rw [wI_row (by omega), e4' j (by omega), wI_row (by omega)]
    · obtain ⟨e24, hr⟩ := id hm1.2.2.1
      unfold vc_X11_undo
      rw [e24, show (1 : Int32) = nI 1 from rfl, pk_sub (by omega)]
      refine ⟨fun _ => nm_e ?_, fun z => absurd z (by rw [show (0 : Int32) = nI 0 from rfl, nI_eq (by omega) (by omega)]; omega)⟩
      rw [wI_same, show (20 : Int32) = nI 20 from rfl, pk_mul]
      refine m_copy (o1 := 20 * (S.U.length - 1)) (o2 := 0) (by decide) (by omega) (by omega) (by omega) (by omega) (fun I3 a1 a2 a3 => ?_)
      rw [a1 87 (by decide), wI_same]
      refine hQ _ _ (hm1.nowU (fun j a b d e => by rw [a1 j d, wI_row (by omega)]) (fun m hm => by rw [a1 87 (by decide), wI_col hm]) ?_ ⟨?_, fun b D h => ?_⟩) ⟨fun j hj => by rw [a1 j (by omega), wI_row (by omega)], fun _ _ => rfl⟩
      · exact (hr _ _ hD0).cp (fun k hk => by rw [a2 k hk, wI_row (by decide)])
      · rw [a1 87 (by decide), wI_same, List.length_dropLast]
      · obtain ⟨h1, h2⟩ := hdl b D h
        rw [a1 96 (by decide), wI_row (by decide)]
        exact hr b D h2
def setK (K : Nat → Option Sd) (k : Nat) (D : Sd) : Nat → Option Sd := fun i => if i = k then some D else K i
theorem nar1 : vp_nar .boolean 1 = 1 := by decide
theorem p_keep (I : MI) (J : MJ) (hI : Inv I J) (x : Int32) : vc_X10_keep x I J (fun r I1 J1 => vc_X11_keep x I1 J1 (fun q I2 J2 => r = q ∧ Inv I2 J2)) := by
  obtain ⟨S, hw, hc, hm⟩ := hI
  obtain ⟨w1, w2, w3, w4, w5, w6, w7⟩ := id hw
  by_cases hx : inR x 0 1
  rotate_left
  · exact bothQ (S := S) (r := -2) hw hc hm (fun Q hQ => s_wi_f 0 1 hx (b0 hQ)) (fun I1 J1 Q hm1 hQ => s_in_f 0 1 hx (b0 hQ))
  obtain ⟨k, -, hk, rfl⟩ := id hx
  have v2 := vp_in_nI (n := k) (N := 2) (by omega) (by omega)
  refine bothI (S := S) (S' := (S.C, S.D, S.U, setK S.K k S.D, S.T, S.tk, S.rw)) (r := nI k) ?_ hm (fun Q hQ => s_wi_t 0 1 hx (b1 ?_)) (fun I1 J1 Q hm1 hQ => s_in_t 0 1 hx (b1 ?_))
  · refine ⟨w1, w2, w3, fun i D hi h => ?_, w5, w6, w7⟩
    have h : (if i = k then some S.D else S.K i) = some D := h
    by_cases e : i = k
    · rw [if_pos e] at h
      rw [← Option.some.inj h]; exact w2
    · rw [if_neg e] at h
      exact w4 i D hi h
  · obtain ⟨h1, h2, h3, h4, h5, h6, h7⟩ := id hc
    unfold vc_X0_preserve
    rw [nI_clamp (by omega), nar1]
    refine ⟨v2, s_copyOf (D := S.D) (by omega) h2 (fun I2 hD2 e => ⟨v2, nm_e (hQ _ _ ⟨?_, ?_, ?_, ?_, ?_, ?_, ?_⟩ ⟨fun j hj => ?_, fun _ _ => rfl⟩)⟩)⟩
    · exact h1.cg (fun j a b => by rw [wI_row (by omega), e j (by omega)]) rfl
    · exact h2.cg (fun j a b => by rw [wI_row (by omega), e j (by omega)])
    · exact h3.cg (by rw [wI_row (by decide), e 14 (by omega)]) (by rw [wI_row (by decide), e 14 (by omega)]) (fun j a b => by rw [wI_row (by omega), e j (by omega)])
    · intro i hi
      show ((if i = k then some S.D else S.K i) = none → _) ∧ ∀ D, (if i = k then some S.D else S.K i) = some D → _
      by_cases ei : i = k
      · subst ei
        rw [if_pos rfl]
        refine ⟨fun z => (by cases z), fun D z => ⟨wI_same _ _ _ _, ?_⟩⟩
        rw [← Option.some.inj z]
        exact hD2.cg (fun j a b => wI_row (by omega))
      · rw [if_neg ei]
        refine ⟨fun z => ?_, fun D z => ⟨?_, ?_⟩⟩
        · rw [wI_col ei, e 17 (by omega)]; exact (h4 i hi).1 z
        · rw [wI_col ei, e 17 (by omega)]; exact ((h4 i hi).2 D z).1
        · exact ((h4 i hi).2 D z).2.cg (fun j a b => by rw [wI_row (by omega), e j (by omega)])
    · rw [wI_row (by decide), wI_row (by decide), e 1 (by omega), e 2 (by omega)]; exact h5
    · rw [wI_row (by decide), wI_row (by decide), e 18 (by omega), e 19 (by omega)]; exact h6
    · rw [wI_row (by decide), wI_row (by decide), e 20 (by omega), e 21 (by omega)]; exact h7
    · rw [wI_row (by omega), e j (by omega)]
  · obtain ⟨h1, h2, h3, h4, h5, h6, h7⟩ := id hm1
    rw [show (20 : Int32) = nI 20 from rfl, pk_mul, nI_clamp (by omega), nar1]
    refine m_copy (o1 := 0) (o2 := 20 * k) (by decide) (by omega) (by omega) (by omega) (by omega) (fun I2 a1 a2 a3 => ⟨v2, nm_e (hQ _ _ ⟨?_, ?_, ?_, ?_, ?_, ?_, ?_⟩ ⟨fun j hj => ?_, fun _ _ => rfl⟩)⟩)
    · exact h1.cg (by rw [wI_row (by decide), a1 87 (by decide)]) (by rw [wI_row (by decide), a1 87 (by decide)]) (by rw [wI_row (by decide), a1 87 (by decide)]) (fun j a b => by rw [wI_row (by omega), a1 j (by omega)]) rfl
    · rw [wI_row (by decide), a1 93 (by decide)]; exact h2
    · exact h3.cg (by rw [wI_row (by decide), a1 87 (by decide)]) (by rw [wI_row (by decide), a1 96 (by decide)])
    · intro i hi
      show ((if i = k then some S.D else S.K i) = none → _) ∧ ∀ D, (if i = k then some S.D else S.K i) = some D → _
      by_cases ei : i = k
      · subst ei
        rw [if_pos rfl]
        refine ⟨fun z => (by cases z), fun D z => ⟨wI_same _ _ _ _, ?_⟩⟩
        rw [← Option.some.inj z, wI_row (by decide)]
        exact h2.cp (fun m hm => by rw [a2 m hm])
      · rw [if_neg ei]
        refine ⟨fun z => ?_, fun D z => ⟨?_, ?_⟩⟩
        · rw [wI_col ei, a1 95 (by decide)]; exact (h4 i hi).1 z
        · rw [wI_col ei, a1 95 (by decide)]; exact ((h4 i hi).2 D z).1
        · rw [wI_row (by decide)]
          exact ((h4 i hi).2 D z).2.cp (fun m hm => a3 _ (by omega))
    · rw [wI_row (by decide), wI_row (by decide), a1 87 (by decide), a1 91 (by decide)]; exact h5
    · rw [wI_row (by decide), wI_row (by decide), a1 87 (by decide), a1 97 (by decide)]; exact h6
    · rw [wI_row (by decide), wI_row (by decide), a1 87 (by decide), a1 98 (by decide)]; exact h7
    · rw [wI_row (by omega), a1 j (by omega)]
theorem p_back (I : MI) (J : MJ) (hI : Inv I J) (x : Int32) : vc_X10_back x I J (fun r I1 J1 => vc_X11_back x I1 J1 (fun q I2 J2 => r = q ∧ Inv I2 J2)) := by
  obtain ⟨S, hw, hc, hm⟩ := hI
  obtain ⟨w1, w2, w3, w4, w5, w6, w7⟩ := id hw
  by_cases hx : inR x 0 1
  rotate_left
  · exact bothQ (S := S) (r := -2) hw hc hm (fun Q hQ => s_wi_f 0 1 hx (b0 hQ)) (fun I1 J1 Q hm1 hQ => s_in_f 0 1 hx (b0 hQ))
  obtain ⟨k, -, hk, rfl⟩ := id hx
  have v2 := vp_in_nI (n := k) (N := 2) (by omega) (by omega)
  cases hK : S.K k with
  | none =>
    refine bothQ (S := S) (r := -4) hw hc hm (fun Q hQ => s_wi_t 0 1 hx (b1 ⟨v2, ?_⟩)) (fun I1 J1 Q hm1 hQ => s_in_t 0 1 hx (b1 ⟨v2, ?_⟩))
    · rw [nI_clamp (by omega), (hc.2.2.2.1 k (by omega)).1 hK]
      exact b0 (b0' hQ)
    · rw [nI_clamp (by omega), (hm1.2.2.2.1 k (by omega)).1 hK]
      exact b0 hQ
  | some D =>
    refine bothI (S := S) (S' := (S.C, D, [], S.K, S.T, S.tk, S.rw)) (r := nI k) ?_ hm (fun Q hQ => s_wi_t 0 1 hx (b1 ⟨v2, ?_⟩)) (fun I1 J1 Q hm1 hQ => s_in_t 0 1 hx (b1 ⟨v2, ?_⟩))
    · exact ⟨w1, w4 k D (by omega) hK, ⟨Nat.zero_le _, fun b E h => by have h : ([] : List Sd)[b]? = some E := h; simp at h⟩, w4, w5, w6, w7⟩
    · obtain ⟨q1, q2⟩ := (hc.2.2.2.1 k (by omega)).2 D hK
      obtain ⟨e5, nx, hnx, e4, hr⟩ := id hc.2.2.1
      rw [nI_clamp (by omega), q1]
      refine b1 ⟨v2, s_copyOf (D := D) (by omega) q2 (fun I2 hD2 e => nm_e (b1' ?_))⟩
      refine hQ _ _ (hc.nowU (fun j a b d => by rw [wI_row b, e j (by omega)]) (hD2.cg (fun j a b => wI_row (by omega))) ⟨wI_same _ _ _ _, nx, hnx, by rw [wI_col (by decide), e 14 (by omega)]; exact e4, fun b E h => by simp at h⟩) ⟨fun j hj => by rw [wI_row (by omega), e j (by omega)], fun _ _ => rfl⟩
    · obtain ⟨q1, q2⟩ := (hm1.2.2.2.1 k (by omega)).2 D hK
      rw [nI_clamp (by omega), q1, show (20 : Int32) = nI 20 from rfl, pk_mul]
      refine b1 (m_copy (o1 := 20 * k) (o2 := 0) (by decide) (by omega) (by omega) (by omega) (by omega) (fun I2 a1 a2 a3 => nm_e ?_))
      refine hQ _ _ (hm1.nowU (fun j a b d e => by rw [wI_row (by omega), a1 j d]) (fun m hm => by rw [wI_col hm, a1 87 (by decide)]) ?_ ⟨wI_same _ _ _ _, fun b E h => by simp at h⟩) ⟨fun j hj => by rw [wI_row (by omega), a1 j (by omega)], fun _ _ => rfl⟩
      rw [wI_row (by decide)]
      exact q2.cp (fun m hm => by rw [a2 m hm])
/-! a mask of those below n -/
def msk (P : Nat → Bool) : Nat → Int32
  | 0 => 0
  | n + 1 => if P n then msk P n ||| (1 <<< (nI n &&& 31)) else msk P n
theorem msk_t {P : Nat → Bool} {n : Nat} (h : P n = true) : msk P n ||| (1 <<< (nI n &&& 31)) = msk P (n + 1) := by show _ = if P n then _ else _; rw [if_pos h]
theorem msk_f {P : Nat → Bool} {n : Nat} (h : P n = false) : msk P n = msk P (n + 1) := by show _ = if P n then _ else _; rw [if_neg (by rw [h]; decide)]
def rdsAt (C : Cty) (p : Nat) : Int32 := msk (fun r => decide (C.ra r = p) || decide (C.rb r = p)) C.nr
def crtIn (S : ST) (p : Nat) : Int32 := msk (fun c => decide (S.D.pl c = p)) S.C.nc
theorem tchB (C : Cty) (r p : Nat) : ((decide (C.ra r = p) || decide (C.rb r = p)) = true) ↔ tch C r p := by unfold tch; simp
theorem c_rds {C : Cty} {I : MI} {J : MJ} (hC : wfC C) (hc : rCc C I J) {p : Nat} (hp : p ≤ 7) {Q : Int32 → MI → MJ → Prop} (q : Q (rdsAt C p) I J) : vc_X1_roadsAt (nI p) I J Q := by
  have n9 := hC.1.2.1
  have loop : ∀ d i, i + d = C.nr → vc_X1_roadsAt_L4 Q (d + 1) (nI p) (msk (fun r => decide (C.ra r = p) || decide (C.rb r = p)) i) (nI i) I J := by
    intro d
    induction d with
    | zero =>
      intro i hi
      show vc_X1_roadsAt_L4s Q (vc_X1_roadsAt_L4 Q 0) _ _ _ I J
      unfold vc_X1_roadsAt_L4s
      rw [hc.2.1]
      have e : i = C.nr := by omega
      subst e
      exact pk_le C.nr C.nr (fun _ => q) (fun z => by omega)
    | succ d ih =>
      intro i hi
      show vc_X1_roadsAt_L4s Q (vc_X1_roadsAt_L4 Q (d + 1)) _ _ _ I J
      unfold vc_X1_roadsAt_L4s
      rw [hc.2.1]
      refine pk_le C.nr i (fun z => by omega) (fun _ => ?_)
      by_cases ht : tch C i p
      · exact c_tch_t hC hc (by omega) hp ht (b1' (nm_r (msk_t ((tchB C i p).mpr ht)) (nm_r (nI_1 i) (ih (i + 1) (by omega)))))
      · refine c_tch_f hC hc (by omega) hp ht (b0' (nm_r (nI_1 i) ?_))
        have e := msk_f (P := fun r => decide (C.ra r = p) || decide (C.rb r = p)) (n := i) (by have := mt (tchB C i p).mp ht; simpa using this)
        rw [e]; exact ih (i + 1) (by omega)
  exact ⟨C.nr + 1, loop C.nr 0 (by omega)⟩
theorem c_crt {S : ST} {I : MI} {J : MJ} (hw : wf S) (hc : Cp S I J) {p : Nat} (hp : p ≤ 7) {Q : Int32 → MI → MJ → Prop} (q : Q (crtIn S p) I J) : vc_X7_cartsIn 32 (nI p) (nI S.C.nc) I J Q := by
  have n4 := hw.n4
  have loop : ∀ d i, i + d = S.C.nc → vc_X7_cartsIn_L5 32 Q (d + 1) (nI p) (nI S.C.nc) (msk (fun c => decide (S.D.pl c = p)) i) (nI i) I J := by
    intro d
    induction d with
    | zero =>
      intro i hi
      show vc_X7_cartsIn_L5s 32 Q (vc_X7_cartsIn_L5 32 Q 0) _ _ _ _ I J
      unfold vc_X7_cartsIn_L5s
      have e : i = S.C.nc := by omega
      subst e
      exact pk_le S.C.nc S.C.nc (fun _ => q) (fun z => by omega)
    | succ d ih =>
      intro i hi
      have hd := hw.d (c := i) (by omega)
      show vc_X7_cartsIn_L5s 32 Q (vc_X7_cartsIn_L5 32 Q (d + 1)) _ _ _ _ I J
      unfold vc_X7_cartsIn_L5s
      refine pk_le S.C.nc i (fun z => by omega) (fun _ => ⟨vp_in_nI (by omega) (by omega), ?_⟩)
      rw [nI_clamp (by omega), hc.pl (by omega), nI_eq (by omega) (by omega)]
      refine ⟨fun ht => nm_r (nI_1 i) ?_, fun ht => nm_r (msk_t (P := fun c => decide (S.D.pl c = p)) (by simpa using ht)) (nm_r (nI_1 i) (ih (i + 1) (by omega)))⟩
      have e := msk_f (P := fun c => decide (S.D.pl c = p)) (n := i) (by simpa using ht)
      rw [e]; exact ih (i + 1) (by omega)
  exact ⟨S.C.nc + 1, loop S.C.nc 0 (by omega)⟩
theorem or0 (x : Int32) : x ||| 0 = x := Int32.or_zero
theorem m_plc {S : ST} {I : MI} {J : MJ} (hw : wf S) (hm : Mp S I J) {p : Nat} {y v : Int32} (hp : p < S.C.np) (hv : v = if y = 2 then rdsAt S.C p else if y = 3 then crtIn S p else 0) {Q : Int32 → MI → MJ → Prop} (q : vc_X11_place_B103 Q (nI p) y v I J) : vc_X11_place (nI p) y I J Q := by
  have n4 := hw.n4
  have l61 : (∃ n, vc_X11_place_L61 Q n (nI p) y (if y = 2 then rdsAt S.C p else 0) (nI 0) I J) := by
    by_cases y3 : y = 3
    · subst y3
      rw [if_neg (by decide)]
      rw [if_neg (by decide), if_pos rfl] at hv
      subst hv
      have loop : ∀ d i, i + d = S.C.nc → vc_X11_place_L61 Q (d + 1) (nI p) 3 (msk (fun c => decide (S.D.pl c = p)) i) (nI i) I J := by
        intro d
        induction d with
        | zero =>
          intro i hi
          show vc_X11_place_L61s Q (vc_X11_place_L61 Q 0) _ _ _ _ I J
          unfold vc_X11_place_L61s
          rw [hm.nc]
          have e : i = S.C.nc := by omega
          subst e
          exact pk_le S.C.nc S.C.nc (fun _ => q) (fun z => by omega)
        | succ d ih =>
          intro i hi
          have hd := hw.d (c := i) (by omega)
          show vc_X11_place_L61s Q (vc_X11_place_L61 Q (d + 1)) _ _ _ _ I J
          unfold vc_X11_place_L61s
          rw [hm.nc]
          refine pk_le S.C.nc i (fun z => by omega) (fun _ => ⟨fun z => absurd rfl z, fun _ => ⟨vp_in_nI (by omega) (by omega), ?_⟩⟩)
          rw [nI_clamp (by omega), hm.pl (by omega), nI_eq (by omega) (by omega)]
          refine ⟨fun ht => nm_r (or0 _) (nm_r (nI_1 i) ?_), fun ht => nm_r (msk_t (P := fun c => decide (S.D.pl c = p)) (by simpa using ht)) (nm_r (nI_1 i) (ih (i + 1) (by omega)))⟩
          have e := msk_f (P := fun c => decide (S.D.pl c = p)) (n := i) (by simpa using ht)
          rw [e]; exact ih (i + 1) (by omega)
      exact ⟨S.C.nc + 1, loop S.C.nc 0 (by omega)⟩
    · rw [if_neg y3] at hv
      subst hv
      refine ⟨1, ?_⟩
      show vc_X11_place_L61s Q (vc_X11_place_L61 Q 0) _ _ _ _ I J
      unfold vc_X11_place_L61s
      exact ⟨fun _ => q, fun _ => ⟨fun _ => q, fun z => absurd z y3⟩⟩
  refine m_place_t hw hm ⟨p, hp, rfl⟩ (b1 ?_)
  by_cases y2 : y = 2
  · subst y2
    rw [if_pos rfl] at l61
    have loop : ∀ d i, i + d = S.C.nr → vc_X11_place_L16 Q (d + 1) (nI p) 2 (msk (fun r => decide (S.C.ra r = p) || decide (S.C.rb r = p)) i) (nI i) I J := by
      intro d
      induction d with
      | zero =>
        intro i hi
        show vc_X11_place_L16s Q (vc_X11_place_L16 Q 0) _ _ _ _ I J
        unfold vc_X11_place_L16s
        rw [hm.nr]
        have e : i = S.C.nr := by omega
        subst e
        exact pk_le S.C.nr S.C.nr (fun _ => l61) (fun z => by omega)
      | succ d ih =>
        intro i hi
        show vc_X11_place_L16s Q (vc_X11_place_L16 Q (d + 1)) _ _ _ _ I J
        unfold vc_X11_place_L16s
        rw [hm.nr]
        refine pk_le S.C.nr i (fun z => by omega) (fun _ => ⟨fun z => absurd rfl z, fun _ => ?_⟩)
        by_cases ht : tch S.C i p
        · refine m_end_t hw.1 hm.1 (by omega) (by omega) ht ⟨fun _ => nm_r (msk_t ((tchB S.C i p).mpr ht)) (nm_r (nI_1 i) (ih (i + 1) (by omega))), fun z => absurd z (nI_ne_m1 (by have := far_lt hw (r := i) (by omega) p; omega))⟩
        · refine m_end_f hw.1 hm.1 (by omega) (by omega) ht ⟨fun z => absurd rfl z, fun _ => nm_r (or0 _) (nm_r (nI_1 i) ?_)⟩
          have e := msk_f (P := fun r => decide (S.C.ra r = p) || decide (S.C.rb r = p)) (n := i) (by have := mt (tchB S.C i p).mp ht; simpa using this)
          rw [e]; exact ih (i + 1) (by omega)
    exact ⟨S.C.nr + 1, loop S.C.nr 0 (by omega)⟩
  · rw [if_neg y2] at l61
    refine ⟨1, ?_⟩
    show vc_X11_place_L16s Q (vc_X11_place_L16 Q 0) _ _ _ _ I J
    unfold vc_X11_place_L16s
    exact ⟨fun _ => l61, fun _ => ⟨fun _ => l61, fun z => absurd z y2⟩⟩
theorem p_place (I : MI) (J : MJ) (hI : Inv I J) (x y : Int32) : vc_X10_place x y I J (fun r I1 J1 => vc_X11_place x y I1 J1 (fun q I2 J2 => r = q ∧ Inv I2 J2)) := by
  obtain ⟨S, hw, hc, hm⟩ := hI
  have n4 := hw.n4
  by_cases hx : inN x S.C.np
  rotate_left
  · exact bothQ (S := S) (r := -2) hw hc hm (fun Q hQ => c_place_f hw hc hx (b0 hQ)) (fun I1 J1 Q hm1 hQ => m_place_f hw hm1 hx (b0 hQ))
  obtain ⟨p, hp, rfl⟩ := id hx
  have v7 := vp_in_nI (n := p) (N := 7) (by omega) (by omega)
  have v12 := vp_in_nI (n := 12 + p) (N := 20) (by omega) (by omega)
  by_cases y0 : y = 0
  · subst y0
    refine bothQ (S := S) (r := nI (S.C.pk p)) hw hc hm (fun Q hQ => c_place_t hw hc hx (b1 ⟨fun _ => ⟨v7, ?_⟩, fun z => absurd rfl z⟩)) (fun I1 J1 Q hm1 hQ => m_plc hw hm1 hp rfl ⟨fun z => absurd rfl z, fun _ => ⟨v7, ?_⟩⟩)
    · rw [nI_clamp (by omega), hc.pk hp]; exact hQ
    · rw [nI_clamp (by omega), hm1.pk hp]; exact hQ
  by_cases y1 : y = 1
  · subst y1
    refine bothQ (S := S) (r := nI (S.D.st p)) hw hc hm (fun Q hQ => c_place_t hw hc hx (b1 ⟨fun z => absurd z y0, fun _ => ⟨fun _ => ⟨v7, ?_⟩, fun z => absurd rfl z⟩⟩)) (fun I1 J1 Q hm1 hQ => m_plc hw hm1 hp rfl ⟨fun _ => ⟨fun z => absurd rfl z, fun _ => ?_⟩, fun z => absurd z y0⟩)
    · rw [nI_clamp (by omega), hc.st (by omega)]; exact hQ
    · rw [show (12 : Int32) + nI p = nI (12 + p) from nI_add 12 p, nI_clamp (by omega), hm1.st (by omega)]; exact ⟨v12, hQ⟩
  by_cases y2 : y = 2
  · subst y2
    exact bothQ (S := S) (r := rdsAt S.C p) hw hc hm (fun Q hQ => c_place_t hw hc hx (b1 ⟨fun z => absurd z y0, fun _ => ⟨fun z => absurd z y1, fun _ => ⟨fun _ => c_rds hw.1 hc.1 (by omega) hQ, fun z => absurd rfl z⟩⟩⟩)) (fun I1 J1 Q hm1 hQ => m_plc hw hm1 hp rfl ⟨fun _ => ⟨fun _ => s_in_t 2 3 ⟨2, by omega, by omega, rfl⟩ (b1' hQ), fun z => absurd z y1⟩, fun z => absurd z y0⟩)
  by_cases y3 : y = 3
  · subst y3
    refine bothQ (S := S) (r := crtIn S p) hw hc hm (fun Q hQ => c_place_t hw hc hx (b1 ⟨fun z => absurd z y0, fun _ => ⟨fun z => absurd z y1, fun _ => ⟨fun z => absurd z y2, fun _ => ⟨fun _ => ?_, fun z => absurd rfl z⟩⟩⟩⟩)) (fun I1 J1 Q hm1 hQ => m_plc hw hm1 hp rfl ⟨fun _ => ⟨fun _ => s_in_t 2 3 ⟨3, by omega, by omega, rfl⟩ (b1' hQ), fun z => absurd z y1⟩, fun z => absurd z y0⟩)
    rw [hc.nc]
    exact c_crt hw hc (by omega) hQ
  refine bothQ (S := S) (r := -3) hw hc hm (fun Q hQ => c_place_t hw hc hx (b1 ⟨fun z => absurd z y0, fun _ => ⟨fun z => absurd z y1, fun _ => ⟨fun z => absurd z y2, fun _ => ⟨fun z => absurd z y3, fun _ => hQ⟩⟩⟩⟩)) (fun I1 J1 Q hm1 hQ => m_plc hw hm1 hp rfl ⟨fun _ => ⟨fun _ => s_in_f 2 3 (fun ⟨n, a, b, e⟩ => ?_) (b0' hQ), fun z => absurd z y1⟩, fun z => absurd z y0⟩)
  have : n = 2 ∨ n = 3 := by omega
  rcases this with rfl | rfl
  · exact y2 e
  · exact y3 e
theorem p_road (I : MI) (J : MJ) (hI : Inv I J) (x y : Int32) : vc_X10_road x y I J (fun r I1 J1 => vc_X11_road x y I1 J1 (fun q I2 J2 => r = q ∧ Inv I2 J2)) := by
  obtain ⟨S, hw, hc, hm⟩ := hI
  have n4 := hw.n4
  by_cases hx : inN x S.C.nr
  rotate_left
  · exact bothQ (S := S) (r := -2) hw hc hm (fun Q hQ => c_road_f hw hc hx (b0 hQ)) (fun I1 J1 Q hm1 hQ => m_road_f hw hm1 hx (b0 hQ))
  obtain ⟨r, hr, rfl⟩ := id hx
  have v9 := vp_in_nI (n := r) (N := 9) (by omega) (by omega)
  obtain ⟨c1, c2, c3, c4⟩ := hc.rd hr
  have b55 : ∀ (j v : Nat) (I1 : MI) (J1 : MJ) (Q : Int32 → MI → MJ → Prop), 1 ≤ j → j ≤ 3 → I1 89 (4 * r + (j - 1)) = nI v → Q (nI v) I1 J1 → vc_X11_road_B55 Q (nI r) (nI j) I1 J1 := by
    intro j v I1 J1 Q h1 h3 e q
    unfold vc_X11_road_B55
    rw [ix4, show (1 : Int32) = nI 1 from rfl, pk_sub (by omega), nI_clamp (by omega), show 4 * r + j - 1 = 4 * r + (j - 1) by omega, e]
    exact ⟨vp_in_nI (by omega) (by omega), q⟩
  by_cases y0 : y = 0
  · subst y0
    refine bothQ (S := S) (r := nI (S.C.rk r)) hw hc hm (fun Q hQ => c_road_t hw hc hx (b1 ⟨fun _ => ⟨v9, ?_⟩, fun z => absurd rfl z⟩)) (fun I1 J1 Q hm1 hQ => m_road_t hw hm1 hx (b1 ⟨fun _ => ?_, fun z => absurd rfl z⟩))
    · rw [nI_clamp (by omega), c4]; exact hQ
    · rw [show (4 : Int32) * nI r + 3 = nI (4 * r + 3) from ix4 r 3, nI_clamp (by omega), (hm1.rd hr).2.2.2]; exact ⟨vp_in_nI (by omega) (by omega), hQ⟩
  by_cases y1 : y = 1
  · subst y1
    refine bothQ (S := S) (r := nI (S.C.ra r)) hw hc hm (fun Q hQ => c_road_t hw hc hx (b1 ⟨fun z => absurd z y0, fun _ => ⟨fun _ => ⟨v9, ?_⟩, fun z => absurd rfl z⟩⟩)) (fun I1 J1 Q hm1 hQ => m_road_t hw hm1 hx (b1 ⟨fun z => absurd z y0, fun _ => ⟨fun _ => b55 1 _ _ _ _ (by omega) (by omega) (hm1.rd hr).1 hQ, fun z => absurd rfl z⟩⟩))
    rw [nI_clamp (by omega), c1]; exact hQ
  by_cases y2 : y = 2
  · subst y2
    refine bothQ (S := S) (r := nI (S.C.rb r)) hw hc hm (fun Q hQ => c_road_t hw hc hx (b1 ⟨fun z => absurd z y0, fun _ => ⟨fun z => absurd z y1, fun _ => ⟨fun _ => ⟨v9, ?_⟩, fun z => absurd rfl z⟩⟩⟩)) (fun I1 J1 Q hm1 hQ => m_road_t hw hm1 hx (b1 ⟨fun z => absurd z y0, fun _ => ⟨fun z => absurd z y1, fun _ => ⟨fun _ => b55 2 _ _ _ _ (by omega) (by omega) (hm1.rd hr).2.1 hQ, fun z => absurd rfl z⟩⟩⟩))
    rw [nI_clamp (by omega), c2]; exact hQ
  by_cases y3 : y = 3
  · subst y3
    refine bothQ (S := S) (r := nI (S.C.rh r)) hw hc hm (fun Q hQ => c_road_t hw hc hx (b1 ⟨fun z => absurd z y0, fun _ => ⟨fun z => absurd z y1, fun _ => ⟨fun z => absurd z y2, fun _ => ⟨fun _ => ⟨v9, ?_⟩, fun z => absurd rfl z⟩⟩⟩⟩)) (fun I1 J1 Q hm1 hQ => m_road_t hw hm1 hx (b1 ⟨fun z => absurd z y0, fun _ => ⟨fun z => absurd z y1, fun _ => ⟨fun z => absurd z y2, fun _ => ⟨fun _ => b55 3 _ _ _ _ (by omega) (by omega) (hm1.rd hr).2.2.1 hQ, fun z => absurd rfl z⟩⟩⟩⟩))
    rw [nI_clamp (by omega), c3]; exact hQ
  exact bothQ (S := S) (r := -3) hw hc hm (fun Q hQ => c_road_t hw hc hx (b1 ⟨fun z => absurd z y0, fun _ => ⟨fun z => absurd z y1, fun _ => ⟨fun z => absurd z y2, fun _ => ⟨fun z => absurd z y3, fun _ => hQ⟩⟩⟩⟩)) (fun I1 J1 Q hm1 hQ => m_road_t hw hm1 hx (b1 ⟨fun z => absurd z y0, fun _ => ⟨fun z => absurd z y1, fun _ => ⟨fun z => absurd z y2, fun _ => ⟨fun z => absurd z y3, fun _ => hQ⟩⟩⟩⟩))
theorem p_cart (I : MI) (J : MJ) (hI : Inv I J) (x y : Int32) : vc_X10_cart x y I J (fun r I1 J1 => vc_X11_cart x y I1 J1 (fun q I2 J2 => r = q ∧ Inv I2 J2)) := by
  obtain ⟨S, hw, hc, hm⟩ := hI
  have n4 := hw.n4
  by_cases hx : inN x S.C.nc
  rotate_left
  · exact bothQ (S := S) (r := -2) hw hc hm (fun Q hQ => c_cart_f hw hc hx (b0 hQ)) (fun I1 J1 Q hm1 hQ => m_cart_f hw hm1 hx (b0 hQ))
  obtain ⟨c, hcn, rfl⟩ := id hx
  have v4 := vp_in_nI (n := c) (N := 4) (by omega) (by omega)
  obtain ⟨c1, c2, c3⟩ := hc.ct hcn
  by_cases y0 : y = 0
  · subst y0
    refine bothQ (S := S) (r := nI (S.C.ck c)) hw hc hm (fun Q hQ => c_cart_t hw hc hx (b1 ⟨fun _ => ⟨v4, ?_⟩, fun z => absurd rfl z⟩)) (fun I1 J1 Q hm1 hQ => m_cart_t hw hm1 hx (b1 ⟨fun _ => m_kind hw hm1 hcn hQ, fun z => absurd rfl z⟩))
    rw [nI_clamp (by omega), c1]; exact hQ
  by_cases y1 : y = 1
  · subst y1
    refine bothQ (S := S) (r := nI (S.C.cw c)) hw hc hm (fun Q hQ => c_cart_t hw hc hx (b1 ⟨fun z => absurd z y0, fun _ => ⟨fun _ => ⟨v4, ?_⟩, fun z => absurd rfl z⟩⟩)) (fun I1 J1 Q hm1 hQ => m_cart_t hw hm1 hx (b1 ⟨fun z => absurd z y0, fun _ => ⟨fun _ => m_straw hw hm1 hcn hQ, fun z => absurd rfl z⟩⟩))
    rw [nI_clamp (by omega), c3]; exact hQ
  by_cases y2 : y = 2
  · subst y2
    refine bothQ (S := S) (r := nI (S.D.pl c)) hw hc hm (fun Q hQ => c_cart_t hw hc hx (b1 ⟨fun z => absurd z y0, fun _ => ⟨fun z => absurd z y1, fun _ => ⟨fun _ => ⟨v4, ?_⟩, fun z => absurd rfl z⟩⟩⟩)) (fun I1 J1 Q hm1 hQ => m_cart_t hw hm1 hx (b1 ⟨fun z => absurd z y0, fun _ => ⟨fun z => absurd z y1, fun _ => ⟨fun _ => ⟨vp_in_nI (by omega) (by omega), ?_⟩, fun z => absurd rfl z⟩⟩⟩))
    · rw [nI_clamp (by omega), hc.pl (by omega)]; exact hQ
    · rw [nI_clamp (by omega), hm1.pl (by omega)]; exact hQ
  by_cases y3 : y = 3
  · subst y3
    refine bothQ (S := S) (r := nI (S.D.hr c)) hw hc hm (fun Q hQ => c_cart_t hw hc hx (b1 ⟨fun z => absurd z y0, fun _ => ⟨fun z => absurd z y1, fun _ => ⟨fun z => absurd z y2, fun _ => ⟨fun _ => ⟨v4, ?_⟩, fun z => absurd rfl z⟩⟩⟩⟩)) (fun I1 J1 Q hm1 hQ => m_cart_t hw hm1 hx (b1 ⟨fun z => absurd z y0, fun _ => ⟨fun z => absurd z y1, fun _ => ⟨fun z => absurd z y2, fun _ => ⟨fun _ => ?_, fun z => absurd rfl z⟩⟩⟩⟩))
    · rw [nI_clamp (by omega), hc.hr (by omega)]; exact hQ
    · rw [show (4 : Int32) + nI c = nI (4 + c) from nI_add 4 c, nI_clamp (by omega), hm1.hr (by omega)]; exact ⟨vp_in_nI (by omega) (by omega), hQ⟩
  by_cases y4 : y = 4
  · subst y4
    refine bothQ (S := S) (r := nI (S.D.sn c)) hw hc hm (fun Q hQ => c_cart_t hw hc hx (b1 ⟨fun z => absurd z y0, fun _ => ⟨fun z => absurd z y1, fun _ => ⟨fun z => absurd z y2, fun _ => ⟨fun z => absurd z y3, fun _ => ⟨fun _ => ⟨v4, ?_⟩, fun z => absurd rfl z⟩⟩⟩⟩⟩)) (fun I1 J1 Q hm1 hQ => m_cart_t hw hm1 hx (b1 ⟨fun z => absurd z y0, fun _ => ⟨fun z => absurd z y1, fun _ => ⟨fun z => absurd z y2, fun _ => ⟨fun z => absurd z y3, fun _ => ⟨fun _ => ?_, fun z => absurd rfl z⟩⟩⟩⟩⟩))
    · rw [nI_clamp (by omega), hc.sn (by omega)]; exact hQ
    · rw [show (8 : Int32) + nI c = nI (8 + c) from nI_add 8 c, nI_clamp (by omega), hm1.sn (by omega)]; exact ⟨vp_in_nI (by omega) (by omega), hQ⟩
  exact bothQ (S := S) (r := -3) hw hc hm (fun Q hQ => c_cart_t hw hc hx (b1 ⟨fun z => absurd z y0, fun _ => ⟨fun z => absurd z y1, fun _ => ⟨fun z => absurd z y2, fun _ => ⟨fun z => absurd z y3, fun _ => ⟨fun z => absurd z y4, fun _ => hQ⟩⟩⟩⟩⟩)) (fun I1 J1 Q hm1 hQ => m_cart_t hw hm1 hx (b1 ⟨fun z => absurd z y0, fun _ => ⟨fun z => absurd z y1, fun _ => ⟨fun z => absurd z y2, fun _ => ⟨fun z => absurd z y3, fun _ => ⟨fun z => absurd z y4, fun _ => hQ⟩⟩⟩⟩⟩))
theorem p_as (I : MI) (J : MJ) (hI : Inv I J) (x y : Int32) : vc_X10_as x y I J (fun r I1 J1 => vc_X11_as x y I1 J1 (fun q I2 J2 => r = q ∧ Inv I2 J2)) := by
  obtain ⟨S, hw, hc, hm⟩ := hI
  have n4 := hw.n4
  by_cases hx : inN x S.C.nc
  rotate_left
  · exact bothQ (S := S) (r := -2) hw hc hm (fun Q hQ => c_cart_f hw hc hx (b0 hQ)) (fun I1 J1 Q hm1 hQ => m_cart_f hw hm1 hx (b0 hQ))
  by_cases hy : inR y 0 3
  rotate_left
  · exact bothQ (S := S) (r := -3) hw hc hm (fun Q hQ => c_cart_t hw hc hx (b1 (s_wi_f 0 3 hy (b0 hQ)))) (fun I1 J1 Q hm1 hQ => m_cart_t hw hm1 hx (b1 (s_in_f 0 3 hy (b0 hQ))))
  obtain ⟨c, hcn, rfl⟩ := id hx
  obtain ⟨k, -, hk, rfl⟩ := id hy
  have hd := hw.d hcn
  have hkk := hw.k hcn
  have v4 := vp_in_nI (n := c) (N := 4) (by omega) (by omega)
  have v8 := vp_in_nI (n := 8 + c) (N := 20) (by omega) (by omega)
  have b48 : ∀ (I1 : MI) (J1 : MJ) (Q : Int32 → MI → MJ → Prop), Mp S I1 J1 → Q (nI (S.D.sn c) - nI (rsC S c 1)) I1 J1 → vc_X11_as_B48 Q (nI c) (nI (S.D.sn c)) I1 J1 := by
    intro I1 J1 Q hm1 hQ
    refine m_kind hw hm1 hcn (m_straw hw hm1 hcn ?_)
    rw [show (4 : Int32) + nI c = nI (4 + c) from nI_add 4 c, nI_clamp (by omega), nI_clamp (by omega), hm1.hr (by omega), hm1.pl (by omega)]
    exact ⟨vp_in_nI (by omega) (by omega), vp_in_nI (by omega) (by omega), m_rested hm1.1 hw.1 hd.1 hd.2.2 (by omega) (by omega) (by omega) hQ⟩
  by_cases hf : S.C.ck c + 1 < k
  · refine bothQ (S := S) (r := -4) hw hc hm (fun Q hQ => c_cart_t hw hc hx (b1 (s_wi_t 0 3 hy (b1 ⟨v4, ?_⟩)))) (fun I1 J1 Q hm1 hQ => m_cart_t hw hm1 hx (b1 (s_in_t 0 3 hy (b1 ?_))))
    · rw [nI_clamp (by omega), (hc.ct hcn).1, nI_1]
      exact pk_lt (S.C.ck c + 1) k (fun _ => b0 hQ) (fun z => by omega)
    · rw [show (8 : Int32) + nI c = nI (8 + c) from nI_add 8 c]
      refine ⟨v8, nm_e ⟨fun z => ?_, fun _ => m_kind hw hm1 hcn ?_⟩⟩
      · rw [show (0 : Int32) = nI 0 from rfl, nI_eq (by omega) (by omega)] at z
        omega
      · rw [show (1 : Int32) = nI 1 from rfl, pk_sub (by omega)]
        exact pk_lt (S.C.ck c) (k - 1) (fun _ => hQ) (fun z => by omega)
  · refine bothQ (S := S) (r := nI (S.D.sn c) - nI (rsC S c 1)) hw hc hm (fun Q hQ => c_cart_t hw hc hx (b1 (s_wi_t 0 3 hy (b1 ⟨v4, ?_⟩)))) (fun I1 J1 Q hm1 hQ => m_cart_t hw hm1 hx (b1 (s_in_t 0 3 hy (b1 ?_))))
    · rw [nI_clamp (by omega), (hc.ct hcn).1, nI_1]
      refine pk_lt (S.C.ck c + 1) k (fun z => by omega) (fun _ => b1 ⟨v4, nm_e ?_⟩)
      rw [hc.sn (by omega)]
      exact c_resting (n := 1) hw hc hcn (by omega) hQ
    · rw [show (8 : Int32) + nI c = nI (8 + c) from nI_add 8 c, nI_clamp (by omega), hm1.sn (by omega)]
      refine ⟨v8, nm_e ⟨fun _ => b48 I1 J1 Q hm1 hQ, fun z => m_kind hw hm1 hcn ?_⟩⟩
      rw [show (0 : Int32) = nI 0 from rfl, nI_eq (by omega) (by omega)] at z
      rw [show (1 : Int32) = nI 1 from rfl, pk_sub (by omega)]
      exact pk_lt (S.C.ck c) (k - 1) (fun z => by omega) (fun _ => b48 I1 J1 Q hm1 hQ)
theorem p_roadAs (I : MI) (J : MJ) (hI : Inv I J) (x y : Int32) : vc_X10_roadAs x y I J (fun r I1 J1 => vc_X11_roadAs x y I1 J1 (fun q I2 J2 => r = q ∧ Inv I2 J2)) := by
  obtain ⟨S, hw, hc, hm⟩ := hI
  have n4 := hw.n4
  by_cases hx : inN x S.C.nr
  rotate_left
  · exact bothQ (S := S) (r := -2) hw hc hm (fun Q hQ => c_road_f hw hc hx (b0 hQ)) (fun I1 J1 Q hm1 hQ => m_road_f hw hm1 hx (b0 hQ))
  by_cases hy : inR y 0 3
  rotate_left
  · exact bothQ (S := S) (r := -3) hw hc hm (fun Q hQ => c_road_t hw hc hx (b1 (s_wi_f 0 3 hy (b0 hQ)))) (fun I1 J1 Q hm1 hQ => m_road_t hw hm1 hx (b1 (s_in_f 0 3 hy (b0 hQ))))
  obtain ⟨r, hr, rfl⟩ := id hx
  obtain ⟨k, -, hk, rfl⟩ := id hy
  obtain ⟨-, -, -, -, -, hrk⟩ := hw.r hr
  have v9 := vp_in_nI (n := r) (N := 9) (by omega) (by omega)
  have v36 := vp_in_nI (n := 4 * r + 3) (N := 36) (by omega) (by omega)
  have cls : ∀ (t : Bool) (Q : Int32 → MI → MJ → Prop), (t = true ↔ (k = 0 ∨ k = S.C.rk r + 1 ∨ (k = 1 ∧ S.C.rk r = 2))) → Q (if t then 1 else 0) I J → vc_X1_roadIs (nI r) (nI k) I J Q := by
    intro t Q ht q
    unfold vc_X1_roadIs
    rw [nI_clamp (by omega), (hc.rd hr).2.2.2]
    refine ⟨v9, nm_e ?_⟩
    rw [nI_1, show (0 : Int32) = nI 0 from rfl, show (1 : Int32) = nI 1 from rfl, show (2 : Int32) = nI 2 from rfl, nI_eq (by omega) (by omega), nI_eq (by omega) (by omega), nI_eq (by omega) (by omega), nI_eq (by omega) (by omega)]
    have yes : (k = 0 ∨ k = S.C.rk r + 1 ∨ (k = 1 ∧ S.C.rk r = 2)) → Q (nI 1) I J := fun h => by rw [ht.mpr h] at q; exact q
    have no : ¬ (k = 0 ∨ k = S.C.rk r + 1 ∨ (k = 1 ∧ S.C.rk r = 2)) → Q (nI 0) I J := fun h => by
      cases t
      · exact q
      · exact absurd (ht.mp rfl) h
    exact ⟨fun z => yes (by omega), fun z0 => ⟨fun z => yes (by omega), fun z1 => ⟨fun z => no (by omega), fun z2 => ⟨fun z => no (by omega), fun z => yes (by omega)⟩⟩⟩⟩
  have mdl : ∀ (t : Bool) (I1 : MI) (J1 : MJ) (Q : Int32 → MI → MJ → Prop), Mp S I1 J1 → (t = true ↔ (k = 0 ∨ k = S.C.rk r + 1 ∨ (k = 1 ∧ S.C.rk r = 2))) → vc_X11_roadAs_B74 Q (nI r) (if t then 1 else 0) I1 J1 → vc_X11_roadAs (nI r) (nI k) I1 J1 Q := by
    intro t I1 J1 Q hm1 ht q
    refine m_road_t hw hm1 hx (b1 (s_in_t 0 3 hy (b1 ?_)))
    rw [show (4 : Int32) * nI r + 3 = nI (4 * r + 3) from ix4 r 3, nI_clamp (by omega), (hm1.rd hr).2.2.2]
    refine ⟨v36, nm_e ?_⟩
    rw [show (0 : Int32) = nI 0 from rfl, show (1 : Int32) = nI 1 from rfl, show (2 : Int32) = nI 2 from rfl, nI_eq (by omega) (by omega), nI_eq (by omega) (by omega), nI_eq (by omega) (by omega), nI_eq (by omega) (by omega), nI_eq (by omega) (by omega)]
    have yes : (k = 0 ∨ k = S.C.rk r + 1 ∨ (k = 1 ∧ S.C.rk r = 2)) → vc_X11_roadAs_B69 Q (nI r) I1 J1 := fun h => by rw [ht.mpr h] at q; exact q
    have no : ¬ (k = 0 ∨ k = S.C.rk r + 1 ∨ (k = 1 ∧ S.C.rk r = 2)) → vc_X11_roadAs_B73 Q (nI r) I1 J1 := fun h => by
      cases t
      · exact q
      · exact absurd (ht.mp rfl) h
    exact ⟨fun z => yes (by omega), fun z0 => ⟨fun z1 => ⟨fun z2 => ⟨fun z => no (by omega), fun z => yes (by omega)⟩, fun z2 => ⟨fun z => no (by omega), fun z => yes (by omega)⟩⟩, fun z1 => ⟨fun z => no (by omega), fun z => yes (by omega)⟩⟩⟩
  by_cases hf : (k = 0 ∨ k = S.C.rk r + 1 ∨ (k = 1 ∧ S.C.rk r = 2))
  · exact bothQ (S := S) (r := nI (gn S.C r 50 0 0 0)) hw hc hm (fun Q hQ => c_road_t hw hc hx (b1 (s_wi_t 0 3 hy (b1 (cls true _ (by simpa using hf) (b1 (s_road (w := 50) (h := 0) (k := 0) (s := 0) hc.1 hw.1 hr (by omega) (by omega) (by omega) (by omega) hQ))))))) (fun I1 J1 Q hm1 hQ => mdl true I1 J1 Q hm1 (by simpa using hf) (b1' (m_comes (w := 50) (h := 0) (k := 0) (s := 0) hm1.1 hw.1 hr (by omega) (by omega) (by omega) (by omega) hQ)))
  · exact bothQ (S := S) (r := -4) hw hc hm (fun Q hQ => c_road_t hw hc hx (b1 (s_wi_t 0 3 hy (b1 (cls false _ (by simpa using hf) (b0 hQ)))))) (fun I1 J1 Q hm1 hQ => mdl false I1 J1 Q hm1 (by simpa using hf) (b0' hQ))
