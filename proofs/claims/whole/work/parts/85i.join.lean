/-! ===== join, store, take, sell ===== -/
theorem max_h {a b : Nat} (ha : a < 2 ^ 31) (hb : b < 2 ^ 31) : (if nI a < nI b then nI b else nI a) = nI (max a b) := by
  by_cases h : a < b
  · rw [if_pos ((nI_ltI ha hb).mpr h), Nat.max_eq_right (by omega)]
  · rw [if_neg (fun z => h ((nI_ltI ha hb).mp z)), Nat.max_eq_left (by omega)]
theorem p_join (I : MI) (J : MJ) (hI : Inv I J) (x y : Int32) : vc_X10_join x y I J (fun r I1 J1 => vc_X11_join x y I1 J1 (fun q I2 J2 => r = q ∧ Inv I2 J2)) := by
  obtain ⟨S, hw, hc, hm⟩ := hI
  have n4 := hw.n4
  by_cases hx : inN x S.C.nc
  rotate_left
  · exact bothI (S := S) (S' := S) (r := -2) hw hm (fun Q hQ => c_cart_f hw hc hx (b0' (hQ _ _ hc Hi.rf))) (fun I1 J1 Q hm1 hQ => m_cart_f hw hm1 hx (b0' (hQ _ _ hm1 Lo.rf)))
  by_cases hy : inN y S.C.nc
  rotate_left
  · exact bothI (S := S) (S' := S) (r := -2) hw hm (fun Q hQ => c_cart_t hw hc hx (b1' (c_cart_f hw hc hy (b0' (hQ _ _ hc Hi.rf))))) (fun I1 J1 Q hm1 hQ => m_cart_t hw hm1 hx (b1' (m_cart_f hw hm1 hy (b0' (hQ _ _ hm1 Lo.rf)))))
  obtain ⟨c, hcn, rfl⟩ := id hx
  obtain ⟨d, hdn, rfl⟩ := id hy
  have hd := hw.d hcn
  have he := hw.d hdn
  have v4 := vp_in_nI (n := c) (N := 4) (by omega) (by omega)
  have w4 := vp_in_nI (n := d) (N := 4) (by omega) (by omega)
  have v20 := vp_in_nI (n := c) (N := 20) (by omega) (by omega)
  have w20 := vp_in_nI (n := d) (N := 20) (by omega) (by omega)
  have v24 := vp_in_nI (n := 4 + c) (N := 20) (by omega) (by omega)
  have w24 := vp_in_nI (n := 4 + d) (N := 20) (by omega) (by omega)
  have v28 := vp_in_nI (n := 8 + c) (N := 20) (by omega) (by omega)
  have w28 := vp_in_nI (n := 8 + d) (N := 20) (by omega) (by omega)
  by_cases hcd : c = d
  · subst hcd
    exact bothI (S := S) (S' := S) (r := -2) hw hm (fun Q hQ => c_cart_t hw hc hx (b1' (c_cart_t hw hc hy (b1' ⟨fun z => absurd rfl z, fun _ => hQ _ _ hc Hi.rf⟩)))) (fun I1 J1 Q hm1 hQ => m_cart_t hw hm1 hx (b1' (m_cart_t hw hm1 hy (b1' ⟨fun z => absurd rfl z, fun _ => hQ _ _ hm1 Lo.rf⟩))))
  have hne : ¬ nI c = nI d := by rw [nI_eq (by omega) (by omega)]; exact hcd
  by_cases hp : S.D.pl c = S.D.pl d
  rotate_left
  · refine bothI (S := S) (S' := S) (r := -4) hw hm (fun Q hQ => c_cart_t hw hc hx (b1' (c_cart_t hw hc hy (b1' ⟨fun _ => ⟨v4, w4, ?_⟩, fun z => absurd z hne⟩)))) (fun I1 J1 Q hm1 hQ => m_cart_t hw hm1 hx (b1' (m_cart_t hw hm1 hy (b1' ⟨fun _ => ⟨v20, w20, ?_⟩, fun z => absurd z hne⟩))))
    · rw [nI_clamp (by omega), nI_clamp (by omega), hc.pl (by omega), hc.pl (by omega), nI_eq (by omega) (by omega)]
      exact ⟨fun z => absurd z hp, fun _ => hQ _ _ hc Hi.rf⟩
    · rw [show (4 : Int32) + nI c = nI (4 + c) from nI_add 4 c, show (4 : Int32) + nI d = nI (4 + d) from nI_add 4 d, nI_clamp (by omega), nI_clamp (by omega), nI_clamp (by omega), nI_clamp (by omega), hm1.pl (by omega), hm1.pl (by omega), nI_eq (by omega) (by omega)]
      exact ⟨fun z => absurd z hp, fun _ => hQ _ _ hm1 Lo.rf⟩
  -- the later hour, and the snow of both then
  have hM1 : S.D.hr c ≤ max (S.D.hr c) (S.D.hr d) := Nat.le_max_left _ _
  have hM2 : S.D.hr d ≤ max (S.D.hr c) (S.D.hr d) := Nat.le_max_right _ _
  have hM3 : max (S.D.hr c) (S.D.hr d) ≤ 48 := Nat.max_le.mpr ⟨hd.2.1, he.2.1⟩
  generalize hMe : max (S.D.hr c) (S.D.hr d) = M at hM1 hM2 hM3
  have l1 : rsC S c (M - S.D.hr c) ≤ 99 := Nat.le_trans (rsN_le _ _ _ _ _ _ _) hd.2.2
  have l2 : rsC S d (M - S.D.hr d) ≤ 99 := Nat.le_trans (rsN_le _ _ _ _ _ _ _) he.2.2
  generalize hA : rsC S c (M - S.D.hr c) = A at l1
  generalize hB : rsC S d (M - S.D.hr d) = B at l2
  -- the common part of the class's walk and of the reference's
  have cls : ∀ Q : Int32 → MI → MJ → Prop, (∀ x24 : Int32, x24 = nI A + nI B → ((x24 ≤ 99 → vc_X0_remember I J (fun (I26 : MI) (J27 : MJ) => vp_in (nI c) 4 ∧ ∀ I29 : MI, I29 = wI I26 34 c (nI M) → vp_in (nI d) 4 ∧ ∀ I31 : MI, I31 = wI I29 34 d (nI M) → vp_in (nI c) 4 ∧ ∀ I33 : MI, I33 = wI I31 35 c x24 → vp_in (nI d) 4 ∧ ∀ I35 : MI, I35 = wI I33 35 d 0 → Q x24 I35 J27)) ∧ (¬ x24 ≤ 99 → Q (-5) I J))) → vc_X10_join (nI c) (nI d) I J Q := by
    intro Q h
    refine c_cart_t hw hc hx (b1' (c_cart_t hw hc hy (b1' ⟨fun _ => ⟨v4, w4, ?_⟩, fun z => absurd z hne⟩)))
    rw [nI_clamp (by omega), nI_clamp (by omega), hc.pl (by omega), hc.pl (by omega), hc.hr (by omega), hc.hr (by omega), nI_eq (by omega) (by omega), max_h (by omega) (by omega), hMe]
    refine ⟨fun _ => ⟨v4, w4, nm_e ⟨v4, ?_⟩⟩, fun z => absurd hp z⟩
    rw [pk_sub hM1]
    refine c_resting hw hc hcn (by omega) ⟨w4, ?_⟩
    rw [hc.hr (by omega), pk_sub hM2, hA]
    refine c_resting hw hc hdn (by omega) ?_
    rw [hB]
    exact h
  have mdl : ∀ (I1 : MI) (J1 : MJ) (Q : Int32 → MI → MJ → Prop), Mp S I1 J1 → (∀ x7 : Int32, x7 = nI A + nI B → ((x7 ≤ 99 → vc_X11_note I1 J1 (fun (I9 : MI) (J10 : MJ) => vp_in (nI (8 + c)) 20 ∧ ∀ I12 : MI, I12 = wI I9 93 (8 + c) x7 → vp_in (nI (8 + d)) 20 ∧ ∀ I14 : MI, I14 = wI I12 93 (8 + d) 0 → vp_in (nI (4 + c)) 20 ∧ ∀ I16 : MI, I16 = wI I14 93 (4 + c) (nI M) → vp_in (nI (4 + d)) 20 ∧ ∀ I18 : MI, I18 = wI I16 93 (4 + d) (nI M) → Q x7 I18 J10)) ∧ (¬ x7 ≤ 99 → Q (-5) I1 J1))) → vc_X11_join (nI c) (nI d) I1 J1 Q := by
    intro I1 J1 Q hm1 h
    have b80 : vc_X11_join_B80 Q (nI c) (nI d) (nI M) I1 J1 := by
      unfold vc_X11_join_B80
      rw [show (8 : Int32) + nI c = nI (8 + c) from nI_add 8 c, show (4 : Int32) + nI c = nI (4 + c) from nI_add 4 c, show (8 : Int32) + nI d = nI (8 + d) from nI_add 8 d, show (4 : Int32) + nI d = nI (4 + d) from nI_add 4 d, nI_clamp (by omega), nI_clamp (by omega), nI_clamp (by omega), nI_clamp (by omega)]
      have t1 := @m_till S I1 J1 hw hm1 c (M - S.D.hr c) hcn (by omega)
      have t2 := @m_till S I1 J1 hw hm1 d (M - S.D.hr d) hdn (by omega)
      rw [show S.D.hr c + (M - S.D.hr c) = M by omega] at t1
      rw [show S.D.hr d + (M - S.D.hr d) = M by omega] at t2
      refine t1 (t2 ?_)
      rw [hA, hB]
      exact h
    refine m_cart_t hw hm1 hx (b1' (m_cart_t hw hm1 hy (b1' ⟨fun _ => ⟨v20, w20, ?_⟩, fun z => absurd z hne⟩)))
    rw [show (4 : Int32) + nI c = nI (4 + c) from nI_add 4 c, show (4 : Int32) + nI d = nI (4 + d) from nI_add 4 d, nI_clamp (by omega), nI_clamp (by omega), nI_clamp (by omega), nI_clamp (by omega), hm1.pl (by omega), hm1.pl (by omega), hm1.hr (by omega), hm1.hr (by omega), nI_eq (by omega) (by omega)]
    refine ⟨fun _ => ⟨v24, w24, pk_le (S.D.hr c) (S.D.hr d) (fun z => ⟨w24, ?_⟩) (fun z => ⟨v24, ?_⟩)⟩, fun z => absurd hp z⟩
    · rw [show S.D.hr d = M by rw [← hMe]; omega]; exact b80
    · rw [show S.D.hr c = M by rw [← hMe]; omega]; exact b80
  by_cases hf : A + B ≤ 99
  · refine bothI (S := S) (S' := S.deed (S.D.pl, setN (setN S.D.hr c M) d M, setN (setN S.D.sn c (A + B)) d 0, S.D.st, S.D.got)) (r := nI (A + B)) (deed_wf hw (wfS_hr (wfS_hr (wfS_sn (wfS_sn hw.2.1 hcn hf) hdn (by omega)) hM3) hM3)) hm (fun Q hQ => cls Q (nm_r (nI_add A B) (pk_le (A + B) 99 (fun _ => s_remember hw.2.2.1.1 hc.2.1 hc.2.2.1 (fun I1 hU e1 => ⟨v4, nm_e ⟨w4, nm_e ⟨v4, nm_e ⟨w4, nm_e ?_⟩⟩⟩⟩)) (fun z => by omega)))) (fun I1 J1 Q hm1 hQ => mdl I1 J1 Q hm1 (nm_r (nI_add A B) (pk_le (A + B) 99 (fun _ => m_note hw.2.2.1.1 hm1.2.1 hm1.2.2.1 (fun I2 hU e1 e3 => ⟨v28, nm_e ⟨w28, nm_e ⟨v24, nm_e ⟨w24, nm_e ?_⟩⟩⟩⟩)) (fun z => by omega))))
    · exact hQ _ _ (hc.deed hU e1 (fun j hj => by rw [wI_row (by omega), wI_row (by omega), wI_row (by omega), wI_row (by omega)]) (cS_sn (v := 0) (cS_sn (cS_hr (cS_hr (hc.2.1.eq e1)))))) ⟨fun j hj => by rw [wI_row (by omega), wI_row (by omega), wI_row (by omega), wI_row (by omega), e1 j (by omega) (by omega)], fun _ _ => rfl⟩
    · exact hQ _ _ (hm1.deed hU e1 e3 (fun j hj => by rw [wI_row hj, wI_row hj, wI_row hj, wI_row hj]) (mS_hr (mS_hr (mS_sn (v := 0) (mS_sn (hm1.2.1.eq e1) (by omega)) (by omega)) (by omega)) (by omega))) ⟨fun j hj => by rw [wI_row (by omega), wI_row (by omega), wI_row (by omega), wI_row (by omega), e1 j (by omega) (by omega)], fun _ _ => rfl⟩
  · exact bothI (S := S) (S' := S) (r := -5) hw hm (fun Q hQ => cls Q (nm_r (nI_add A B) (pk_le (A + B) 99 (fun z => absurd z hf) (fun _ => hQ _ _ hc Hi.rf)))) (fun I1 J1 Q hm1 hQ => mdl I1 J1 Q hm1 (nm_r (nI_add A B) (pk_le (A + B) 99 (fun z => absurd z hf) (fun _ => hQ _ _ hm1 Lo.rf))))
theorem p_store (I : MI) (J : MJ) (hI : Inv I J) (x : Int32) : vc_X10_store x I J (fun r I1 J1 => vc_X11_store x I1 J1 (fun q I2 J2 => r = q ∧ Inv I2 J2)) := by
  obtain ⟨S, hw, hc, hm⟩ := hI
  have n4 := hw.n4
  by_cases hx : inN x S.C.nc
  rotate_left
  · exact bothI (S := S) (S' := S) (r := -2) hw hm (fun Q hQ => c_cart_f hw hc hx (b0 (hQ _ _ hc Hi.rf))) (fun I1 J1 Q hm1 hQ => m_cart_f hw hm1 hx (b0 (hQ _ _ hm1 Lo.rf)))
  obtain ⟨c, hcn, rfl⟩ := id hx
  have hd := hw.d hcn
  have hpk := hw.pk hd.1
  have v4 := vp_in_nI (n := c) (N := 4) (by omega) (by omega)
  have v20 := vp_in_nI (n := c) (N := 20) (by omega) (by omega)
  have v28 := vp_in_nI (n := 8 + c) (N := 20) (by omega) (by omega)
  have v7 := vp_in_nI (n := S.D.pl c) (N := 7) (by omega) (by omega)
  have v12 := vp_in_nI (n := 12 + S.D.pl c) (N := 20) (by omega) (by omega)
  have hst := hw.st (p := S.D.pl c) (by omega)
  have hol := opn_le (S.D.st (S.D.pl c))
  by_cases hk : S.C.pk (S.D.pl c) = 2
  rotate_left
  · refine bothI (S := S) (S' := S) (r := -4) hw hm (fun Q hQ => c_cart_t hw hc hx (b1 (c_isIn_f hw hc hcn (by omega) hk rfl (b0 (hQ _ _ hc Hi.rf))))) (fun I1 J1 Q hm1 hQ => m_cart_t hw hm1 hx (b1 ⟨v20, ?_⟩))
    rw [nI_clamp (by omega), hm1.pl (by omega)]
    refine nm_e ⟨v7, ?_⟩
    rw [nI_clamp (by omega), hm1.pk hd.1, show (2 : Int32) = nI 2 from rfl, nI_eq (by omega) (by omega)]
    exact ⟨fun z => absurd z hk, fun _ => hQ _ _ hm1 Lo.rf⟩
  generalize hT : opn (S.D.st (S.D.pl c)) + S.D.sn c = T
  have cls : ∀ Q : Int32 → MI → MJ → Prop, (((nI T ≤ 999 → vc_X0_remember I J (fun (I18 : MI) (J19 : MJ) => vp_in (nI (S.D.pl c)) 7 ∧ ∀ I21 : MI, I21 = wI I18 36 (S.D.pl c) (nI T) → vp_in (nI c) 4 ∧ ∀ I23 : MI, I23 = wI I21 35 c 0 → Q (nI T) I23 J19)) ∧ (¬ nI T ≤ 999 → Q (-5) I J))) → vc_X10_store (nI c) I J Q := by
    intro Q h
    refine c_cart_t hw hc hx (b1 (c_isIn_t hw hc hcn (by omega) hk rfl (b1 ⟨v4, ?_⟩)))
    rw [nI_clamp (by omega), hc.pl (by omega)]
    refine nm_e ⟨v7, ?_⟩
    rw [nI_clamp (by omega), hc.st (by omega)]
    refine s_opened hst ⟨v4, ?_⟩
    rw [hc.sn (by omega), nI_add, hT]
    exact nm_e h
  have mdl : ∀ (I1 : MI) (J1 : MJ) (Q : Int32 → MI → MJ → Prop), Mp S I1 J1 → ((nI T ≤ 999 → vc_X11_note I1 J1 (fun (I16 : MI) (J17 : MJ) => vp_in (nI (12 + S.D.pl c)) 20 ∧ ∀ I19 : MI, I19 = wI I16 93 (12 + S.D.pl c) (nI T) → vp_in (nI (8 + c)) 20 ∧ ∀ I21 : MI, I21 = wI I19 93 (8 + c) 0 → Q (nI T) I21 J17)) ∧ (¬ nI T ≤ 999 → Q (-5) I1 J1)) → vc_X11_store (nI c) I1 J1 Q := by
    intro I1 J1 Q hm1 h
    refine m_cart_t hw hm1 hx (b1 ⟨v20, ?_⟩)
    rw [nI_clamp (by omega), hm1.pl (by omega)]
    refine nm_e ⟨v7, ?_⟩
    rw [show (12 : Int32) + nI (S.D.pl c) = nI (12 + S.D.pl c) from nI_add 12 _, show (8 : Int32) + nI c = nI (8 + c) from nI_add 8 c, nI_clamp (by omega), nI_clamp (by omega), nI_clamp (by omega), hm1.pk hd.1, show (2 : Int32) = nI 2 from rfl, nI_eq (by omega) (by omega), hm1.st (by omega)]
    refine ⟨fun _ => ⟨v12, m_opened hst ⟨v28, ?_⟩⟩, fun z => absurd hk z⟩
    rw [hm1.sn (by omega), nI_add, hT]
    exact nm_e h
  by_cases hf : T ≤ 999
  · refine bothI (S := S) (S' := S.deed (S.D.pl, S.D.hr, setN S.D.sn c 0, setN S.D.st (S.D.pl c) T, S.D.got)) (r := nI T) (deed_wf hw (wfS_st (wfS_sn hw.2.1 hcn (by omega)) hd.1 hf)) hm (fun Q hQ => cls Q (pk_le T 999 (fun _ => s_remember hw.2.2.1.1 hc.2.1 hc.2.2.1 (fun I1 hU e1 => ⟨v7, nm_e ⟨v4, nm_e ?_⟩⟩)) (fun z => by omega))) (fun I1 J1 Q hm1 hQ => mdl I1 J1 Q hm1 (pk_le T 999 (fun _ => m_note hw.2.2.1.1 hm1.2.1 hm1.2.2.1 (fun I2 hU e1 e3 => ⟨v12, nm_e ⟨v28, nm_e ?_⟩⟩)) (fun z => by omega)))
    · exact hQ _ _ (hc.deed hU e1 (fun j hj => by rw [wI_row (by omega), wI_row (by omega)]) (cS_sn (v := 0) (cS_st (hc.2.1.eq e1)))) ⟨fun j hj => by rw [wI_row (by omega), wI_row (by omega), e1 j (by omega) (by omega)], fun _ _ => rfl⟩
    · exact hQ _ _ (hm1.deed hU e1 e3 (fun j hj => by rw [wI_row hj, wI_row hj]) (mS_sn (v := 0) (mS_st (hm1.2.1.eq e1) (by omega)) (by omega))) ⟨fun j hj => by rw [wI_row (by omega), wI_row (by omega), e1 j (by omega) (by omega)], fun _ _ => rfl⟩
  · exact bothI (S := S) (S' := S) (r := -5) hw hm (fun Q hQ => cls Q (pk_le T 999 (fun z => absurd z hf) (fun _ => hQ _ _ hc Hi.rf))) (fun I1 J1 Q hm1 hQ => mdl I1 J1 Q hm1 (pk_le T 999 (fun z => absurd z hf) (fun _ => hQ _ _ hm1 Lo.rf)))
theorem p_take (I : MI) (J : MJ) (hI : Inv I J) (x y : Int32) : vc_X10_take x y I J (fun r I1 J1 => vc_X11_take x y I1 J1 (fun q I2 J2 => r = q ∧ Inv I2 J2)) := by
  obtain ⟨S, hw, hc, hm⟩ := hI
  have n4 := hw.n4
  by_cases hx : inN x S.C.nc
  rotate_left
  · exact bothI (S := S) (S' := S) (r := -2) hw hm (fun Q hQ => c_cart_f hw hc hx (b0 (hQ _ _ hc Hi.rf))) (fun I1 J1 Q hm1 hQ => m_cart_f hw hm1 hx (b0 (hQ _ _ hm1 Lo.rf)))
  by_cases hy : inR y 1 99
  rotate_left
  · exact bothI (S := S) (S' := S) (r := -3) hw hm (fun Q hQ => c_cart_t hw hc hx (b1 (s_wi_f 1 99 hy (b0 (hQ _ _ hc Hi.rf))))) (fun I1 J1 Q hm1 hQ => m_cart_t hw hm1 hx (b1 (s_in_f 1 99 hy (b0 (hQ _ _ hm1 Lo.rf)))))
  obtain ⟨c, hcn, rfl⟩ := id hx
  obtain ⟨n, hn1, hn2, rfl⟩ := id hy
  have hd := hw.d hcn
  have hpk := hw.pk hd.1
  have v4 := vp_in_nI (n := c) (N := 4) (by omega) (by omega)
  have v20 := vp_in_nI (n := c) (N := 20) (by omega) (by omega)
  have v28 := vp_in_nI (n := 8 + c) (N := 20) (by omega) (by omega)
  have v7 := vp_in_nI (n := S.D.pl c) (N := 7) (by omega) (by omega)
  have v12 := vp_in_nI (n := 12 + S.D.pl c) (N := 20) (by omega) (by omega)
  have hst := hw.st (p := S.D.pl c) (by omega)
  have hol := opn_le (S.D.st (S.D.pl c))
  by_cases hk : S.C.pk (S.D.pl c) = 2
  rotate_left
  · refine bothI (S := S) (S' := S) (r := -4) hw hm (fun Q hQ => c_cart_t hw hc hx (b1 (s_wi_t 1 99 hy (b1 (c_isIn_f hw hc hcn (by omega) hk rfl (b0 (hQ _ _ hc Hi.rf))))))) (fun I1 J1 Q hm1 hQ => m_cart_t hw hm1 hx (b1 (s_in_t 1 99 hy (b1 ⟨v20, ?_⟩))))
    rw [nI_clamp (by omega), hm1.pl (by omega)]
    refine nm_e ⟨v7, ?_⟩
    rw [nI_clamp (by omega), hm1.pk hd.1, show (2 : Int32) = nI 2 from rfl, nI_eq (by omega) (by omega)]
    exact ⟨fun _ => hQ _ _ hm1 Lo.rf, fun z => absurd z hk⟩
  generalize hT : opn (S.D.st (S.D.pl c)) = T at hol
  have cls : ∀ Q : Int32 → MI → MJ → Prop, ((nI n ≤ nI T → vp_in (nI c) 4 ∧ ((nI (S.D.sn c + n) ≤ 99 → vc_X0_remember I J (fun (I22 : MI) (J23 : MJ) => vp_in (nI (S.D.pl c)) 7 ∧ ∀ I25 : MI, I25 = wI I22 36 (S.D.pl c) (nI T - nI n) → vp_in (nI c) 4 ∧ vp_in (nI c) 4 ∧ ∀ I28 : MI, I28 = wI I25 35 c ((I25 35 c) + nI n) → vp_in (nI c) 4 ∧ Q (I28 35 c) I28 J23)) ∧ (¬ nI (S.D.sn c + n) ≤ 99 → Q (-5) I J))) ∧ (¬ nI n ≤ nI T → Q (-4) I J)) → vc_X10_take (nI c) (nI n) I J Q := by
    intro Q h
    refine c_cart_t hw hc hx (b1 (s_wi_t 1 99 hy (b1 (c_isIn_t hw hc hcn (by omega) hk rfl (b1 ⟨v4, ?_⟩)))))
    rw [nI_clamp (by omega), hc.pl (by omega)]
    refine nm_e ⟨v7, ?_⟩
    rw [nI_clamp (by omega), hc.st (by omega)]
    refine s_opened hst ?_
    rw [hc.sn (by omega), nI_add, hT]
    exact h
  have mdl : ∀ (I1 : MI) (J1 : MJ) (Q : Int32 → MI → MJ → Prop), Mp S I1 J1 → ((nI n ≤ nI T → vp_in (nI (8 + c)) 20 ∧ ((nI (S.D.sn c + n) ≤ 99 → vc_X11_note I1 J1 (fun (I20 : MI) (J21 : MJ) => vp_in (nI (12 + S.D.pl c)) 20 ∧ vc_X11_opened (I20 93 (12 + S.D.pl c)) I20 J21 (fun (r25 : Int32) (I23 : MI) (J24 : MJ) => vp_in (nI (12 + S.D.pl c)) 20 ∧ ∀ I27 : MI, I27 = wI I23 93 (12 + S.D.pl c) (r25 - nI n) → vp_in (nI (8 + c)) 20 ∧ vp_in (nI (8 + c)) 20 ∧ ∀ I30 : MI, I30 = wI I27 93 (8 + c) ((I27 93 (8 + c)) + nI n) → vp_in (nI (8 + c)) 20 ∧ Q (I30 93 (8 + c)) I30 J24))) ∧ (¬ nI (S.D.sn c + n) ≤ 99 → Q (-5) I1 J1))) ∧ (¬ nI n ≤ nI T → Q (-4) I1 J1)) → vc_X11_take (nI c) (nI n) I1 J1 Q := by
    intro I1 J1 Q hm1 h
    refine m_cart_t hw hm1 hx (b1 (s_in_t 1 99 hy (b1 ⟨v20, ?_⟩)))
    rw [nI_clamp (by omega), hm1.pl (by omega)]
    refine nm_e ⟨v7, ?_⟩
    rw [show (12 : Int32) + nI (S.D.pl c) = nI (12 + S.D.pl c) from nI_add 12 _, show (8 : Int32) + nI c = nI (8 + c) from nI_add 8 c, nI_clamp (by omega), nI_clamp (by omega), nI_clamp (by omega), hm1.pk hd.1, show (2 : Int32) = nI 2 from rfl, nI_eq (by omega) (by omega), hm1.st (by omega)]
    refine ⟨fun z => absurd hk z, fun _ => ⟨v12, m_opened hst ?_⟩⟩
    rw [hm1.sn (by omega), nI_add, hT]
    exact h
  by_cases hg : n ≤ T
  rotate_left
  · exact bothI (S := S) (S' := S) (r := -4) hw hm (fun Q hQ => cls Q (pk_le n T (fun z => absurd z hg) (fun _ => hQ _ _ hc Hi.rf))) (fun I1 J1 Q hm1 hQ => mdl I1 J1 Q hm1 (pk_le n T (fun z => absurd z hg) (fun _ => hQ _ _ hm1 Lo.rf)))
  by_cases hf : S.D.sn c + n ≤ 99
  · refine bothI (S := S) (S' := S.deed (S.D.pl, S.D.hr, setN S.D.sn c (S.D.sn c + n), setN S.D.st (S.D.pl c) (T - n), S.D.got)) (r := nI (S.D.sn c + n)) (deed_wf hw (wfS_st (wfS_sn hw.2.1 hcn hf) hd.1 (by omega))) hm (fun Q hQ => cls Q (pk_le n T (fun _ => ⟨v4, pk_le (S.D.sn c + n) 99 (fun _ => s_remember hw.2.2.1.1 hc.2.1 hc.2.2.1 (fun I1 hU e1 => ⟨v7, nm_e ⟨v4, v4, nm_e ⟨v4, ?_⟩⟩⟩)) (fun z => by omega)⟩) (fun z => by omega))) (fun I1 J1 Q hm1 hQ => mdl I1 J1 Q hm1 (pk_le n T (fun _ => ⟨v28, pk_le (S.D.sn c + n) 99 (fun _ => m_note hw.2.2.1.1 hm1.2.1 hm1.2.2.1 (fun I2 hU e1 e3 => ⟨v12, ?_⟩)) (fun z => by omega)⟩) (fun z => by omega)))
    · rw [wI_same, pk_sub hg, show wI I1 36 (S.D.pl c) (nI (T - n)) 35 c = I1 35 c from rfl, e1 35 (by omega) (by omega), hc.sn (by omega), nI_add]
      exact hQ _ _ (hc.deed hU e1 (fun j hj => by rw [wI_row (by omega), wI_row (by omega)]) (cS_sn (cS_st (hc.2.1.eq e1)))) ⟨fun j hj => by rw [wI_row (by omega), wI_row (by omega), e1 j (by omega) (by omega)], fun _ _ => rfl⟩
    · have hn := hm1.noted hU e1 e3
      rw [hn.st (by omega)]
      refine m_opened hst ⟨v12, nm_e ⟨v28, v28, nm_e ⟨v28, ?_⟩⟩⟩
      rw [wI_same, show opn ((S.deed S.D).D.st (S.D.pl c)) = T from hT, pk_sub hg, mS_o (by omega), hn.sn (by omega), nI_add]
      exact hQ _ _ (hm1.deed hU e1 e3 (fun j hj => by rw [wI_row hj, wI_row hj]) (mS_sn (mS_st (hm1.2.1.eq e1) (by omega)) (by omega))) ⟨fun j hj => by rw [wI_row (by omega), wI_row (by omega), e1 j (by omega) (by omega)], fun _ _ => rfl⟩
  · exact bothI (S := S) (S' := S) (r := -5) hw hm (fun Q hQ => cls Q (pk_le n T (fun _ => ⟨v4, pk_le (S.D.sn c + n) 99 (fun z => absurd z hf) (fun _ => hQ _ _ hc Hi.rf)⟩) (fun z => by omega))) (fun I1 J1 Q hm1 hQ => mdl I1 J1 Q hm1 (pk_le n T (fun _ => ⟨v28, pk_le (S.D.sn c + n) 99 (fun z => absurd z hf) (fun _ => hQ _ _ hm1 Lo.rf)⟩) (fun z => by omega)))
/-- the price of an hour -/
def prc (h : Nat) : Nat := if h % 24 < 6 then 4 else if h % 24 < 12 then 3 else if h % 24 < 18 then 5 else 2
theorem prc_le (h : Nat) : prc h ≤ 5 := by unfold prc; split <;> (try split) <;> (try split) <;> omega
theorem s_price {h : Nat} (hh : h < 2 ^ 31) {I : MI} {J : MJ} {Q : Int32 → MI → MJ → Prop} (q : Q (nI (prc h)) I J) : vc_X2_priceIn (nI h) I J Q := by
  unfold vc_X2_priceIn
  have hm := Nat.mod_lt h (show 0 < 24 by decide)
  rw [show (24 : Int32) = nI 24 from rfl, pk_rem hh (by omega) (by omega), show (6 : Int32) = nI 6 from rfl, pk_div (by omega) (by omega) (by omega)]
  unfold prc at q
  refine pk_eq (h % 24 / 6) 0 (fun z => ?_) (fun z => pk_eq (h % 24 / 6) 1 (fun z1 => ?_) (fun z1 => pk_eq (h % 24 / 6) 2 (fun z2 => ?_) (fun z2 => ?_)))
  · rw [if_pos (by omega)] at q; exact q
  · rw [if_neg (by omega), if_pos (by omega)] at q; exact q
  · rw [if_neg (by omega), if_neg (by omega), if_pos (by omega)] at q; exact q
  · rw [if_neg (by omega), if_neg (by omega), if_neg (by omega)] at q; exact q
theorem m_price {h : Nat} (hh : h < 2 ^ 31) {I : MI} {J : MJ} {Q : Int32 → MI → MJ → Prop} (q : Q (nI (prc h)) I J) : vc_X11_priceIn (nI h) I J Q := by
  unfold vc_X11_priceIn
  have hm := Nat.mod_lt h (show 0 < 24 by decide)
  refine nm_r (pk_rem (d := 24) hh (by omega) (by omega)) ?_
  unfold prc at q
  refine pk_le 6 (h % 24) (fun z => pk_le 12 (h % 24) (fun z1 => pk_le 18 (h % 24) (fun z2 => ?_) (fun z2 => ?_)) (fun z1 => ?_)) (fun z => ?_)
  · rw [if_neg (by omega), if_neg (by omega), if_neg (by omega)] at q; exact q
  · rw [if_neg (by omega), if_neg (by omega), if_pos (by omega)] at q; exact q
  · rw [if_neg (by omega), if_pos (by omega)] at q; exact q
  · rw [if_pos (by omega)] at q; exact q
theorem p_sell (I : MI) (J : MJ) (hI : Inv I J) (x : Int32) : vc_X10_sell x I J (fun r I1 J1 => vc_X11_sell x I1 J1 (fun q I2 J2 => r = q ∧ Inv I2 J2)) := by
  obtain ⟨S, hw, hc, hm⟩ := hI
  have n4 := hw.n4
  by_cases hx : inN x S.C.nc
  rotate_left
  · exact bothI (S := S) (S' := S) (r := -2) hw hm (fun Q hQ => c_cart_f hw hc hx (b0 (hQ _ _ hc Hi.rf))) (fun I1 J1 Q hm1 hQ => m_cart_f hw hm1 hx (b0 (hQ _ _ hm1 Lo.rf)))
  obtain ⟨c, hcn, rfl⟩ := id hx
  have hd := hw.d hcn
  have hpk := hw.pk hd.1
  have v4 := vp_in_nI (n := c) (N := 4) (by omega) (by omega)
  have v20 := vp_in_nI (n := c) (N := 20) (by omega) (by omega)
  have v24 := vp_in_nI (n := 4 + c) (N := 20) (by omega) (by omega)
  have v28 := vp_in_nI (n := 8 + c) (N := 20) (by omega) (by omega)
  have v7 := vp_in_nI (n := S.D.pl c) (N := 7) (by omega) (by omega)
  have v19 : vp_in 19 20 := vp_in_nI (n := 19) (N := 20) (by omega) (by omega)
  by_cases hk : S.C.pk (S.D.pl c) = 3
  rotate_left
  · refine bothI (S := S) (S' := S) (r := -4) hw hm (fun Q hQ => c_cart_t hw hc hx (b1 (c_isIn_f hw hc hcn (by omega) hk rfl (b0 (hQ _ _ hc Hi.rf))))) (fun I1 J1 Q hm1 hQ => m_cart_t hw hm1 hx (b1 ?_))
    rw [nI_clamp (by omega), hm1.pl (by omega), nI_clamp (by omega), hm1.pk hd.1, show (3 : Int32) = nI 3 from rfl, nI_eq (by omega) (by omega)]
    exact ⟨v20, v7, fun z => absurd z hk, fun _ => hQ _ _ hm1 Lo.rf⟩
  refine bothI (S := S) (S' := S.deed (S.D.pl, S.D.hr, setN S.D.sn c 0, S.D.st, S.D.got + nI (S.D.sn c * prc (S.D.hr c)))) (r := nI (S.D.sn c * prc (S.D.hr c))) (deed_wf hw (wfS_got (wfS_sn hw.2.1 hcn (by omega)) _)) hm (fun Q hQ => c_cart_t hw hc hx (b1 (c_isIn_t hw hc hcn (by omega) hk rfl (b1 ?_)))) (fun I1 J1 Q hm1 hQ => m_cart_t hw hm1 hx (b1 ?_))
  · rw [nI_clamp (by omega), hc.hr (by omega), hc.sn (by omega)]
    refine ⟨v4, v4, s_price (by omega) (nm_r (pk_mul _ _) (s_remember hw.2.2.1.1 hc.2.1 hc.2.2.1 (fun I1 hU e1 => ⟨v4, nm_e (nm_e ?_)⟩)))⟩
    rw [show wI I1 35 c 0 32 4 = I1 32 4 from rfl, e1 32 (by omega) (by omega), hc.got]
    exact hQ _ _ (hc.deed hU e1 (fun j hj => by rw [wI_row (by omega), wI_row (by omega)]) (cS_got (cS_sn (v := 0) (hc.2.1.eq e1)))) ⟨fun j hj => by rw [wI_row (by omega), wI_row (by omega), e1 j (by omega) (by omega)], fun _ _ => rfl⟩
  · rw [show (8 : Int32) + nI c = nI (8 + c) from nI_add 8 c, show (4 : Int32) + nI c = nI (4 + c) from nI_add 4 c, nI_clamp (by omega), nI_clamp (by omega), nI_clamp (by omega), hm1.pl (by omega), nI_clamp (by omega), hm1.pk hd.1, show (3 : Int32) = nI 3 from rfl, nI_eq (by omega) (by omega)]
    refine ⟨v20, v7, fun _ => m_note hw.2.2.1.1 hm1.2.1 hm1.2.2.1 (fun I2 hU e1 e3 => ⟨v28, v24, ?_⟩), fun z => absurd hk z⟩
    have hn := hm1.noted hU e1 e3
    rw [hn.hr (by omega), hn.sn (by omega)]
    refine m_price (by show S.D.hr c < 2 ^ 31; omega) (nm_r (pk_mul _ _) ⟨v28, nm_e ⟨v19, v19, nm_e ?_⟩⟩)
    rw [show Int32.toNatClampNeg 19 = 19 from by decide, mS_o (show 19 ≠ 8 + c by omega), hn.got]
    exact hQ _ _ (hm1.deed hU e1 e3 (fun j hj => by rw [wI_row hj, wI_row hj]) (mS_got (mS_sn (v := 0) (hm1.2.1.eq e1) (by omega)))) ⟨fun j hj => by rw [wI_row (by omega), wI_row (by omega), e1 j (by omega) (by omega)], fun _ _ => rfl⟩
theorem p_price (I : MI) (J : MJ) (hI : Inv I J) (x : Int32) : vc_X10_price x I J (fun r I1 J1 => vc_X11_price x I1 J1 (fun q I2 J2 => r = q ∧ Inv I2 J2)) := by
  obtain ⟨S, hw, hc, hm⟩ := hI
  by_cases hx : inR x 0 48
  · obtain ⟨h, h1, h2, rfl⟩ := id hx
    exact bothI (S := S) (S' := S) (r := nI (prc h)) hw hm (fun Q hQ => s_wi_t 0 48 hx (b1' (s_price (by omega) (hQ _ _ hc Hi.rf)))) (fun I1 J1 Q hm1 hQ => s_in_t 0 48 hx (b1' (m_price (by omega) (hQ _ _ hm1 Lo.rf))))
  · exact bothI (S := S) (S' := S) (r := -3) hw hm (fun Q hQ => s_wi_f 0 48 hx (b0' (hQ _ _ hc Hi.rf))) (fun I1 J1 Q hm1 hQ => s_in_f 0 48 hx (b0' (hQ _ _ hm1 Lo.rf)))
