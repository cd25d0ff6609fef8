/-! ===== meet answers alike ===== -/
theorem p_meet (I : MI) (J : MJ) (hI : Inv I J) (x y z u : Int32) : vc_X10_meet x y z u I J (fun r I1 J1 => vc_X11_meet x y z u I1 J1 (fun q I2 J2 => r = q ∧ Inv I2 J2)) := by
  obtain ⟨S, hw, hc, hm⟩ := hI
  by_cases hx : inN x S.C.nc
  rotate_left
  · exact bothQ (S := S) (r := -2) hw hc hm (fun Q hQ => c_cart_f hw hc hx (b0' hQ)) (fun I1 J1 Q hm1 hQ => m_cart_f hw hm1 hx (b0' hQ))
  by_cases hy : inN y S.C.nc
  rotate_left
  · exact bothQ (S := S) (r := -2) hw hc hm (fun Q hQ => c_cart_t hw hc hx (b1' (c_cart_f hw hc hy (b0' hQ)))) (fun I1 J1 Q hm1 hQ => m_cart_t hw hm1 hx (b1' (m_cart_f hw hm1 hy (b0' hQ))))
  by_cases hxy : x = y
  · exact bothQ (S := S) (r := -2) hw hc hm (fun Q hQ => c_cart_t hw hc hx (b1' (c_cart_t hw hc hy (b1' ⟨fun _ => hQ, fun z => absurd hxy z⟩)))) (fun I1 J1 Q hm1 hQ => m_cart_t hw hm1 hx (b1' (m_cart_t hw hm1 hy (b1' ⟨fun _ => hQ, fun z => absurd hxy z⟩))))
  by_cases hz : inN z S.C.np
  rotate_left
  · exact bothQ (S := S) (r := -2) hw hc hm (fun Q hQ => c_cart_t hw hc hx (b1' (c_cart_t hw hc hy (b1' ⟨fun z => absurd z hxy, fun _ => c_place_f hw hc hz (b0 hQ)⟩)))) (fun I1 J1 Q hm1 hQ => m_cart_t hw hm1 hx (b1' (m_cart_t hw hm1 hy (b1' ⟨fun z => absurd z hxy, fun _ => m_place_f hw hm1 hz (b0 hQ)⟩))))
  by_cases hu : inR u 0 1
  rotate_left
  · exact bothQ (S := S) (r := -3) hw hc hm (fun Q hQ => c_cart_t hw hc hx (b1' (c_cart_t hw hc hy (b1' ⟨fun z => absurd z hxy, fun _ => c_place_t hw hc hz (b1 (s_wi_f 0 1 hu (b0 hQ)))⟩)))) (fun I1 J1 Q hm1 hQ => m_cart_t hw hm1 hx (b1' (m_cart_t hw hm1 hy (b1' ⟨fun z => absurd z hxy, fun _ => m_place_t hw hm1 hz (b1 (s_in_f 0 1 hu (b0 hQ)))⟩))))
  obtain ⟨c, hcn, rfl⟩ := id hx
  obtain ⟨d, hdn, rfl⟩ := id hy
  obtain ⟨p, hpn, rfl⟩ := id hz
  obtain ⟨w0, -, hu1, rfl⟩ := id hu
  have n4 := hw.n4
  have hk := hw.k hcn
  have hkd := hw.k hdn
  have v4 := vp_in_nI (n := c) (N := 4) (by omega) (by omega)
  have v4d := vp_in_nI (n := d) (N := 4) (by omega) (by omega)
  have hd1 := RS_dom (s := S.C.cw c) hw hcn
  have hj1 := jn_dom (R2 := RS S d (S.C.cw d)) hd1
  have hdm := RC_dom (k := S.C.ck c) (s := S.C.cw c) hw.1 hj1
  generalize hR : RC S.C (S.C.ck c) (S.C.cw c) (jn (RS S c (S.C.cw c)) (RS S d (S.C.cw d))) = R at hdm
  have hR48 : ∀ p h w, R p h w → h ≤ 48 := fun p h w e => (hdm p h w e).2.1
  have z0 : nI w0 = 0 ↔ w0 = 0 := by rw [show (0 : Int32) = nI 0 from rfl, nI_eq (by omega) (by omega)]
  obtain ⟨g1, g2, g3⟩ := mxN_sp (dS R p 49) 100
  refine bothI (S := S) (S' := S) (r := if mxN (dS R p 49) 100 = 0 then -1 else if w0 = 0 then nI (mxN (dS R p 49) 100 - 1) else lsM_ (sB R p (mxN (dS R p 49) 100 - 1)) 49 0) hw hm (fun Q hQ => ?_) (fun I1 J1 Q hm1 hQ => ?_)
  · refine c_cart_t hw hc hx (b1' (c_cart_t hw hc hy (b1' ⟨fun z => absurd z hxy, fun _ => c_place_t hw hc hz (b1 (s_wi_t 0 1 hu (b1 ⟨v4, ?_⟩)))⟩)))
    rw [nI_clamp (n := c) (by omega), (hc.ct hcn).2.2]
    refine c_sprF hw hc (by decide) hcn hk.2 (fun J1 f1 f2 => ⟨v4d, ?_⟩)
    have hc1 : Cp S I J1 := hc.kJ (f1 5 (by decide))
    rw [nI_clamp (n := d) (by omega), (hc.ct hdn).2.2]
    refine c_sprF hw hc1 (by decide) hdn hkd.2 (fun J2 e1 e2 => ?_)
    have hc2 : Cp S I J2 := hc1.kJ (e1 5 (by decide))
    rw [show I 5 8 = nI S.C.np from hc.1.1]
    refine c_joinOf (C := S.C) (R1 := RS S c (S.C.cw c)) (R2 := RS S d (S.C.cw d)) (by omega) (by decide) (by decide) (fun p h w => by rw [e1 (26 + 1) (by decide)]; exact f2 p h w) e2 hd1 (fun J3 k1 k2 => ⟨v4, v4, ?_⟩)
    have hc3 : Cp S I J3 := hc2.kJ (k1 5 (by decide))
    rw [(hc.ct hcn).1, (hc.ct hcn).2.2]
    refine c_spread hw.1 hc3.1 (by decide) (by omega) hk.2 (fun p h w e => hj1 p h w ((k2 p h w).mp e)) (fun J4 l1 l2 => ?_)
    have h31 : ∀ p h w, EC (J4 (30 + 1)) p h w ↔ R p h w := fun p h w => by rw [← hR]; exact (l2 p h w).trans (RC_cg k2 p h w)
    have hQ := hQ I J4 (hc3.kJ (l1 5 (by decide))) ⟨fun _ _ => rfl, fun j hj => (((l1 j (by omega)).trans (k1 j (by omega))).trans (e1 j (by omega))).trans (f1 j (by omega))⟩
    by_cases e0 : mxN (dS R p 49) 100 = 0
    · rw [if_pos e0] at hQ
      exact ⟨fun _ => c_soon_n h31 hR48 (by omega) e0 hQ, fun _ => c_most h31 hR48 (by omega) (by rw [e0]; exact hQ)⟩
    · rw [if_neg e0] at hQ
      refine ⟨fun y0 => c_soon (w := mxN (dS R p 49) 100 - 1) h31 hR48 (by omega) (by omega) (by omega) ?_, fun y0 => c_most h31 hR48 (by omega) ?_⟩
      · rw [if_neg (fun t => y0 (z0.mpr t))] at hQ; exact hQ
      · rw [if_pos (z0.mp y0)] at hQ
        unfold mo
        rw [if_neg e0]; exact hQ
  · refine m_cart_t hw hm1 hx (b1' (m_cart_t hw hm1 hy (b1' ⟨fun z => absurd z hxy, fun _ => m_place_t hw hm1 hz (b1 (s_in_t 0 1 hu (b1 (m_straw hw hm1 hcn ?_))))⟩)))
    refine m_layF hw hm1 (by decide) (by decide) (by decide) hcn hk.2 (fun J2 f1 f2 => ?_)
    have hm2 : Mp S I1 J2 := hm1.kJ (f1 87 (by decide) (by decide))
    refine m_straw hw hm2 hdn (m_layF hw hm2 (by decide) (by decide) (by decide) hdn hkd.2 (fun J3 e1 e2 => ?_))
    have hm3 : Mp S I1 J3 := hm2.kJ (e1 87 (by decide) (by decide))
    refine m_clear (by decide) (fun J4 k1 k2 => ?_)
    refine m_joinOf (C := S.C) (R1 := RS S c (S.C.cw c)) (R2 := RS S d (S.C.cw d)) (J := J3) (fun p h w => by rw [e1 99 (by decide) (by decide), e1 100 (by decide) (by decide)]; exact f2 p h w) e2 hd1 (by omega) k1 k2 (fun k J5 l1 l2 => ?_)
    have hm5 : Mp S I1 J5 := hm3.kJ (l1 87 (by decide) (by decide))
    unfold vc_X11_meet_L95s
    refine pk_le 343 343 (fun _ => ?_) (fun z => by omega)
    refine m_kind hw hm5 hcn (m_straw hw hm5 hcn (m_spread hw.1 hm5.1 (by decide) (by decide) (by decide) (by omega) hk.2 (fun p h w e => hj1 p h w ((l2 p h w).mp e)) (fun J6 o1 o2 => ?_)))
    have h103 : ∀ p h w, EM (J6 103) (J6 104) p h w ↔ R p h w := fun p h w => by rw [← hR]; exact (o2 p h w).trans (RC_cg l2 p h w)
    have hQ := hQ I1 J6 (hm5.kJ (o1 87 (by decide) (by decide))) ⟨fun _ _ => rfl, fun j hj => (((o1 j (by omega) (by omega)).trans (l1 j (by omega) (by omega))).trans (e1 j (by omega) (by omega))).trans (f1 j (by omega) (by omega))⟩
    refine m_most (t := 48) h103 (by omega) (by omega) ?_
    by_cases e0 : mxN (dS R p 49) 100 = 0
    · rw [if_pos e0] at hQ
      rw [show mxN (dS R p (48 + 1)) 100 = 0 from e0]
      exact ⟨fun _ => hQ, fun z => absurd rfl z⟩
    · rw [if_neg e0] at hQ
      obtain ⟨w, ew⟩ : ∃ w, mxN (dS R p 49) 100 = w + 1 := ⟨mxN (dS R p 49) 100 - 1, by omega⟩
      have hPw : dS R p 49 w = true := by
        rcases g3 with g3 | g3
        · exact absurd g3 e0
        · rw [ew] at g3; exact g3
      rw [ew, Nat.add_sub_cancel] at hQ
      rw [show mxN (dS R p (48 + 1)) 100 = w + 1 from ew, mo_s]
      refine ⟨fun z => absurd z (nI_ne_m1 (by omega)), fun _ => ⟨fun y0 => ?_, fun y0 => ?_⟩⟩
      · rw [if_neg (fun t => y0 (z0.mpr t))] at hQ
        exact m_soon h103 (by omega) (by omega) (dB_o hPw) hQ
      · rw [if_pos (z0.mp y0)] at hQ
        exact hQ
