/-! ===== drip, rent, count ===== -/
theorem far7 {C : Cty} (hC : wfC C) {r : Nat} (hr : r < C.nr) (p : Nat) : far C r p < 8 := by
  obtain ⟨⟨n7, -, -⟩, -, hro, -, -⟩ := hC
  have := hro r hr
  unfold far
  split <;> omega
theorem c_links {C : Cty} {I : MI} {J : MJ} (hC : wfC C) (hc : rCc C I J) {r p s : Nat} (hr : r < C.nr) (hp : p ≤ 7) (hs : s ≤ 7) (t : Bool) (ht : t = true ↔ (tch C r p ∧ far C r p = s)) {Q : Int32 → MI → MJ → Prop} (q : Q (if t then 1 else 0) I J) : vc_X1_links (nI r) (nI p) (nI s) I J Q := by
  have hf := far7 hC hr p
  by_cases h1 : tch C r p
  · refine c_tch_t hC hc hr hp h1 (b1' (c_far hC hc hr hp ?_))
    rw [nI_eq (by omega) (by omega)]
    refine ⟨fun z => ?_, fun z => ?_⟩
    · cases t
      · exact q
      · exact absurd (ht.mp rfl).2 z
    · rw [ht.mpr ⟨h1, z⟩] at q; exact q
  · refine c_tch_f hC hc hr hp h1 (b0' ?_)
    cases t
    · exact q
    · exact absurd (ht.mp rfl).1 h1
def drP (S : ST) (c p w : Nat) : Nat → Bool := fun r => ((decide (S.C.ra r = S.D.pl c) || decide (S.C.rb r = S.D.pl c)) && decide (far S.C r (S.D.pl c) = p)) && (decide (S.D.hr c + S.C.rh r ≤ 48) && decide (gnC S c r = w))
theorem drP_iff (S : ST) (c p w r : Nat) : drP S c p w r = true ↔ ((tch S.C r (S.D.pl c) ∧ far S.C r (S.D.pl c) = p) ∧ (S.D.hr c + S.C.rh r ≤ 48 ∧ gnC S c r = w)) := by
  unfold drP tch
  simp [Bool.and_eq_true]
theorem drP_f {S : ST} {c p w r : Nat} (h : ¬ ((tch S.C r (S.D.pl c) ∧ far S.C r (S.D.pl c) = p) ∧ (S.D.hr c + S.C.rh r ≤ 48 ∧ gnC S c r = w))) : drP S c p w r = false := by
  cases e : drP S c p w r
  · rfl
  · exact absurd ((drP_iff S c p w r).mp e) h
theorem gnC_le {S : ST} (hw : wf S) {c : Nat} (hc : c < S.C.nc) (r : Nat) : gnC S c r ≤ 99 := Nat.le_trans (gn_le _ _ _ _ _ _) (hw.d hc).2.2
theorem p_drip (I : MI) (J : MJ) (hI : Inv I J) (x y z : Int32) : vc_X10_drip x y z I J (fun r I1 J1 => vc_X11_drip x y z I1 J1 (fun q I2 J2 => r = q ∧ Inv I2 J2)) := by
  obtain ⟨S, hw, hc, hm⟩ := hI
  have n4 := hw.n4
  by_cases hx : inN x S.C.nc
  rotate_left
  · exact bothQ (S := S) (r := -2) hw hc hm (fun Q hQ => c_cart_f hw hc hx (b0' hQ)) (fun I1 J1 Q hm1 hQ => m_cart_f hw hm1 hx (b0' hQ))
  by_cases hy : inN y S.C.np
  rotate_left
  · exact bothQ (S := S) (r := -2) hw hc hm (fun Q hQ => c_cart_t hw hc hx (b1' (c_place_f hw hc hy (b0' hQ)))) (fun I1 J1 Q hm1 hQ => m_cart_t hw hm1 hx (b1' (m_place_f hw hm1 hy (b0' hQ))))
  obtain ⟨c, hcn, rfl⟩ := id hx
  obtain ⟨p, hp, rfl⟩ := id hy
  have hd := hw.d hcn
  have hk := hw.k hcn
  have v4 := vp_in_nI (n := c) (N := 4) (by omega) (by omega)
  have v20 := vp_in_nI (n := c) (N := 20) (by omega) (by omega)
  have v24 := vp_in_nI (n := 4 + c) (N := 20) (by omega) (by omega)
  have v28 := vp_in_nI (n := 8 + c) (N := 20) (by omega) (by omega)
  by_cases hpp : S.D.pl c = p
  · refine bothQ (S := S) (r := -2) hw hc hm (fun Q hQ => c_cart_t hw hc hx (b1' (c_place_t hw hc hy (b1' ⟨v4, ?_⟩)))) (fun I1 J1 Q hm1 hQ => m_cart_t hw hm1 hx (b1' (m_place_t hw hm1 hy (b1' ⟨v20, ?_⟩))))
    · rw [nI_clamp (by omega), hc.pl (by omega), nI_eq (by omega) (by omega)]
      exact ⟨fun z => absurd hpp z, fun _ => hQ⟩
    · rw [nI_clamp (by omega), hm1.pl (by omega), nI_eq (by omega) (by omega)]
      exact ⟨fun z => absurd hpp z, fun _ => hQ⟩
  by_cases hz : inR z 0 99
  rotate_left
  · refine bothQ (S := S) (r := -3) hw hc hm (fun Q hQ => c_cart_t hw hc hx (b1' (c_place_t hw hc hy (b1' ⟨v4, ?_⟩)))) (fun I1 J1 Q hm1 hQ => m_cart_t hw hm1 hx (b1' (m_place_t hw hm1 hy (b1' ⟨v20, ?_⟩))))
    · rw [nI_clamp (by omega), hc.pl (by omega), nI_eq (by omega) (by omega)]
      exact ⟨fun _ => s_wi_f 0 99 hz (b0 hQ), fun z => absurd z hpp⟩
    · rw [nI_clamp (by omega), hm1.pl (by omega), nI_eq (by omega) (by omega)]
      exact ⟨fun _ => s_in_f 0 99 hz (b0 hQ), fun z => absurd z hpp⟩
  obtain ⟨w, -, hwz, rfl⟩ := id hz
  refine bothQ (S := S) (r := msk (drP S c p w) S.C.nr) hw hc hm (fun Q hQ => c_cart_t hw hc hx (b1' (c_place_t hw hc hy (b1' ⟨v4, ?_⟩)))) (fun I1 J1 Q hm1 hQ => m_cart_t hw hm1 hx (b1' (m_place_t hw hm1 hy (b1' ⟨v20, ?_⟩))))
  · have loop : ∀ d i, i + d = S.C.nr → vc_X10_drip_L74 Q (d + 1) (nI c) (nI p) (nI w) (nI (S.D.pl c)) (msk (drP S c p w) i) (nI i) I J := by
      intro d
      induction d with
      | zero =>
        intro i hi
        show vc_X10_drip_L74s Q (vc_X10_drip_L74 Q 0) _ _ _ _ _ _ I J
        unfold vc_X10_drip_L74s
        rw [hc.nr]
        have e : i = S.C.nr := by omega
        subst e
        exact pk_le S.C.nr S.C.nr (fun _ => hQ) (fun z => by omega)
      | succ d ih =>
        intro i hi
        have hg := gnC_le hw hcn i
        have no : drP S c p w i = false → vc_X10_drip_L74 Q (d + 1) (nI c) (nI p) (nI w) (nI (S.D.pl c)) (msk (drP S c p w) i) (nI (i + 1)) I J := fun h => by rw [msk_f h]; exact ih (i + 1) (by omega)
        show vc_X10_drip_L74s Q (vc_X10_drip_L74 Q (d + 1)) _ _ _ _ _ _ I J
        unfold vc_X10_drip_L74s
        rw [hc.nr]
        refine pk_le S.C.nr i (fun z => by omega) (fun _ => ?_)
        by_cases hl : tch S.C i (S.D.pl c) ∧ far S.C i (S.D.pl c) = p
        · refine c_links hw.1 hc.1 (by omega) (by omega) (by omega) true (by simp [hl]) (b1' ?_)
          by_cases ht : S.D.hr c + S.C.rh i ≤ 48
          · refine c_time_t hw hc hcn (by omega) ht (b1' (c_going hw hc hcn (by omega) ?_))
            rw [nI_eq (by omega) (by omega)]
            exact ⟨fun z => nm_r (nI_1 i) (no (drP_f (fun h => z h.2.2))), fun z => nm_r (msk_t ((drP_iff S c p w i).mpr ⟨hl, ht, z⟩)) (nm_r (nI_1 i) (ih (i + 1) (by omega)))⟩
          · exact c_time_f hw hc hcn (by omega) ht (b0' (nm_r (nI_1 i) (no (drP_f (fun h => ht h.2.1)))))
        · exact c_links hw.1 hc.1 (by omega) (by omega) (by omega) false (by simp [hl]) (b0' (nm_r (nI_1 i) (no (drP_f (fun h => hl h.1)))))
    rw [nI_clamp (by omega), hc.pl (by omega), nI_eq (by omega) (by omega)]
    exact ⟨fun _ => s_wi_t 0 99 hz (b1 ⟨v4, nm_r (hc.pl (by omega)) ⟨S.C.nr + 1, loop S.C.nr 0 (by omega)⟩⟩), fun z => absurd z hpp⟩
  · have loop : ∀ d i, i + d = S.C.nr → vc_X11_drip_L48 Q (d + 1) (nI c) (nI p) (nI w) (msk (drP S c p w) i) (nI i) I1 J1 := by
      intro d
      induction d with
      | zero =>
        intro i hi
        show vc_X11_drip_L48s Q (vc_X11_drip_L48 Q 0) _ _ _ _ _ I1 J1
        unfold vc_X11_drip_L48s
        rw [hm1.nr]
        have e : i = S.C.nr := by omega
        subst e
        exact pk_le S.C.nr S.C.nr (fun _ => hQ) (fun z => by omega)
      | succ d ih =>
        intro i hi
        have hg := gnC_le hw hcn i
        have hro := hw.r (r := i) (by omega)
        have no : drP S c p w i = false → vc_X11_drip_B157 Q (vc_X11_drip_L48 Q (d + 1)) (nI c) (nI p) (nI w) (nI i) (msk (drP S c p w) i) 0 I1 J1 := fun h => nm_r ((or0 _).trans (msk_f h)) (nm_r (nI_1 i) (ih (i + 1) (by omega)))
        have no2 : drP S c p w i = false → vc_X11_drip_B102 Q (vc_X11_drip_L48 Q (d + 1)) (nI c) (nI p) (nI w) (msk (drP S c p w) i) (nI i) I1 J1 := fun h => b0' (no h)
        show vc_X11_drip_L48s Q (vc_X11_drip_L48 Q (d + 1)) _ _ _ _ _ I1 J1
        unfold vc_X11_drip_L48s
        rw [hm1.nr]
        refine pk_le S.C.nr i (fun z => by omega) (fun _ => ⟨v20, ?_⟩)
        rw [nI_clamp (by omega), hm1.pl (by omega)]
        by_cases h1 : tch S.C i (S.D.pl c)
        · have hf := far7 hw.1 (r := i) (by omega) (S.D.pl c)
          refine m_end_t hw.1 hm1.1 (by omega) (by omega) h1 ?_
          rw [nI_eq (by omega) (by omega)]
          refine ⟨fun z => no2 (drP_f (fun h => z h.1.2)), fun z => ?_⟩
          rw [show (4 : Int32) + nI c = nI (4 + c) from nI_add 4 c, show (4 : Int32) * nI i + 2 = nI (4 * i + 2) from ix4 i 2, nI_clamp (by omega), nI_clamp (by omega), hm1.hr (by omega), (hm1.rd (r := i) (by omega)).2.2.1, nI_add]
          refine ⟨v24, vp_in_nI (by omega) (by omega), pk_lt 48 (S.D.hr c + S.C.rh i) (fun z2 => no2 (drP_f (fun h => by omega))) (fun z2 => b1' ?_)⟩
          rw [show (4 : Int32) + nI c = nI (4 + c) from nI_add 4 c, show (8 : Int32) + nI c = nI (8 + c) from nI_add 8 c, nI_clamp (by omega), nI_clamp (by omega), hm1.sn (by omega)]
          refine ⟨v28, m_kind hw hm1 hcn (m_straw hw hm1 hcn ⟨v24, ?_⟩)⟩
          rw [hm1.hr (by omega)]
          refine m_comes hm1.1 hw.1 (by omega) hd.2.2 hd.2.1 (by omega) (by omega) ?_
          rw [nI_eq (by have := gn_le S.C i (S.D.sn c) (S.C.ck c) (S.C.cw c) (S.D.hr c); omega) (by omega)]
          exact ⟨fun z3 => no (drP_f (fun h => z3 h.2.2)), fun z3 => nm_r (msk_t ((drP_iff S c p w i).mpr ⟨⟨h1, z⟩, by omega, z3⟩)) (nm_r (nI_1 i) (ih (i + 1) (by omega)))⟩
        · refine m_end_f hw.1 hm1.1 (by omega) (by omega) h1 ⟨fun _ => no2 (drP_f (fun h => h1 h.1.1)), fun z => absurd z.symm (nI_ne_m1 (by omega))⟩
    rw [nI_clamp (by omega), hm1.pl (by omega), nI_eq (by omega) (by omega)]
    exact ⟨fun _ => s_in_t 0 99 hz (b1 ⟨S.C.nr + 1, loop S.C.nr 0 (by omega)⟩), fun z => absurd z hpp⟩
/-! what a cart's load would bring by a road -/
def wrB (S : ST) (c r : Nat) : Nat := gnC S c r * prc (S.D.hr c + S.C.rh r)
theorem c_mayGo {S : ST} {I : MI} {J : MJ} (hw : wf S) (hc : Cp S I J) {c r : Nat} (hcn : c < S.C.nc) (hr : r < S.C.nr) (t : Bool) (ht : t = true ↔ (tch S.C r (S.D.pl c) ∧ S.D.hr c + S.C.rh r ≤ 48)) {Q : Int32 → MI → MJ → Prop} (q : Q (if t then 1 else 0) I J) : vc_X10_mayGo (nI c) (nI r) I J Q := by
  have n4 := hw.n4
  have hd := hw.d hcn
  unfold vc_X10_mayGo
  rw [nI_clamp (by omega), hc.pl (by omega)]
  refine ⟨vp_in_nI (by omega) (by omega), ?_⟩
  have no : ¬ (tch S.C r (S.D.pl c) ∧ S.D.hr c + S.C.rh r ≤ 48) → Q 0 I J := fun h => by
    cases t
    · exact q
    · exact absurd (ht.mp rfl) h
  by_cases h1 : tch S.C r (S.D.pl c)
  · refine c_tch_t hw.1 hc.1 hr (by omega) h1 (b1' ?_)
    by_cases h2 : S.D.hr c + S.C.rh r ≤ 48
    · refine c_time_t hw hc hcn hr h2 (b1' ?_)
      rw [ht.mpr ⟨h1, h2⟩] at q; exact q
    · exact c_time_f hw hc hcn hr h2 (b0' (no (fun h => h2 h.2)))
  · exact c_tch_f hw.1 hc.1 hr (by omega) h1 (b0' (no (fun h => h1 h.1)))
theorem m_canGo {S : ST} {I : MI} {J : MJ} (hw : wf S) (hm : Mp S I J) {c r : Nat} (hcn : c < S.C.nc) (hr : r < S.C.nr) (t : Bool) (ht : t = true ↔ (tch S.C r (S.D.pl c) ∧ S.D.hr c + S.C.rh r ≤ 48)) {Q : Int32 → MI → MJ → Prop} (q : Q (if t then 1 else 0) I J) : vc_X11_canGo (nI c) (nI r) I J Q := by
  have n4 := hw.n4
  have hd := hw.d hcn
  have hro := hw.r hr
  unfold vc_X11_canGo
  rw [nI_clamp (by omega), hm.pl (by omega)]
  refine ⟨vp_in_nI (by omega) (by omega), ?_⟩
  have no : ¬ (tch S.C r (S.D.pl c) ∧ S.D.hr c + S.C.rh r ≤ 48) → Q 0 I J := fun h => by
    cases t
    · exact q
    · exact absurd (ht.mp rfl) h
  by_cases h1 : tch S.C r (S.D.pl c)
  · have hf := far7 hw.1 hr (S.D.pl c)
    refine m_end_t hw.1 hm.1 hr (by omega) h1 ⟨fun z => absurd z (nI_ne_m1 (by omega)), fun _ => ?_⟩
    rw [show (4 : Int32) + nI c = nI (4 + c) from nI_add 4 c, show (4 : Int32) * nI r + 2 = nI (4 * r + 2) from ix4 r 2, nI_clamp (by omega), nI_clamp (by omega), hm.hr (by omega), (hm.rd hr).2.2.1, nI_add]
    refine ⟨vp_in_nI (by omega) (by omega), vp_in_nI (by omega) (by omega), pk_lt 48 (S.D.hr c + S.C.rh r) (fun z => no (fun h => by omega)) (fun z => ?_)⟩
    rw [ht.mpr ⟨h1, by omega⟩] at q; exact q
  · exact m_end_f hw.1 hm.1 hr (by omega) h1 ⟨fun _ => no (fun h => h1 h.1), fun z => absurd rfl z⟩
theorem c_worth {S : ST} {I : MI} {J : MJ} (hw : wf S) (hc : Cp S I J) {c r : Nat} (hcn : c < S.C.nc) (hr : r < S.C.nr) {Q : Int32 → MI → MJ → Prop} (q : Q (nI (wrB S c r)) I J) : vc_X10_worthBy (nI c) (nI r) I J Q := by
  have n4 := hw.n4
  have hd := hw.d hcn
  have hro := hw.r hr
  unfold vc_X10_worthBy
  rw [nI_clamp (by omega), nI_clamp (by omega), hc.hr (by omega), (hc.rd hr).2.2.1, nI_add]
  refine ⟨vp_in_nI (by omega) (by omega), vp_in_nI (by omega) (by omega), nm_e (c_going hw hc hcn hr (s_price (by omega) ?_))⟩
  rw [pk_mul]; exact q
theorem m_worth {S : ST} {I : MI} {J : MJ} (hw : wf S) (hm : Mp S I J) {c r : Nat} (hcn : c < S.C.nc) (hr : r < S.C.nr) {Q : Int32 → MI → MJ → Prop} (q : Q (nI (wrB S c r)) I J) : vc_X11_rentOf (nI c) (nI r) I J Q := by
  have n4 := hw.n4
  have hd := hw.d hcn
  have hk := hw.k hcn
  have hro := hw.r hr
  unfold vc_X11_rentOf
  rw [show (4 : Int32) + nI c = nI (4 + c) from nI_add 4 c, show (8 : Int32) + nI c = nI (8 + c) from nI_add 8 c, show (4 : Int32) * nI r + 2 = nI (4 * r + 2) from ix4 r 2, nI_clamp (by omega), nI_clamp (by omega), nI_clamp (by omega), hm.sn (by omega)]
  have v24 := vp_in_nI (n := 4 + c) (N := 20) (by omega) (by omega)
  refine ⟨vp_in_nI (by omega) (by omega), m_kind hw hm hcn (m_straw hw hm hcn ⟨v24, ?_⟩)⟩
  rw [hm.hr (by omega)]
  refine m_comes hm.1 hw.1 hr hd.2.2 hd.2.1 (by omega) (by omega) ⟨v24, vp_in_nI (by omega) (by omega), ?_⟩
  rw [hm.hr (by omega), (hm.rd hr).2.2.1, nI_add]
  refine m_price (by omega) ?_
  rw [pk_mul]; exact q
theorem p_rent (I : MI) (J : MJ) (hI : Inv I J) (x y z : Int32) : vc_X10_rent x y z I J (fun r I1 J1 => vc_X11_rent x y z I1 J1 (fun q I2 J2 => r = q ∧ Inv I2 J2)) := by
  obtain ⟨S, hw, hc, hm⟩ := hI
  have n4 := hw.n4
  by_cases hx : inN x S.C.nc
  rotate_left
  · exact bothQ (S := S) (r := -2) hw hc hm (fun Q hQ => c_cart_f hw hc hx (b0' hQ)) (fun I1 J1 Q hm1 hQ => m_cart_f hw hm1 hx (b0' hQ))
  by_cases hy : inN y S.C.nr
  rotate_left
  · exact bothQ (S := S) (r := -2) hw hc hm (fun Q hQ => c_cart_t hw hc hx (b1' (c_road_f hw hc hy (b0' hQ)))) (fun I1 J1 Q hm1 hQ => m_cart_t hw hm1 hx (b1' (m_road_f hw hm1 hy (b0' hQ))))
  by_cases hz : inN z S.C.nr
  rotate_left
  · exact bothQ (S := S) (r := -2) hw hc hm (fun Q hQ => c_cart_t hw hc hx (b1' (c_road_t hw hc hy (b1' (c_road_f hw hc hz (b0' hQ)))))) (fun I1 J1 Q hm1 hQ => m_cart_t hw hm1 hx (b1' (m_road_t hw hm1 hy (b1' (m_road_f hw hm1 hz (b0' hQ))))))
  by_cases hyz : y = z
  · exact bothQ (S := S) (r := -2) hw hc hm (fun Q hQ => c_cart_t hw hc hx (b1' (c_road_t hw hc hy (b1' (c_road_t hw hc hz (b1' ⟨fun h => absurd hyz h, fun _ => hQ⟩)))))) (fun I1 J1 Q hm1 hQ => m_cart_t hw hm1 hx (b1' (m_road_t hw hm1 hy (b1' (m_road_t hw hm1 hz (b1' ⟨fun h => absurd hyz h, fun _ => hQ⟩))))))
  obtain ⟨c, hcn, rfl⟩ := id hx
  obtain ⟨r1, hr1, rfl⟩ := id hy
  obtain ⟨r2, hr2, rfl⟩ := id hz
  by_cases h1 : tch S.C r1 (S.D.pl c) ∧ S.D.hr c + S.C.rh r1 ≤ 48
  rotate_left
  · exact bothQ (S := S) (r := -4) hw hc hm (fun Q hQ => c_cart_t hw hc hx (b1' (c_road_t hw hc hy (b1' (c_road_t hw hc hz (b1' ⟨fun _ => c_mayGo hw hc hcn hr1 false (by simp [h1]) (b0' hQ), fun h => absurd h hyz⟩)))))) (fun I1 J1 Q hm1 hQ => m_cart_t hw hm1 hx (b1' (m_road_t hw hm1 hy (b1' (m_road_t hw hm1 hz (b1' ⟨fun _ => m_canGo hw hm1 hcn hr1 false (by simp [h1]) (b0' hQ), fun h => absurd h hyz⟩))))))
  by_cases h2 : tch S.C r2 (S.D.pl c) ∧ S.D.hr c + S.C.rh r2 ≤ 48
  rotate_left
  · exact bothQ (S := S) (r := -4) hw hc hm (fun Q hQ => c_cart_t hw hc hx (b1' (c_road_t hw hc hy (b1' (c_road_t hw hc hz (b1' ⟨fun _ => c_mayGo hw hc hcn hr1 true (by simp [h1]) (b1' (c_mayGo hw hc hcn hr2 false (by simp [h2]) (b0 hQ))), fun h => absurd h hyz⟩)))))) (fun I1 J1 Q hm1 hQ => m_cart_t hw hm1 hx (b1' (m_road_t hw hm1 hy (b1' (m_road_t hw hm1 hz (b1' ⟨fun _ => m_canGo hw hm1 hcn hr1 true (by simp [h1]) (b1' (m_canGo hw hm1 hcn hr2 false (by simp [h2]) (b0' hQ))), fun h => absurd h hyz⟩))))))
  exact bothQ (S := S) (r := (nI (wrB S c r1) - nI (wrB S c r2)) + 9999) hw hc hm (fun Q hQ => c_cart_t hw hc hx (b1' (c_road_t hw hc hy (b1' (c_road_t hw hc hz (b1' ⟨fun _ => c_mayGo hw hc hcn hr1 true (by simp [h1]) (b1' (c_mayGo hw hc hcn hr2 true (by simp [h2]) (b1 (c_worth hw hc hcn hr1 (c_worth hw hc hcn hr2 hQ))))), fun h => absurd h hyz⟩)))))) (fun I1 J1 Q hm1 hQ => m_cart_t hw hm1 hx (b1' (m_road_t hw hm1 hy (b1' (m_road_t hw hm1 hz (b1' ⟨fun _ => m_canGo hw hm1 hcn hr1 true (by simp [h1]) (b1' (m_canGo hw hm1 hcn hr2 true (by simp [h2]) (b1' (m_worth hw hm1 hcn hr1 (m_worth hw hm1 hcn hr2 hQ))))), fun h => absurd h hyz⟩))))))
/-! sums -/
def smN (f : Nat → Nat) : Nat → Nat
  | 0 => 0
  | n + 1 => smN f n + f n
theorem smN_cut {f : Nat → Nat} {n : Nat} : ∀ d, (∀ i, n ≤ i → i < n + d → f i = 0) → smN f (n + d) = smN f n
  | 0, _ => rfl
  | d + 1, h => by
    show smN f (n + d) + f (n + d) = _
    rw [h (n + d) (by omega) (by omega), smN_cut d (fun i a b => h i a (by omega))]
    rfl
theorem c_sums {f : Nat → Nat} {N : Nat} {L : Nat → Int32 → Int32 → Int32 → MI → MJ → Prop} {I : MI} {J : MJ} {Q : Int32 → MI → MJ → Prop}
    (h0 : ∀ n, L (n + 1) (nI (smN f N)) (nI N) (nI N) I J) (hs : ∀ n i, i < N → L n (nI (smN f (i + 1))) (nI N) (nI (i + 1)) I J → L (n + 1) (nI (smN f i)) (nI N) (nI i) I J) : ∃ n, L n 0 (nI N) 0 I J := by
  have loop : ∀ d i, i + d = N → L (d + 1) (nI (smN f i)) (nI N) (nI i) I J := by
    intro d
    induction d with
    | zero =>
      intro i hi
      have e : i = N := by omega
      rw [e]; exact h0 0
    | succ d ih =>
      intro i hi
      exact hs (d + 1) i (by omega) (ih (i + 1) (by omega))
  exact ⟨N + 1, loop N 0 (by omega)⟩
theorem c_allSnow {S : ST} {I : MI} {J : MJ} (hc : Cp S I J) {Q : Int32 → MI → MJ → Prop} (q : Q (nI (smN S.D.sn 4)) I J) : vc_X7_allSnow 32 I J Q := by
  refine c_sums (f := S.D.sn) (N := 4) (L := vc_X7_allSnow_L13 32 Q) (Q := Q) (fun n => ?_) (fun n i hi h => ?_)
  · show vc_X7_allSnow_L13s 32 Q (vc_X7_allSnow_L13 32 Q n) _ _ _ I J
    unfold vc_X7_allSnow_L13s
    exact pk_le 4 4 (fun _ => q) (fun z => by omega)
  · show vc_X7_allSnow_L13s 32 Q (vc_X7_allSnow_L13 32 Q n) _ _ _ I J
    unfold vc_X7_allSnow_L13s
    refine pk_le 4 i (fun z => by omega) (fun _ => ⟨vp_in_nI (by omega) (by omega), ?_⟩)
    rw [nI_clamp (by omega), hc.sn hi]
    exact nm_e (nm_r (nI_add _ _) (nm_r (nI_1 i) h))
theorem c_allStock {S : ST} {I : MI} {J : MJ} (hc : Cp S I J) {Q : Int32 → MI → MJ → Prop} (q : Q (nI (smN S.D.st 7)) I J) : vc_X7_allStock 32 I J Q := by
  refine c_sums (f := S.D.st) (N := 7) (L := vc_X7_allStock_L13 32 Q) (Q := Q) (fun n => ?_) (fun n i hi h => ?_)
  · show vc_X7_allStock_L13s 32 Q (vc_X7_allStock_L13 32 Q n) _ _ _ I J
    unfold vc_X7_allStock_L13s
    exact pk_le 7 7 (fun _ => q) (fun z => by omega)
  · show vc_X7_allStock_L13s 32 Q (vc_X7_allStock_L13 32 Q n) _ _ _ I J
    unfold vc_X7_allStock_L13s
    refine pk_le 7 i (fun z => by omega) (fun _ => ⟨vp_in_nI (by omega) (by omega), ?_⟩)
    rw [nI_clamp (by omega), hc.st hi]
    exact nm_e (nm_r (nI_add _ _) (nm_r (nI_1 i) h))
theorem m_cnt {S : ST} {I : MI} {J : MJ} (hw : wf S) (hm : Mp S I J) {y : Int32} {Q : Int32 → MI → MJ → Prop} (q : ∀ k, vc_X11_count_L72s Q k y (nI (smN S.D.sn S.C.nc)) (nI (smN S.D.st S.C.np)) (nI (cntB S.C.wm 48)) (nI 48) I J) : vc_X11_count y I J Q := by
  have n4 := hw.n4
  have l72 : ∀ d i, i + d = 48 → vc_X11_count_L72 Q (d + 1) y (nI (smN S.D.sn S.C.nc)) (nI (smN S.D.st S.C.np)) (nI (cntB S.C.wm i)) (nI i) I J := by
    intro d
    induction d with
    | zero =>
      intro i hi
      have e : i = 48 := by omega
      subst e
      exact q _
    | succ d ih =>
      intro i hi
      show vc_X11_count_L72s Q (vc_X11_count_L72 Q (d + 1)) _ _ _ _ _ I J
      unfold vc_X11_count_L72s
      refine pk_le 48 i (fun z => by omega) (fun _ => m_warm hm.1 hw.1 (by omega) ?_)
      have h := ih (i + 1) (by omega)
      have e : cntB S.C.wm (i + 1) = cntB S.C.wm i + (if bj S.C.wm i then 1 else 0) := rfl
      rw [e] at h
      cases hb : bj S.C.wm i
      · rw [hb] at h
        exact b0' (nm_r (nI_add _ 0) (nm_r (nI_1 i) h))
      · rw [hb] at h
        exact b1' (nm_r (nI_add _ 1) (nm_r (nI_1 i) h))
  have l41 : ∀ d i, i + d = S.C.np → vc_X11_count_L41 Q (d + 1) y (nI (smN S.D.sn S.C.nc)) (nI (smN S.D.st i)) 0 (nI i) I J := by
    intro d
    induction d with
    | zero =>
      intro i hi
      have e : i = S.C.np := by omega
      subst e
      show vc_X11_count_L41s Q (vc_X11_count_L41 Q 0) _ _ _ _ _ I J
      unfold vc_X11_count_L41s
      rw [hm.np]
      exact pk_le S.C.np S.C.np (fun _ => ⟨49, l72 48 0 rfl⟩) (fun z => by omega)
    | succ d ih =>
      intro i hi
      show vc_X11_count_L41s Q (vc_X11_count_L41 Q (d + 1)) _ _ _ _ _ I J
      unfold vc_X11_count_L41s
      rw [hm.np, show (12 : Int32) + nI i = nI (12 + i) from nI_add 12 i, nI_clamp (by omega), hm.st (by omega)]
      exact pk_le S.C.np i (fun z => by omega) (fun _ => ⟨vp_in_nI (by omega) (by omega), nm_r (nI_add _ _) (nm_r (nI_1 i) (ih (i + 1) (by omega)))⟩)
  have l10 : ∀ d i, i + d = S.C.nc → vc_X11_count_L10 Q (d + 1) y (nI (smN S.D.sn i)) 0 0 (nI i) I J := by
    intro d
    induction d with
    | zero =>
      intro i hi
      have e : i = S.C.nc := by omega
      subst e
      show vc_X11_count_L10s Q (vc_X11_count_L10 Q 0) _ _ _ _ _ I J
      unfold vc_X11_count_L10s
      rw [hm.nc]
      exact pk_le S.C.nc S.C.nc (fun _ => ⟨S.C.np + 1, l41 S.C.np 0 (by omega)⟩) (fun z => by omega)
    | succ d ih =>
      intro i hi
      show vc_X11_count_L10s Q (vc_X11_count_L10 Q (d + 1)) _ _ _ _ _ I J
      unfold vc_X11_count_L10s
      rw [hm.nc, show (8 : Int32) + nI i = nI (8 + i) from nI_add 8 i, nI_clamp (by omega), hm.sn (by omega)]
      exact pk_le S.C.nc i (fun z => by omega) (fun _ => ⟨vp_in_nI (by omega) (by omega), nm_r (nI_add _ _) (nm_r (nI_1 i) (ih (i + 1) (by omega)))⟩)
  exact ⟨S.C.nc + 1, l10 S.C.nc 0 (by omega)⟩
theorem p_count (I : MI) (J : MJ) (hI : Inv I J) (y : Int32) : vc_X10_count y I J (fun r I1 J1 => vc_X11_count y I1 J1 (fun q I2 J2 => r = q ∧ Inv I2 J2)) := by
  obtain ⟨S, hw, hc, hm⟩ := hI
  have n4 := hw.n4
  have e4 : smN S.D.sn 4 = smN S.D.sn S.C.nc := by
    have h := smN_cut (f := S.D.sn) (n := S.C.nc) (4 - S.C.nc) (fun i a b => hw.2.1.2.2.2.1 i a (by omega))
    rwa [show S.C.nc + (4 - S.C.nc) = 4 by omega] at h
  have e7 : smN S.D.st 7 = smN S.D.st S.C.np := by
    have h := smN_cut (f := S.D.st) (n := S.C.np) (7 - S.C.np) (fun i a b => hw.2.1.2.2.2.2 i a (by omega))
    rwa [show S.C.np + (7 - S.C.np) = 7 by omega] at h
  have e64 : cntB S.C.wm 64 = cntB S.C.wm 48 := cntB_cut (n := 48) hw.1.2.2.2.2 16
  have v19 : vp_in 19 20 := vp_in_nI (n := 19) (N := 20) (by omega) (by omega)
  have c19 : Int32.toNatClampNeg 19 = 19 := by decide
  by_cases y0 : y = 0
  · subst y0
    refine bothQ (S := S) (r := nI S.C.np) hw hc hm (fun Q hQ => ?_) (fun I1 J1 Q hm1 hQ => m_cnt hw hm1 (fun k => ⟨fun _ => ?_, fun z => absurd (by decide) z⟩))
    · exact ⟨fun _ => (by rw [hc.np]; exact hQ), fun z => absurd rfl z⟩
    · exact ⟨fun _ => (by rw [hm1.np]; exact hQ), fun z => absurd rfl z⟩
  by_cases y1 : y = 1
  · subst y1
    refine bothQ (S := S) (r := nI S.C.nr) hw hc hm (fun Q hQ => ?_) (fun I1 J1 Q hm1 hQ => m_cnt hw hm1 (fun k => ⟨fun _ => ?_, fun z => absurd (by decide) z⟩))
    · exact ⟨fun z => absurd z y0, fun _ => ⟨fun _ => (by rw [hc.nr]; exact hQ), fun z => absurd rfl z⟩⟩
    · exact ⟨fun z => absurd z y0, fun _ => ⟨fun _ => (by rw [hm1.nr]; exact hQ), fun z => absurd rfl z⟩⟩
  by_cases y2 : y = 2
  · subst y2
    refine bothQ (S := S) (r := nI S.C.nc) hw hc hm (fun Q hQ => ?_) (fun I1 J1 Q hm1 hQ => m_cnt hw hm1 (fun k => ⟨fun _ => ?_, fun z => absurd (by decide) z⟩))
    · exact ⟨fun z => absurd z y0, fun _ => ⟨fun z => absurd z y1, fun _ => ⟨fun _ => (by rw [hc.nc]; exact hQ), fun z => absurd rfl z⟩⟩⟩
    · exact ⟨fun z => absurd z y0, fun _ => ⟨fun z => absurd z y1, fun _ => ⟨fun _ => (by rw [hm1.nc]; exact hQ), fun z => absurd rfl z⟩⟩⟩
  by_cases y3 : y = 3
  · subst y3
    refine bothQ (S := S) (r := nI (cntB S.C.wm 48)) hw hc hm (fun Q hQ => ?_) (fun I1 J1 Q hm1 hQ => m_cnt hw hm1 (fun k => ⟨fun _ => ?_, fun z => absurd (by decide) z⟩))
    · exact ⟨fun z => absurd z y0, fun _ => ⟨fun z => absurd z y1, fun _ => ⟨fun z => absurd z y2, fun _ => ⟨fun _ => (by rw [hc.1.2.2.2.1]; exact s_bits (by rw [e64]; exact hQ)), fun z => absurd rfl z⟩⟩⟩⟩
    · exact ⟨fun z => absurd z y0, fun _ => ⟨fun z => absurd z y1, fun _ => ⟨fun z => absurd z y2, fun _ => ⟨fun _ => (hQ), fun z => absurd rfl z⟩⟩⟩⟩
  by_cases y4 : y = 4
  · subst y4
    refine bothQ (S := S) (r := S.D.got) hw hc hm (fun Q hQ => ?_) (fun I1 J1 Q hm1 hQ => m_cnt hw hm1 (fun k => ⟨fun _ => ?_, fun z => absurd (by decide) z⟩))
    · exact ⟨fun z => absurd z y0, fun _ => ⟨fun z => absurd z y1, fun _ => ⟨fun z => absurd z y2, fun _ => ⟨fun z => absurd z y3, fun _ => ⟨fun _ => (by rw [hc.got]; exact hQ), fun z => absurd rfl z⟩⟩⟩⟩⟩
    · exact ⟨fun z => absurd z y0, fun _ => ⟨fun z => absurd z y1, fun _ => ⟨fun z => absurd z y2, fun _ => ⟨fun z => absurd z y3, fun _ => ⟨fun _ => (⟨v19, by rw [c19, hm1.got]; exact hQ⟩), fun z => absurd rfl z⟩⟩⟩⟩⟩
  by_cases y5 : y = 5
  · subst y5
    refine bothQ (S := S) (r := nI (smN S.D.sn S.C.nc)) hw hc hm (fun Q hQ => ?_) (fun I1 J1 Q hm1 hQ => m_cnt hw hm1 (fun k => ⟨fun _ => ?_, fun z => absurd (by decide) z⟩))
    · exact ⟨fun z => absurd z y0, fun _ => ⟨fun z => absurd z y1, fun _ => ⟨fun z => absurd z y2, fun _ => ⟨fun z => absurd z y3, fun _ => ⟨fun z => absurd z y4, fun _ => ⟨fun _ => (c_allSnow hc (by rw [e4]; exact hQ)), fun z => absurd rfl z⟩⟩⟩⟩⟩⟩
    · exact ⟨fun z => absurd z y0, fun _ => ⟨fun z => absurd z y1, fun _ => ⟨fun z => absurd z y2, fun _ => ⟨fun z => absurd z y3, fun _ => ⟨fun z => absurd z y4, fun _ => ⟨fun _ => (hQ), fun z => absurd rfl z⟩⟩⟩⟩⟩⟩
  by_cases y6 : y = 6
  · subst y6
    refine bothQ (S := S) (r := nI (smN S.D.st S.C.np)) hw hc hm (fun Q hQ => ?_) (fun I1 J1 Q hm1 hQ => m_cnt hw hm1 (fun k => ⟨fun _ => ?_, fun z => absurd (by decide) z⟩))
    · exact ⟨fun z => absurd z y0, fun _ => ⟨fun z => absurd z y1, fun _ => ⟨fun z => absurd z y2, fun _ => ⟨fun z => absurd z y3, fun _ => ⟨fun z => absurd z y4, fun _ => ⟨fun z => absurd z y5, fun _ => ⟨fun _ => (c_allStock hc (by rw [e7]; exact hQ)), fun z => absurd rfl z⟩⟩⟩⟩⟩⟩⟩
    · exact ⟨fun z => absurd z y0, fun _ => ⟨fun z => absurd z y1, fun _ => ⟨fun z => absurd z y2, fun _ => ⟨fun z => absurd z y3, fun _ => ⟨fun z => absurd z y4, fun _ => ⟨fun z => absurd z y5, fun _ => ⟨fun _ => (hQ), fun z => absurd rfl z⟩⟩⟩⟩⟩⟩⟩
  by_cases y7 : y = 7
  · subst y7
    refine bothQ (S := S) (r := nI S.tk.1) hw hc hm (fun Q hQ => ?_) (fun I1 J1 Q hm1 hQ => m_cnt hw hm1 (fun k => ⟨fun _ => ?_, fun z => absurd (by decide) z⟩))
    · exact ⟨fun z => absurd z y0, fun _ => ⟨fun z => absurd z y1, fun _ => ⟨fun z => absurd z y2, fun _ => ⟨fun z => absurd z y3, fun _ => ⟨fun z => absurd z y4, fun _ => ⟨fun z => absurd z y5, fun _ => ⟨fun z => absurd z y6, fun _ => ⟨fun _ => (by rw [hc.2.2.2.2.2.1.1]; exact hQ), fun z => absurd rfl z⟩⟩⟩⟩⟩⟩⟩⟩
    · exact ⟨fun z => absurd z y0, fun _ => ⟨fun z => absurd z y1, fun _ => ⟨fun z => absurd z y2, fun _ => ⟨fun z => absurd z y3, fun _ => ⟨fun z => absurd z y4, fun _ => ⟨fun z => absurd z y5, fun _ => ⟨fun z => absurd z y6, fun _ => ⟨fun _ => (by rw [hm1.2.2.2.2.2.1.1]; exact hQ), fun z => absurd rfl z⟩⟩⟩⟩⟩⟩⟩⟩
  by_cases y8 : y = 8
  · subst y8
    refine bothQ (S := S) (r := nI S.rw.1) hw hc hm (fun Q hQ => ?_) (fun I1 J1 Q hm1 hQ => m_cnt hw hm1 (fun k => ⟨fun _ => ?_, fun z => absurd (by decide) z⟩))
    · exact ⟨fun z => absurd z y0, fun _ => ⟨fun z => absurd z y1, fun _ => ⟨fun z => absurd z y2, fun _ => ⟨fun z => absurd z y3, fun _ => ⟨fun z => absurd z y4, fun _ => ⟨fun z => absurd z y5, fun _ => ⟨fun z => absurd z y6, fun _ => ⟨fun z => absurd z y7, fun _ => ⟨fun _ => (by rw [hc.2.2.2.2.2.2.1]; exact hQ), fun z => absurd rfl z⟩⟩⟩⟩⟩⟩⟩⟩⟩
    · exact ⟨fun z => absurd z y0, fun _ => ⟨fun z => absurd z y1, fun _ => ⟨fun z => absurd z y2, fun _ => ⟨fun z => absurd z y3, fun _ => ⟨fun z => absurd z y4, fun _ => ⟨fun z => absurd z y5, fun _ => ⟨fun z => absurd z y6, fun _ => ⟨fun z => absurd z y7, fun _ => ⟨fun _ => (by rw [hm1.2.2.2.2.2.2.1]; exact hQ), fun z => absurd rfl z⟩⟩⟩⟩⟩⟩⟩⟩⟩
  by_cases y9 : y = 9
  · subst y9
    refine bothQ (S := S) (r := nI S.U.length) hw hc hm (fun Q hQ => ?_) (fun I1 J1 Q hm1 hQ => m_cnt hw hm1 (fun k => ⟨fun _ => ?_, fun z => absurd (by decide) z⟩))
    · exact ⟨fun z => absurd z y0, fun _ => ⟨fun z => absurd z y1, fun _ => ⟨fun z => absurd z y2, fun _ => ⟨fun z => absurd z y3, fun _ => ⟨fun z => absurd z y4, fun _ => ⟨fun z => absurd z y5, fun _ => ⟨fun z => absurd z y6, fun _ => ⟨fun z => absurd z y7, fun _ => ⟨fun z => absurd z y8, fun _ => ⟨fun _ => (by rw [hc.2.2.1.1]; exact hQ), fun z => absurd rfl z⟩⟩⟩⟩⟩⟩⟩⟩⟩⟩
    · exact ⟨fun z => absurd z y0, fun _ => ⟨fun z => absurd z y1, fun _ => ⟨fun z => absurd z y2, fun _ => ⟨fun z => absurd z y3, fun _ => ⟨fun z => absurd z y4, fun _ => ⟨fun z => absurd z y5, fun _ => ⟨fun z => absurd z y6, fun _ => ⟨fun z => absurd z y7, fun _ => ⟨fun z => absurd z y8, fun _ => ⟨fun _ => (by rw [hm1.2.2.1.1]; exact hQ), fun z => absurd rfl z⟩⟩⟩⟩⟩⟩⟩⟩⟩⟩
  by_cases y10 : y = 10
  · subst y10
    refine bothQ (S := S) (r := nI S.T.1) hw hc hm (fun Q hQ => ?_) (fun I1 J1 Q hm1 hQ => m_cnt hw hm1 (fun k => ⟨fun _ => ?_, fun z => absurd (by decide) z⟩))
    · exact ⟨fun z => absurd z y0, fun _ => ⟨fun z => absurd z y1, fun _ => ⟨fun z => absurd z y2, fun _ => ⟨fun z => absurd z y3, fun _ => ⟨fun z => absurd z y4, fun _ => ⟨fun z => absurd z y5, fun _ => ⟨fun z => absurd z y6, fun _ => ⟨fun z => absurd z y7, fun _ => ⟨fun z => absurd z y8, fun _ => ⟨fun z => absurd z y9, fun _ => ⟨fun _ => (by rw [hc.2.2.2.2.1.1]; exact hQ), fun z => absurd rfl z⟩⟩⟩⟩⟩⟩⟩⟩⟩⟩⟩
    · exact ⟨fun z => absurd z y0, fun _ => ⟨fun z => absurd z y1, fun _ => ⟨fun z => absurd z y2, fun _ => ⟨fun z => absurd z y3, fun _ => ⟨fun z => absurd z y4, fun _ => ⟨fun z => absurd z y5, fun _ => ⟨fun z => absurd z y6, fun _ => ⟨fun z => absurd z y7, fun _ => ⟨fun z => absurd z y8, fun _ => ⟨fun z => absurd z y9, fun _ => ⟨fun _ => (by rw [hm1.2.2.2.2.1.1]; exact hQ), fun z => absurd rfl z⟩⟩⟩⟩⟩⟩⟩⟩⟩⟩⟩
  exact bothQ (S := S) (r := -3) hw hc hm (fun Q hQ => ⟨fun z => absurd z y0, fun _ => ⟨fun z => absurd z y1, fun _ => ⟨fun z => absurd z y2, fun _ => ⟨fun z => absurd z y3, fun _ => ⟨fun z => absurd z y4, fun _ => ⟨fun z => absurd z y5, fun _ => ⟨fun z => absurd z y6, fun _ => ⟨fun z => absurd z y7, fun _ => ⟨fun z => absurd z y8, fun _ => ⟨fun z => absurd z y9, fun _ => ⟨fun z => absurd z y10, fun _ => hQ⟩⟩⟩⟩⟩⟩⟩⟩⟩⟩⟩) (fun I1 J1 Q hm1 hQ => m_cnt hw hm1 (fun k => ⟨fun _ => ⟨fun z => absurd z y0, fun _ => ⟨fun z => absurd z y1, fun _ => ⟨fun z => absurd z y2, fun _ => ⟨fun z => absurd z y3, fun _ => ⟨fun z => absurd z y4, fun _ => ⟨fun z => absurd z y5, fun _ => ⟨fun z => absurd z y6, fun _ => ⟨fun z => absurd z y7, fun _ => ⟨fun z => absurd z y8, fun _ => ⟨fun z => absurd z y9, fun _ => ⟨fun z => absurd z y10, fun _ => hQ⟩⟩⟩⟩⟩⟩⟩⟩⟩⟩⟩, fun z => absurd (by decide) z⟩))
