/-! ===== comes, straw ===== -/
def stE (S : ST) (c : Nat) : P3 := fun p h w => p = S.D.pl c ∧ h = S.D.hr c ∧ w = S.D.sn c
theorem stE_dom {S : ST} (hw : wf S) {c : Nat} (hc : c < S.C.nc) : dom S.C (stE S c) := by
  rintro p h w ⟨rfl, rfl, rfl⟩
  exact hw.d hc
abbrev RS (S : ST) (c s : Nat) : P3 := RC S.C (S.C.ck c) s (stE S c)
theorem RS_dom {S : ST} (hw : wf S) {c s : Nat} (hc : c < S.C.nc) : dom S.C (RS S c s) := RC_dom hw.1 (stE_dom hw hc)
theorem Cp.kJ {S : ST} {I : MI} {J J' : MJ} (hc : Cp S I J) (e : J' 5 = J 5) : Cp S I J' := hc.cg (fun _ _ _ _ _ _ _ _ => rfl) rfl e
theorem Mp.kJ {S : ST} {I : MI} {J J' : MJ} (hm : Mp S I J) (e : J' 87 = J 87) : Mp S I J' := hm.cg (fun _ _ _ _ => rfl) (fun _ _ => rfl) (by rw [e])
section Com
variable {S : ST} {I : MI} {J : MJ} {a0 a1 a2 c s : Nat}
theorem c_sprF (hw : wf S) (hc : Cp S I J) (ha : a0 + 1 ≠ 5) (hcn : c < S.C.nc) (hs : s ≤ 3) {Q : MI → MJ → Prop} (q : ∀ J' : MJ, (∀ j, j ≠ a0 + 1 → J' j = J j) → (∀ p h w, EC (J' (a0 + 1)) p h w ↔ RS S c s p h w) → Q I J') : vc_X10_spreadFrom a0 (nI c) (nI s) I J Q := by
  have n4 := hw.n4
  have hd := hw.d hcn
  have hk := hw.k hcn
  have v := vp_in_nI (n := c) (N := 4) (by omega) (by omega)
  unfold vc_X10_spreadFrom
  refine c_clear (fun J1 k1 k2 => ⟨v, v, v, ?_⟩)
  rw [nI_clamp (by omega), hc.pl (by omega), hc.hr (by omega), hc.sn (by omega)]
  refine c_mark (by omega) (by omega) (by omega) (fun J2 m1 m2 => ⟨v, ?_⟩)
  rw [(hc.ct hcn).1]
  have hc' : rCc S.C I J2 := hc.1.cg (fun _ _ _ => rfl) ((m1 5 (Ne.symm ha)).trans (k1 5 (Ne.symm ha)))
  have hE : ∀ p h w, EC (J2 (a0 + 1)) p h w ↔ stE S c p h w := fun p h w => by
    rw [m2]; exact ⟨fun x => x.elim (fun y => absurd y (k2 p h w)) id, Or.inr⟩
  exact c_spread hw.1 hc' ha (by omega) hs (fun p h w e => stE_dom hw hcn p h w ((hE p h w).mp e)) (fun J3 f1 f2 => q J3 (fun j hj => ((f1 j hj).trans (m1 j hj)).trans (k1 j hj)) (fun p h w => (f2 p h w).trans (RC_cg hE p h w)))
theorem m_layF (hw : wf S) (hm : Mp S I J) (hne : a1 ≠ a2) (ha1 : a1 ≠ 87) (ha2 : a2 ≠ 87) (hcn : c < S.C.nc) (hs : s ≤ 3) {Q : MI → MJ → Prop} (q : ∀ J' : MJ, (∀ j, j ≠ a1 → j ≠ a2 → J' j = J j) → (∀ p h w, EM (J' a1) (J' a2) p h w ↔ RS S c s p h w) → Q I J') : vc_X11_layFrom a1 343 a2 343 (nI c) (nI s) I J Q := by
  have n4 := hw.n4
  have hd := hw.d hcn
  have hk := hw.k hcn
  unfold vc_X11_layFrom
  rw [show (4 : Int32) + nI c = nI (4 + c) from nI_add 4 c, show (8 : Int32) + nI c = nI (8 + c) from nI_add 8 c]
  refine m_clear hne (fun J1 k1 k2 => ⟨vp_in_nI (by omega) (by omega), vp_in_nI (by omega) (by omega), vp_in_nI (by omega) (by omega), ?_⟩)
  rw [nI_clamp (by omega), nI_clamp (by omega), nI_clamp (by omega), hm.hr (by omega), hm.pl (by omega), hm.sn (by omega), ix7]
  refine m_lay hne (by omega) (by omega) (by omega) (fun J2 m1 m2 => ?_)
  have hm2 : Mp S I J2 := hm.kJ ((m1 87 (Ne.symm ha1) (Ne.symm ha2)).trans (k1 87 (Ne.symm ha1) (Ne.symm ha2)))
  have hE : ∀ p h w, EM (J2 a1) (J2 a2) p h w ↔ stE S c p h w := fun p h w => by
    rw [m2]; exact ⟨fun x => x.elim (fun y => absurd y (k2 p h w)) id, Or.inr⟩
  exact m_kind hw hm2 hcn (m_spread hw.1 hm2.1 hne ha1 ha2 (by omega) hs (fun p h w e => stE_dom hw hcn p h w ((hE p h w).mp e)) (fun J3 f1 f2 => q J3 (fun j h1 h2 => ((f1 j h1 h2).trans (m1 j h1 h2)).trans (k1 j h1 h2)) (fun p h w => (f2 p h w).trans (RC_cg hE p h w))))
end Com
theorem p_comes (I : MI) (J : MJ) (hI : Inv I J) (x y z : Int32) : vc_X10_comes x y z I J (fun r I1 J1 => vc_X11_comes x y z I1 J1 (fun q I2 J2 => r = q ∧ Inv I2 J2)) := by
  obtain ⟨S, hw, hc, hm⟩ := hI
  by_cases hx : inN x S.C.nc
  rotate_left
  · exact bothQ (S := S) (r := -2) hw hc hm (fun Q hQ => c_cart_f hw hc hx (b0' hQ)) (fun I1 J1 Q hm1 hQ => m_cart_f hw hm1 hx (b0' hQ))
  by_cases hy : inN y S.C.np
  rotate_left
  · exact bothQ (S := S) (r := -2) hw hc hm (fun Q hQ => c_cart_t hw hc hx (b1' (c_place_f hw hc hy (b0 hQ)))) (fun I1 J1 Q hm1 hQ => m_cart_t hw hm1 hx (b1' (m_place_f hw hm1 hy (b0 hQ))))
  by_cases hz : inR z 0 2
  rotate_left
  · exact bothQ (S := S) (r := -3) hw hc hm (fun Q hQ => c_cart_t hw hc hx (b1' (c_place_t hw hc hy (b1 (s_wi_f 0 2 hz (b0 hQ)))))) (fun I1 J1 Q hm1 hQ => m_cart_t hw hm1 hx (b1' (m_place_t hw hm1 hy (b1 (s_in_f 0 2 hz (b0 hQ))))))
  obtain ⟨c, hcn, rfl⟩ := id hx
  obtain ⟨p, hpn, rfl⟩ := id hy
  obtain ⟨u, -, hu, rfl⟩ := id hz
  have n4 := hw.n4
  have hk := hw.k hcn
  have v4 := vp_in_nI (n := c) (N := 4) (by omega) (by omega)
  have hdm := RS_dom (s := S.C.cw c) hw hcn
  generalize hR : RS S c (S.C.cw c) = R at hdm
  have hR48 : ∀ p h w, R p h w → h ≤ 48 := fun p h w e => (hdm p h w e).2.1
  obtain ⟨g1, g2, g3⟩ := mxN_sp (dS R p 49) 100
  by_cases e0 : mxN (dS R p 49) 100 = 0
  · have c0 : cM (dS R p 49) 100 = 0 := cM_0 100 (fun w hw => g2 w (by omega) hw)
    refine bothI (S := S) (S' := S) (r := -1) hw hm (fun Q hQ => c_cart_t hw hc hx (b1' (c_place_t hw hc hy (b1 (s_wi_t 0 2 hz (b1 ⟨v4, ?_⟩)))))) (fun I1 J1 Q hm1 hQ => m_cart_t hw hm1 hx (b1' (m_place_t hw hm1 hy (b1 (s_in_t 0 2 hz (b1 (m_straw hw hm1 hcn ?_)))))))
    · rw [nI_clamp (by omega), (hc.ct hcn).2.2]
      refine c_sprF hw hc (by decide) hcn hk.2 (fun J' f1 f2 => ?_)
      rw [hR] at f2
      have hQ := hQ I J' (hc.kJ (f1 5 (by decide))) ⟨fun _ _ => rfl, fun j hj => f1 j (by omega)⟩
      refine ⟨fun _ => ⟨fun _ => c_soon_n f2 hR48 (by omega) e0 hQ, fun _ => c_most f2 hR48 (by omega) ?_⟩, fun _ => c_unlike f2 hR48 (by omega) ?_⟩
      · rw [e0]; exact hQ
      · rw [if_pos c0]; exact hQ
    · refine m_layF hw hm1 (by decide) (by decide) (by decide) hcn hk.2 (fun J' f1 f2 => ?_)
      rw [hR] at f2
      have hQ := hQ I1 J' (hm1.kJ (f1 87 (by decide) (by decide))) ⟨fun _ _ => rfl, fun j hj => f1 j (by omega) (by omega)⟩
      refine m_most (t := 48) f2 (by omega) (by omega) ?_
      rw [show mxN (dS R p (48 + 1)) 100 = 0 from e0]
      exact ⟨fun _ => hQ, fun z => absurd rfl z⟩
  · obtain ⟨w, ew⟩ : ∃ w, mxN (dS R p 49) 100 = w + 1 := ⟨mxN (dS R p 49) 100 - 1, by omega⟩
    have hw100 : w < 100 := by omega
    have hPw : dS R p 49 w = true := by
      rcases g3 with g3 | g3
      · exact absurd g3 e0
      · rw [ew] at g3; exact g3
    have c1 := cM_1 hw100 hPw
    refine bothI (S := S) (S' := S) (r := if u = 2 then nI (cM (dS R p 49) 100) else if u = 0 then nI w else lsM_ (sB R p w) 49 0) hw hm (fun Q hQ => c_cart_t hw hc hx (b1' (c_place_t hw hc hy (b1 (s_wi_t 0 2 hz (b1 ⟨v4, ?_⟩)))))) (fun I1 J1 Q hm1 hQ => m_cart_t hw hm1 hx (b1' (m_place_t hw hm1 hy (b1 (s_in_t 0 2 hz (b1 (m_straw hw hm1 hcn ?_)))))))
    · rw [nI_clamp (by omega), (hc.ct hcn).2.2]
      refine c_sprF hw hc (by decide) hcn hk.2 (fun J' f1 f2 => ?_)
      rw [hR] at f2
      have hQ := hQ I J' (hc.kJ (f1 5 (by decide))) ⟨fun _ _ => rfl, fun j hj => f1 j (by omega)⟩
      rw [show (2 : Int32) = nI 2 from rfl, show (0 : Int32) = nI 0 from rfl, nI_eq (by omega) (by omega), nI_eq (by omega) (by omega)]
      refine ⟨fun z2 => ⟨fun z0 => c_soon f2 hR48 (by omega) hw100 ew ?_, fun z0 => c_most f2 hR48 (by omega) ?_⟩, fun z2 => c_unlike f2 hR48 (by omega) ?_⟩
      · rw [if_neg z2, if_neg z0] at hQ; exact hQ
      · rw [if_neg z2, if_pos z0] at hQ
        rw [ew]; exact hQ
      · rw [if_pos z2] at hQ
        rw [if_neg (by omega)]; exact hQ
    · refine m_layF hw hm1 (by decide) (by decide) (by decide) hcn hk.2 (fun J' f1 f2 => ?_)
      rw [hR] at f2
      have hQ := hQ I1 J' (hm1.kJ (f1 87 (by decide) (by decide))) ⟨fun _ _ => rfl, fun j hj => f1 j (by omega) (by omega)⟩
      refine m_most (t := 48) f2 (by omega) (by omega) ?_
      rw [show mxN (dS R p (48 + 1)) 100 = w + 1 from ew, mo_s]
      refine ⟨fun z => absurd z (nI_ne_m1 (by omega)), fun _ => ⟨fun z0 => ⟨fun z1 => ?_, fun z1 => ?_⟩, fun z0 => ?_⟩⟩
      · rw [show (0 : Int32) = nI 0 from rfl, nI_eq (by omega) (by omega)] at z0
        rw [show (1 : Int32) = nI 1 from rfl, nI_eq (by omega) (by omega)] at z1
        rw [if_pos (by omega)] at hQ
        exact m_unlike f2 (by omega) hQ
      · rw [show (1 : Int32) = nI 1 from rfl, nI_eq (by omega) (by omega)] at z1
        rw [if_neg (by omega), if_neg (by omega)] at hQ
        exact m_soon f2 (by omega) hw100 (dB_o hPw) hQ
      · rw [show (0 : Int32) = nI 0 from rfl, nI_eq (by omega) (by omega)] at z0
        rw [if_neg (by omega), if_pos z0] at hQ
        exact hQ
/-- by so much straw enough comes -/
noncomputable def hvB (S : ST) (c p n t s : Nat) : Bool := dB (∃ w, n ≤ w ∧ w < 100 ∧ dS (RS S c s) p (t + 1) w = true)
theorem p_straw (I : MI) (J : MJ) (hI : Inv I J) (x y z u : Int32) : vc_X10_straw x y z u I J (fun r I1 J1 => vc_X11_straw x y z u I1 J1 (fun q I2 J2 => r = q ∧ Inv I2 J2)) := by
  obtain ⟨S, hw, hc, hm⟩ := hI
  by_cases hx : inN x S.C.nc
  rotate_left
  · exact bothQ (S := S) (r := -2) hw hc hm (fun Q hQ => c_cart_f hw hc hx (b0' hQ)) (fun I1 J1 Q hm1 hQ => m_cart_f hw hm1 hx (b0' hQ))
  by_cases hy : inN y S.C.np
  rotate_left
  · exact bothQ (S := S) (r := -2) hw hc hm (fun Q hQ => c_cart_t hw hc hx (b1' (c_place_f hw hc hy (b0 hQ)))) (fun I1 J1 Q hm1 hQ => m_cart_t hw hm1 hx (b1' (m_place_f hw hm1 hy (b0 hQ))))
  by_cases hz : inR z 0 99
  rotate_left
  · exact bothQ (S := S) (r := -3) hw hc hm (fun Q hQ => c_cart_t hw hc hx (b1' (c_place_t hw hc hy (b1 (s_wi_f 0 99 hz (b0' hQ)))))) (fun I1 J1 Q hm1 hQ => m_cart_t hw hm1 hx (b1' (m_place_t hw hm1 hy (b1 (s_in_f 0 99 hz (b0' hQ))))))
  by_cases hu : inR u 0 48
  rotate_left
  · exact bothQ (S := S) (r := -3) hw hc hm (fun Q hQ => c_cart_t hw hc hx (b1' (c_place_t hw hc hy (b1 (s_wi_t 0 99 hz (b1' (s_wi_f 0 48 hu (b0 hQ)))))))) (fun I1 J1 Q hm1 hQ => m_cart_t hw hm1 hx (b1' (m_place_t hw hm1 hy (b1 (s_in_t 0 99 hz (b1' (s_in_f 0 48 hu (b0 hQ))))))))
  obtain ⟨c, hcn, rfl⟩ := id hx
  obtain ⟨p, hpn, rfl⟩ := id hy
  obtain ⟨n, -, hn, rfl⟩ := id hz
  obtain ⟨t, -, ht, rfl⟩ := id hu
  have n4 := hw.n4
  have hdm : ∀ s, dom S.C (RS S c s) := fun s => RS_dom hw hcn
  refine bothI (S := S) (S' := S) (r := lsM_ (hvB S c p n t) 4 0) hw hm (fun Q hQ => c_cart_t hw hc hx (b1' (c_place_t hw hc hy (b1 (s_wi_t 0 99 hz (b1' (s_wi_t 0 48 hu (b1 ⟨5, ?_⟩)))))))) (fun I1 J1 Q hm1 hQ => m_cart_t hw hm1 hx (b1' (m_place_t hw hm1 hy (b1 (s_in_t 0 99 hz (b1' (s_in_t 0 48 hu (b1 ⟨5, ?_⟩))))))))
  · have loop : ∀ d i (J' : MJ), i + d = 4 → (∀ j, j ≠ 27 → J' j = J j) → (∀ J2 : MJ, (∀ j, j ≠ 27 → J2 j = J j) → Q (lsM_ (hvB S c p n t) d i) I J2) → vc_X10_straw_L52 Q (d + 1) (nI c) (nI p) (nI n) (nI t) (nI i) I J' := by
      intro d
      induction d with
      | zero =>
        intro i J' hi k1 q
        show vc_X10_straw_L52s Q (vc_X10_straw_L52 Q 0) _ _ _ _ _ I J'
        unfold vc_X10_straw_L52s
        exact pk_lt 3 i (fun _ => q J' k1) (fun z => by omega)
      | succ d ih =>
        intro i J' hi k1 q
        show vc_X10_straw_L52s Q (vc_X10_straw_L52 Q (d + 1)) _ _ _ _ _ I J'
        unfold vc_X10_straw_L52s
        refine pk_lt 3 i (fun z => by omega) (fun _ => c_sprF hw (hc.kJ (k1 5 (by decide))) (by decide) hcn (by omega) (fun J2 f1 f2 => ?_))
        have k2 : ∀ j, j ≠ 27 → J2 j = J j := fun j hj => (f1 j hj).trans (k1 j hj)
        refine c_mayHave f2 (by omega) hn ht (fun h1 => b1' ?_) (fun h0 => b0' (nm_r (nI_1 i) (ih (i + 1) J2 (by omega) k2 (fun J3 k3 => ?_))))
        · have q := q J2 k2
          rw [ls_t (dB_t h1)] at q; exact q
        · have q := q J3 k3
          rw [ls_f (dB_f (fun ⟨w, a, b, e⟩ => by rw [h0 w a b] at e; cases e))] at q; exact q
    exact loop 4 0 J rfl (fun _ _ => rfl) (fun J2 k2 => hQ I J2 (hc.kJ (k2 5 (by decide))) ⟨fun _ _ => rfl, fun j hj => k2 j (by omega)⟩)
  · have loop : ∀ d i (J' : MJ), i + d = 4 → (∀ j, j ≠ 99 → j ≠ 100 → J' j = J1 j) → (∀ J2 : MJ, (∀ j, j ≠ 99 → j ≠ 100 → J2 j = J1 j) → Q (lsM_ (hvB S c p n t) d i) I1 J2) → vc_X11_straw_L46 Q (d + 1) (nI c) (nI p) (nI n) (nI t) (nI i) I1 J' := by
      intro d
      induction d with
      | zero =>
        intro i J' hi k1 q
        show vc_X11_straw_L46s Q (vc_X11_straw_L46 Q 0) _ _ _ _ _ I1 J'
        unfold vc_X11_straw_L46s
        exact pk_le 4 i (fun _ => q J' k1) (fun z => by omega)
      | succ d ih =>
        intro i J' hi k1 q
        show vc_X11_straw_L46s Q (vc_X11_straw_L46 Q (d + 1)) _ _ _ _ _ I1 J'
        unfold vc_X11_straw_L46s
        refine pk_le 4 i (fun z => by omega) (fun _ => m_layF hw (hm1.kJ (k1 87 (by decide) (by decide))) (by decide) (by decide) (by decide) hcn (by omega) (fun J2 f1 f2 => ?_))
        have k2 : ∀ j, j ≠ 99 → j ≠ 100 → J2 j = J1 j := fun j h1 h2 => (f1 j h1 h2).trans (k1 j h1 h2)
        refine m_most f2 (by omega) ht ?_
        obtain ⟨g1, g2, g3⟩ := mxN_sp (dS (RS S c i) p (t + 1)) 100
        generalize hM : mxN (dS (RS S c i) p (t + 1)) 100 = M at g1 g2 g3
        have no : M ≤ n → vc_X11_straw_L46 Q (d + 1) (nI c) (nI p) (nI n) (nI t) (nI (i + 1)) I1 J2 := fun hMn => ih (i + 1) J2 (by omega) k2 (fun J3 k3 => by
          have q := q J3 k3
          rw [ls_f (dB_f (fun ⟨w, a, b, e⟩ => by rw [g2 w (by omega) b] at e; cases e))] at q; exact q)
        rcases Nat.eq_zero_or_pos M with h0 | h0
        · subst h0
          exact ⟨fun _ => nm_r (nI_1 i) (no (Nat.zero_le _)), fun z => absurd rfl z⟩
        · obtain ⟨w, rfl⟩ : ∃ w, M = w + 1 := ⟨M - 1, by omega⟩
          rw [mo_s]
          refine ⟨fun z => absurd z (nI_ne_m1 (by omega)), fun _ => pk_lt w n (fun z => nm_r (nI_1 i) (no (by omega))) (fun z => ?_)⟩
          have q := q J2 k2
          rw [ls_t (dB_t ⟨w, z, by omega, g3.elim (fun e => by omega) id⟩)] at q; exact q
    exact loop 4 0 J1 rfl (fun _ _ _ => rfl) (fun J2 k2 => hQ I1 J2 (hm1.kJ (k2 87 (by decide) (by decide))) ⟨fun _ _ => rfl, fun j hj => k2 j (by omega) (by omega)⟩)
