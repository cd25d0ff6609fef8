/-! ===== one number of a standing is written ===== -/
section SetS
variable {D : Sd} {I : MI} {c v : Nat}
theorem cS_pl (h : rSc D I 32) : rSc (setN D.pl c v, D.hr, D.sn, D.st, D.got) (wI I 33 c (nI v)) 32 :=
  ⟨fun i hi => ⟨wI_set (h.1 i hi).1, (h.1 i hi).2.1, (h.1 i hi).2.2⟩, h.2.1, h.2.2⟩
theorem cS_hr (h : rSc D I 32) : rSc (D.pl, setN D.hr c v, D.sn, D.st, D.got) (wI I 34 c (nI v)) 32 :=
  ⟨fun i hi => ⟨(h.1 i hi).1, wI_set (h.1 i hi).2.1, (h.1 i hi).2.2⟩, h.2.1, h.2.2⟩
theorem cS_sn (h : rSc D I 32) : rSc (D.pl, D.hr, setN D.sn c v, D.st, D.got) (wI I 35 c (nI v)) 32 :=
  ⟨fun i hi => ⟨(h.1 i hi).1, (h.1 i hi).2.1, wI_set (h.1 i hi).2.2⟩, h.2.1, h.2.2⟩
theorem cS_st (h : rSc D I 32) : rSc (D.pl, D.hr, D.sn, setN D.st c v, D.got) (wI I 36 c (nI v)) 32 :=
  ⟨h.1, fun p hp => wI_set (h.2.1 p hp), h.2.2⟩
theorem cS_got (h : rSc D I 32) {g : Int32} : rSc (D.pl, D.hr, D.sn, D.st, g) (wI I 32 4 g) 32 :=
  ⟨h.1, h.2.1, wI_same _ _ _ _⟩
theorem mS_w {f : Nat → Nat} {o i k : Nat} (h : I 93 (o + i) = nI (f i)) (e : k = o + c) : wI I 93 k (nI v) 93 (o + i) = nI (setN f c v i) := by
  subst e
  rw [wI_ap, if_pos rfl]
  unfold setN
  by_cases e : i = c
  · rw [if_pos e, if_pos (by omega)]
  · rw [if_neg e, if_neg (by omega)]; exact h
theorem mS_o {k m : Nat} {x : Int32} (h : m ≠ k) : wI I 93 k x 93 m = I 93 m := wI_col h
theorem mS_pl (h : rSm D (I 93) 0) (hc : c < 4) : rSm (setN D.pl c v, D.hr, D.sn, D.st, D.got) (wI I 93 c (nI v) 93) 0 :=
  ⟨fun i hi => ⟨mS_w (h.1 i hi).1 (by omega), by rw [mS_o (by omega)]; exact (h.1 i hi).2.1, by rw [mS_o (by omega)]; exact (h.1 i hi).2.2⟩, fun p hp => by rw [mS_o (by omega)]; exact h.2.1 p hp, by rw [mS_o (by omega)]; exact h.2.2⟩
theorem mS_hr (h : rSm D (I 93) 0) (hc : c < 4) : rSm (D.pl, setN D.hr c v, D.sn, D.st, D.got) (wI I 93 (4 + c) (nI v) 93) 0 :=
  ⟨fun i hi => ⟨by rw [mS_o (by omega)]; exact (h.1 i hi).1, mS_w (h.1 i hi).2.1 (by omega), by rw [mS_o (by omega)]; exact (h.1 i hi).2.2⟩, fun p hp => by rw [mS_o (by omega)]; exact h.2.1 p hp, by rw [mS_o (by omega)]; exact h.2.2⟩
theorem mS_sn (h : rSm D (I 93) 0) (hc : c < 4) : rSm (D.pl, D.hr, setN D.sn c v, D.st, D.got) (wI I 93 (8 + c) (nI v) 93) 0 :=
  ⟨fun i hi => ⟨by rw [mS_o (by omega)]; exact (h.1 i hi).1, by rw [mS_o (by omega)]; exact (h.1 i hi).2.1, mS_w (h.1 i hi).2.2 (by omega)⟩, fun p hp => by rw [mS_o (by omega)]; exact h.2.1 p hp, by rw [mS_o (by omega)]; exact h.2.2⟩
theorem mS_st (h : rSm D (I 93) 0) (hc : c < 7) : rSm (D.pl, D.hr, D.sn, setN D.st c v, D.got) (wI I 93 (12 + c) (nI v) 93) 0 :=
  ⟨fun i hi => ⟨by rw [mS_o (by omega)]; exact (h.1 i hi).1, by rw [mS_o (by omega)]; exact (h.1 i hi).2.1, by rw [mS_o (by omega)]; exact (h.1 i hi).2.2⟩, fun p hp => mS_w (h.2.1 p hp) (by omega), by rw [mS_o (by omega)]; exact h.2.2⟩
theorem mS_got (h : rSm D (I 93) 0) {g : Int32} : rSm (D.pl, D.hr, D.sn, D.st, g) (wI I 93 19 g 93) 0 :=
  ⟨fun i hi => ⟨by rw [mS_o (by omega)]; exact (h.1 i hi).1, by rw [mS_o (by omega)]; exact (h.1 i hi).2.1, by rw [mS_o (by omega)]; exact (h.1 i hi).2.2⟩, fun p hp => by rw [mS_o (by omega)]; exact h.2.1 p hp, wI_same _ _ _ _⟩
end SetS
theorem rSc.eq {D : Sd} {I I' : MI} (h : rSc D I 32) (e : ∀ j, j ≠ 14 → (j < 37 ∨ 76 < j) → I' j = I j) : rSc D I' 32 := h.cg (fun j a b => e j (by omega) (by omega))
theorem rSm.eq {D : Sd} {I I' : MI} (h : rSm D (I 93) 0) (e : ∀ j, j ≠ 96 → j ≠ 87 → I' j = I j) : rSm D (I' 93) 0 := by rw [e 93 (by decide) (by decide)]; exact h
theorem add_l (a c : Nat) : (OfNat.ofNat a : Int32) + nI c = nI (a + c) := nI_add a c
/-- where a cart is -/
theorem c_isIn_t {S : ST} {I : MI} {J : MJ} (hw : wf S) (hc : Cp S I J) {c k : Nat} (h : c < S.C.nc) (hk : k ≤ 3) (e : S.C.pk (S.D.pl c) = k) {x : Int32} (hx : x = nI k) {Q : Int32 → MI → MJ → Prop} (q : Q 1 I J) : vc_X10_isIn (nI c) x I J Q := by
  have n4 := hw.n4
  have hd := hw.d h
  unfold vc_X10_isIn
  subst hx
  rw [nI_clamp (by omega), hc.pl (by omega), nI_clamp (by omega), hc.pk hd.1, e]
  exact ⟨vp_in_nI (by omega) (by omega), vp_in_nI (by omega) (by omega), fun z => absurd rfl z, fun _ => q⟩
theorem c_isIn_f {S : ST} {I : MI} {J : MJ} (hw : wf S) (hc : Cp S I J) {c k : Nat} (h : c < S.C.nc) (hk : k ≤ 3) (e : S.C.pk (S.D.pl c) ≠ k) {x : Int32} (hx : x = nI k) {Q : Int32 → MI → MJ → Prop} (q : Q 0 I J) : vc_X10_isIn (nI c) x I J Q := by
  have n4 := hw.n4
  have hd := hw.d h
  have hp := hw.pk hd.1
  unfold vc_X10_isIn
  subst hx
  rw [nI_clamp (by omega), hc.pl (by omega), nI_clamp (by omega), hc.pk hd.1, nI_eq (by omega) (by omega)]
  exact ⟨vp_in_nI (by omega) (by omega), vp_in_nI (by omega) (by omega), fun _ => q, fun z => absurd z e⟩
theorem wfS_sn {C : Cty} {D : Sd} (h : wfS C D) {c v : Nat} (hc : c < C.nc) (hv : v ≤ 99) : wfS C (D.pl, D.hr, setN D.sn c v, D.st, D.got) := by
  obtain ⟨h1, h2, h3, h4, h5⟩ := h
  refine ⟨h1, fun i hi => ⟨(h2 i hi).1, ?_⟩, h3, fun i hi hi4 => ?_, h5⟩
  · show setN D.sn c v i ≤ 99
    unfold setN; split
    · exact hv
    · exact (h2 i hi).2
  · show setN D.sn c v i = 0
    rw [setN_ne (by omega)]; exact h4 i hi hi4
theorem wfS_hr {C : Cty} {D : Sd} (h : wfS C D) {c v : Nat} (hv : v ≤ 48) : wfS C (D.pl, setN D.hr c v, D.sn, D.st, D.got) := by
  obtain ⟨h1, h2, h3, h4, h5⟩ := h
  refine ⟨h1, fun i hi => ⟨?_, (h2 i hi).2⟩, h3, h4, h5⟩
  show setN D.hr c v i ≤ 48
  unfold setN; split
  · exact hv
  · exact (h2 i hi).1
theorem wfS_pl {C : Cty} {D : Sd} (h : wfS C D) {c v : Nat} (hv : v < C.np) : wfS C (setN D.pl c v, D.hr, D.sn, D.st, D.got) := by
  obtain ⟨h1, h2, h3, h4, h5⟩ := h
  refine ⟨fun i hi => ?_, h2, h3, h4, h5⟩
  show setN D.pl c v i < C.np
  unfold setN; split
  · exact hv
  · exact h1 i hi
theorem wfS_st {C : Cty} {D : Sd} (h : wfS C D) {c v : Nat} (hc : c < C.np) (hv : v ≤ 999) : wfS C (D.pl, D.hr, D.sn, setN D.st c v, D.got) := by
  obtain ⟨h1, h2, h3, h4, h5⟩ := h
  refine ⟨h1, h2, fun i hi => ?_, h4, fun i hi hi7 => ?_⟩
  · show setN D.st c v i ≤ 999
    unfold setN; split
    · exact hv
    · exact h3 i hi
  · show setN D.st c v i = 0
    rw [setN_ne (by omega)]; exact h5 i hi hi7
theorem wfS_got {C : Cty} {D : Sd} (h : wfS C D) (g : Int32) : wfS C (D.pl, D.hr, D.sn, D.st, g) := h
theorem p_fill (I : MI) (J : MJ) (hI : Inv I J) (x y : Int32) : vc_X10_fill x y I J (fun r I1 J1 => vc_X11_fill x y I1 J1 (fun q I2 J2 => r = q ∧ Inv I2 J2)) := by
  obtain ⟨S, hw, hc, hm⟩ := hI
  have n4 := hw.n4
  by_cases hx : inN x S.C.nc
  rotate_left
  · exact bothI (S := S) (S' := S) (r := -2) hw hm (fun Q hQ => c_cart_f hw hc hx (b0 (hQ _ _ hc Hi.rf))) (fun I1 J1 Q hm1 hQ => m_cart_f hw hm1 hx (b0 (hQ _ _ hm1 Lo.rf)))
  by_cases hy : inR y 1 99
  rotate_left
  · exact bothI (S := S) (S' := S) (r := -3) hw hm (fun Q hQ => c_cart_t hw hc hx (b1 (s_wi_f 1 99 hy (b0 (hQ _ _ hc Hi.rf))))) (fun I1 J1 Q hm1 hQ => m_cart_t hw hm1 hx (b1 (s_in_f 1 99 hy (b0 (hQ _ _ hm1 Lo.rf)))))
  obtain ⟨c, hcn, rfl⟩ := id hx
  obtain ⟨n, hn1, hn2, rfl⟩ := id hy
  have hd := hw.d hcn
  have hpk := hw.pk hd.1
  by_cases hk : S.C.pk (S.D.pl c) = 1
  rotate_left
  · refine bothI (S := S) (S' := S) (r := -4) hw hm (fun Q hQ => c_cart_t hw hc hx (b1 (s_wi_t 1 99 hy (b1 (c_isIn_f hw hc hcn (by omega) hk rfl (b0 (hQ _ _ hc Hi.rf))))))) (fun I1 J1 Q hm1 hQ => m_cart_t hw hm1 hx (b1 (s_in_t 1 99 hy (b1 ?_))))
    rw [nI_clamp (by omega), hm1.pl (by omega), nI_clamp (by omega), hm1.pk hd.1, show (1 : Int32) = nI 1 from rfl, nI_eq (by omega) (by omega)]
    exact ⟨vp_in_nI (by omega) (by omega), vp_in_nI (by omega) (by omega), fun z => absurd z hk, fun _ => hQ _ _ hm1 Lo.rf⟩
  by_cases hf : S.D.sn c + n ≤ 99
  · refine bothI (S := S) (S' := S.deed (S.D.pl, S.D.hr, setN S.D.sn c (S.D.sn c + n), S.D.st, S.D.got)) (r := nI (S.D.sn c + n)) (deed_wf hw (wfS_sn hw.2.1 hcn hf)) hm (fun Q hQ => c_cart_t hw hc hx (b1 (s_wi_t 1 99 hy (b1 (c_isIn_t hw hc hcn (by omega) hk rfl (b1 ?_)))))) (fun I1 J1 Q hm1 hQ => m_cart_t hw hm1 hx (b1 (s_in_t 1 99 hy (b1 ?_))))
    · rw [nI_clamp (by omega), hc.sn (by omega), nI_add]
      refine ⟨vp_in_nI (by omega) (by omega), pk_le (S.D.sn c + n) 99 (fun _ => s_remember hw.2.2.1.1 hc.2.1 hc.2.2.1 (fun I1 hU e1 => ⟨vp_in_nI (by omega) (by omega), vp_in_nI (by omega) (by omega), nm_e ⟨vp_in_nI (by omega) (by omega), ?_⟩⟩)) (fun z => by omega)⟩
      rw [e1 35 (by omega) (by omega), hc.sn (by omega), nI_add, wI_same]
      exact hQ _ _ (hc.deed hU e1 (fun j hj => wI_row (by omega)) (cS_sn (hc.2.1.eq e1))) ⟨fun j hj => by rw [wI_row (by omega), e1 j (by omega) (by omega)], fun _ _ => rfl⟩
    · rw [nI_clamp (by omega), hm1.pl (by omega), nI_clamp (by omega), hm1.pk hd.1, show (1 : Int32) = nI 1 from rfl, nI_eq (by omega) (by omega)]
      refine ⟨vp_in_nI (by omega) (by omega), vp_in_nI (by omega) (by omega), fun _ => ?_, fun z => absurd hk z⟩
      rw [show (8 : Int32) + nI c = nI (8 + c) from nI_add 8 c, nI_clamp (by omega), hm1.sn (by omega), nI_add]
      refine ⟨vp_in_nI (by omega) (by omega), pk_le (S.D.sn c + n) 99 (fun _ => m_note hw.2.2.1.1 hm1.2.1 hm1.2.2.1 (fun I2 hU e1 e3 => ⟨vp_in_nI (by omega) (by omega), vp_in_nI (by omega) (by omega), nm_e ⟨vp_in_nI (by omega) (by omega), ?_⟩⟩)) (fun z => by omega)⟩
      rw [e1 93 (by decide) (by decide), hm1.sn (by omega), nI_add, wI_same]
      exact hQ _ _ (hm1.deed hU e1 e3 (fun j hj => wI_row hj) (mS_sn (hm1.2.1.eq e1) (by omega))) ⟨fun j hj => by rw [wI_row (by omega), e1 j (by omega) (by omega)], fun _ _ => rfl⟩
  · refine bothI (S := S) (S' := S) (r := -5) hw hm (fun Q hQ => c_cart_t hw hc hx (b1 (s_wi_t 1 99 hy (b1 (c_isIn_t hw hc hcn (by omega) hk rfl (b1 ?_)))))) (fun I1 J1 Q hm1 hQ => m_cart_t hw hm1 hx (b1 (s_in_t 1 99 hy (b1 ?_))))
    · rw [nI_clamp (by omega), hc.sn (by omega), nI_add]
      exact ⟨vp_in_nI (by omega) (by omega), pk_le (S.D.sn c + n) 99 (fun z => absurd z hf) (fun _ => hQ _ _ hc Hi.rf)⟩
    · rw [nI_clamp (by omega), hm1.pl (by omega), nI_clamp (by omega), hm1.pk hd.1, show (1 : Int32) = nI 1 from rfl, nI_eq (by omega) (by omega)]
      refine ⟨vp_in_nI (by omega) (by omega), vp_in_nI (by omega) (by omega), fun _ => ?_, fun z => absurd hk z⟩
      rw [show (8 : Int32) + nI c = nI (8 + c) from nI_add 8 c, nI_clamp (by omega), hm1.sn (by omega), nI_add]
      exact ⟨vp_in_nI (by omega) (by omega), pk_le (S.D.sn c + n) 99 (fun z => absurd z hf) (fun _ => hQ _ _ hm1 Lo.rf)⟩
