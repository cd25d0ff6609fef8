/-! ===== resting, going ===== -/
def rsN (C : Cty) (p k s : Nat) : Nat → Nat → Nat → Nat
  | 0, _, w => w
  | n + 1, h, w => rsN C p k s n (h + 1) (rst C p w k s h)
theorem rsN_le (C : Cty) (p k s : Nat) : ∀ n h w, rsN C p k s n h w ≤ w
  | 0, _, w => Nat.le_refl w
  | n + 1, h, w => Nat.le_trans (rsN_le C p k s n (h + 1) _) (rst_le _ _ _ _ _ _)
/-- the snow of a cart that rests n hours -/
def rsC (S : ST) (c n : Nat) : Nat := rsN S.C (S.D.pl c) (S.C.ck c) (S.C.cw c) n (S.D.hr c) (S.D.sn c)
theorem c_resting {S : ST} {I : MI} {J : MJ} (hw : wf S) (hc : Cp S I J) {c n : Nat} (hcn : c < S.C.nc) (hn : S.D.hr c + n ≤ 60) {Q : Int32 → MI → MJ → Prop} (q : Q (nI (rsC S c n)) I J) : vc_X10_afterResting (nI c) (nI n) I J Q := by
  have n4 := hw.n4
  have hd := hw.d hcn
  have hk := hw.k hcn
  have loop : ∀ d i x, i + d = n → x ≤ 99 → rsN S.C (S.D.pl c) (S.C.ck c) (S.C.cw c) d (S.D.hr c + i) x = rsC S c n → vc_X10_afterResting_L19 Q (d + 1) (nI c) (nI n) (nI x) (nI i) I J := by
    intro d
    induction d with
    | zero =>
      intro i x h1 hx e
      show vc_X10_afterResting_L19s Q (vc_X10_afterResting_L19 Q 0) _ _ _ _ I J
      unfold vc_X10_afterResting_L19s
      refine pk_le n i (fun _ => ?_) (fun z => by omega)
      rw [← e] at q; exact q
    | succ d ih =>
      intro i x h1 hx e
      show vc_X10_afterResting_L19s Q (vc_X10_afterResting_L19 Q (d + 1)) _ _ _ _ I J
      unfold vc_X10_afterResting_L19s
      refine pk_le n i (fun z => by omega) (fun z => ?_)
      rw [nI_clamp (by omega), hc.pl (by omega), hc.hr (by omega), (hc.ct hcn).1, (hc.ct hcn).2.2, nI_add]
      have v := vp_in_nI (n := c) (N := 4) (by omega) (by omega)
      refine ⟨v, v, v, v, s_ahi hc.1 hw.1 hd.1 hx (by omega) (by omega) (by omega) (nm_r (nI_1 i) ?_)⟩
      exact ih (i + 1) _ (by omega) (Nat.le_trans (rst_le _ _ _ _ _ _) hx) e
  unfold vc_X10_afterResting
  refine ⟨vp_in_nI (by omega) (by omega), ?_⟩
  rw [nI_clamp (by omega), hc.sn (by omega)]
  exact nm_e ⟨n + 1, loop n 0 (S.D.sn c) (by omega) hd.2.2 rfl⟩
theorem m_kind {S : ST} {I : MI} {J : MJ} (hw : wf S) (hm : Mp S I J) {c : Nat} (hcn : c < S.C.nc) {Q : Int32 → MI → MJ → Prop} (q : Q (nI (S.C.ck c)) I J) : vc_X11_kindOf (nI c) I J Q := by
  have n4 := hw.n4
  unfold vc_X11_kindOf
  rw [show (3 : Int32) = nI 3 from rfl, pk_mul, nI_clamp (by omega), (hm.ct hcn).1]
  exact ⟨vp_in_nI (by omega) (by omega), q⟩
theorem m_straw {S : ST} {I : MI} {J : MJ} (hw : wf S) (hm : Mp S I J) {c : Nat} (hcn : c < S.C.nc) {Q : Int32 → MI → MJ → Prop} (q : Q (nI (S.C.cw c)) I J) : vc_X11_strawOf (nI c) I J Q := by
  have n4 := hw.n4
  unfold vc_X11_strawOf
  rw [show (2 : Int32) = nI 2 from rfl, ix3, nI_clamp (by omega), (hm.ct hcn).2.2]
  exact ⟨vp_in_nI (by omega) (by omega), q⟩
theorem m_till {S : ST} {I : MI} {J : MJ} (hw : wf S) (hm : Mp S I J) {c n : Nat} (hcn : c < S.C.nc) (hn : S.D.hr c + n ≤ 60) {Q : Int32 → MI → MJ → Prop} (q : Q (nI (rsC S c n)) I J) : vc_X11_snowTill (nI c) (nI (S.D.hr c + n)) I J Q := by
  have n4 := hw.n4
  have hd := hw.d hcn
  have hk := hw.k hcn
  have loop : ∀ d i x, i + d = n → x ≤ 99 → rsN S.C (S.D.pl c) (S.C.ck c) (S.C.cw c) d (S.D.hr c + i) x = rsC S c n → vc_X11_snowTill_L20 Q (d + 1) (nI c) (nI (S.D.hr c + n)) (nI x) (nI (S.D.hr c + i)) I J := by
    intro d
    induction d with
    | zero =>
      intro i x h1 hx e
      show vc_X11_snowTill_L20s Q (vc_X11_snowTill_L20 Q 0) _ _ _ _ I J
      unfold vc_X11_snowTill_L20s
      refine pk_le (S.D.hr c + n) (S.D.hr c + i) (fun _ => ?_) (fun z => by omega)
      rw [← e] at q; exact q
    | succ d ih =>
      intro i x h1 hx e
      show vc_X11_snowTill_L20s Q (vc_X11_snowTill_L20 Q (d + 1)) _ _ _ _ I J
      unfold vc_X11_snowTill_L20s
      refine pk_le (S.D.hr c + n) (S.D.hr c + i) (fun z => by omega) (fun z => m_kind hw hm hcn (m_straw hw hm hcn ⟨vp_in_nI (by omega) (by omega), ?_⟩))
      rw [nI_clamp (by omega), hm.pl (by omega)]
      refine m_rested hm.1 hw.1 hd.1 hx (by omega) (by omega) (by omega) (nm_r (nI_1 _) ?_)
      exact ih (i + 1) _ (by omega) (Nat.le_trans (rst_le _ _ _ _ _ _) hx) e
  unfold vc_X11_snowTill
  rw [show (8 : Int32) + nI c = nI (8 + c) from nI_add 8 c, show (4 : Int32) + nI c = nI (4 + c) from nI_add 4 c, nI_clamp (by omega), nI_clamp (by omega), hm.sn (by omega), hm.hr (by omega)]
  exact ⟨vp_in_nI (by omega) (by omega), nm_e ⟨vp_in_nI (by omega) (by omega), nm_e ⟨n + 1, loop n 0 (S.D.sn c) (by omega) hd.2.2 rfl⟩⟩⟩
theorem Mp.noted {S : ST} {I I1 : MI} {J : MJ} (hm : Mp S I J) (hU : mU (pushU S.U S.D) I1) (e1 : ∀ j, j ≠ 96 → j ≠ 87 → I1 j = I j) (e3 : ∀ m, m ≠ 24 → I1 87 m = I 87 m) : Mp (S.deed S.D) I1 J := hm.deed hU e1 e3 (fun _ _ => rfl) (hm.2.1.eq e1)
theorem p_rest (I : MI) (J : MJ) (hI : Inv I J) (x y : Int32) : vc_X10_rest x y I J (fun r I1 J1 => vc_X11_rest x y I1 J1 (fun q I2 J2 => r = q ∧ Inv I2 J2)) := by
  obtain ⟨S, hw, hc, hm⟩ := hI
  have n4 := hw.n4
  by_cases hx : inN x S.C.nc
  rotate_left
  · exact bothI (S := S) (S' := S) (r := -2) hw hm (fun Q hQ => c_cart_f hw hc hx (b0 (hQ _ _ hc Hi.rf))) (fun I1 J1 Q hm1 hQ => m_cart_f hw hm1 hx (b0 (hQ _ _ hm1 Lo.rf)))
  by_cases hy : inR y 1 48
  rotate_left
  · exact bothI (S := S) (S' := S) (r := -3) hw hm (fun Q hQ => c_cart_t hw hc hx (b1 (s_wi_f 1 48 hy (b0 (hQ _ _ hc Hi.rf))))) (fun I1 J1 Q hm1 hQ => m_cart_t hw hm1 hx (b1 (s_in_f 1 48 hy (b0 (hQ _ _ hm1 Lo.rf)))))
  obtain ⟨c, hcn, rfl⟩ := id hx
  obtain ⟨n, hn1, hn2, rfl⟩ := id hy
  have hd := hw.d hcn
  by_cases hf : S.D.hr c + n ≤ 48
  · have hle : rsC S c n ≤ 99 := Nat.le_trans (rsN_le _ _ _ _ _ _ _) hd.2.2
    refine bothI (S := S) (S' := S.deed (S.D.pl, setN S.D.hr c (S.D.hr c + n), setN S.D.sn c (rsC S c n), S.D.st, S.D.got)) (r := nI (rsC S c n)) (deed_wf hw (wfS_hr (wfS_sn hw.2.1 hcn hle) hf)) hm (fun Q hQ => c_cart_t hw hc hx (b1 (s_wi_t 1 48 hy (b1 ?_)))) (fun I1 J1 Q hm1 hQ => m_cart_t hw hm1 hx (b1 (s_in_t 1 48 hy (b1 ?_))))
    · rw [nI_clamp (by omega), hc.hr (by omega), nI_add]
      refine ⟨vp_in_nI (by omega) (by omega), pk_le (S.D.hr c + n) 48 (fun _ => c_resting hw hc hcn (by omega) (s_remember hw.2.2.1.1 hc.2.1 hc.2.2.1 (fun I1 hU e1 => ⟨vp_in_nI (by omega) (by omega), nm_e ⟨vp_in_nI (by omega) (by omega), vp_in_nI (by omega) (by omega), nm_e ?_⟩⟩))) (fun z => by omega)⟩
      rw [show wI I1 35 c (nI (rsC S c n)) 34 c = I1 34 c from rfl, e1 34 (by omega) (by omega), hc.hr (by omega), nI_add]
      exact hQ _ _ (hc.deed hU e1 (fun j hj => by rw [wI_row (by omega), wI_row (by omega)]) (cS_hr (cS_sn (hc.2.1.eq e1)))) ⟨fun j hj => by rw [wI_row (by omega), wI_row (by omega), e1 j (by omega) (by omega)], fun _ _ => rfl⟩
    · rw [show (8 : Int32) + nI c = nI (8 + c) from nI_add 8 c, show (4 : Int32) + nI c = nI (4 + c) from nI_add 4 c, nI_clamp (by omega), nI_clamp (by omega), hm1.hr (by omega), nI_add]
      refine ⟨vp_in_nI (by omega) (by omega), nm_e (pk_le (S.D.hr c + n) 48 (fun _ => m_note hw.2.2.1.1 hm1.2.1 hm1.2.2.1 (fun I2 hU e1 e3 => ?_)) (fun z => by omega))⟩
      refine m_till (S := S.deed S.D) (deed_wf hw hw.2.1) (hm1.noted hU e1 e3) hcn (by show S.D.hr c + n ≤ 60; omega) ⟨vp_in_nI (by omega) (by omega), nm_e ⟨vp_in_nI (by omega) (by omega), nm_e ⟨vp_in_nI (by omega) (by omega), ?_⟩⟩⟩
      rw [mS_o (by omega), wI_same]
      exact hQ _ _ (hm1.deed hU e1 e3 (fun j hj => by rw [wI_row hj, wI_row hj]) (mS_hr (mS_sn (hm1.2.1.eq e1) (by omega)) (by omega))) ⟨fun j hj => by rw [wI_row (by omega), wI_row (by omega), e1 j (by omega) (by omega)], fun _ _ => rfl⟩
  · refine bothI (S := S) (S' := S) (r := -5) hw hm (fun Q hQ => c_cart_t hw hc hx (b1 (s_wi_t 1 48 hy (b1 ?_)))) (fun I1 J1 Q hm1 hQ => m_cart_t hw hm1 hx (b1 (s_in_t 1 48 hy (b1 ?_))))
    · rw [nI_clamp (by omega), hc.hr (by omega), nI_add]
      exact ⟨vp_in_nI (by omega) (by omega), pk_le (S.D.hr c + n) 48 (fun z => absurd z hf) (fun _ => hQ _ _ hc Hi.rf)⟩
    · rw [show (4 : Int32) + nI c = nI (4 + c) from nI_add 4 c, nI_clamp (by omega), hm1.hr (by omega), nI_add]
      exact ⟨vp_in_nI (by omega) (by omega), nm_e (pk_le (S.D.hr c + n) 48 (fun z => absurd z hf) (fun _ => hQ _ _ hm1 Lo.rf))⟩
/-! roads at a place -/
def tch (C : Cty) (r p : Nat) : Prop := C.ra r = p ∨ C.rb r = p
def far (C : Cty) (r p : Nat) : Nat := if C.ra r = p then C.rb r else C.ra r
theorem far_lt {S : ST} (hw : wf S) {r : Nat} (hr : r < S.C.nr) (p : Nat) : far S.C r p < S.C.np := by
  unfold far
  have := hw.r hr
  split <;> omega
section Rds
variable {C : Cty} {I : MI} {J : MJ} {r p : Nat} {Q : Int32 → MI → MJ → Prop}
theorem c_tch_t (hC : wfC C) (hc : rCc C I J) (hr : r < C.nr) (hp : p ≤ 7) (h : tch C r p) (q : Q 1 I J) : vc_X1_touches (nI r) (nI p) I J Q := by
  obtain ⟨⟨n7, n9, -⟩, -, hro, -, -⟩ := hC
  obtain ⟨-, -, -, -, -, er, -⟩ := hc
  have h1 := hro r hr
  unfold vc_X1_touches
  rw [nI_clamp (by omega), (er r hr).1, (er r hr).2.1, nI_eq (by omega) (by omega), nI_eq (by omega) (by omega)]
  have v := vp_in_nI (n := r) (N := 9) (by omega) (by omega)
  exact ⟨v, fun _ => q, fun z => ⟨v, fun z2 => absurd h (fun z3 => z3.elim z z2), fun _ => q⟩⟩
theorem c_tch_f (hC : wfC C) (hc : rCc C I J) (hr : r < C.nr) (hp : p ≤ 7) (h : ¬ tch C r p) (q : Q 0 I J) : vc_X1_touches (nI r) (nI p) I J Q := by
  obtain ⟨⟨n7, n9, -⟩, -, hro, -, -⟩ := hC
  obtain ⟨-, -, -, -, -, er, -⟩ := hc
  have h1 := hro r hr
  unfold vc_X1_touches
  rw [nI_clamp (by omega), (er r hr).1, (er r hr).2.1, nI_eq (by omega) (by omega), nI_eq (by omega) (by omega)]
  have v := vp_in_nI (n := r) (N := 9) (by omega) (by omega)
  exact ⟨v, fun z => absurd (Or.inl z) h, fun z => ⟨v, fun z2 => q, fun z2 => absurd (Or.inr z2) h⟩⟩
theorem c_far (hC : wfC C) (hc : rCc C I J) (hr : r < C.nr) (hp : p ≤ 7) (q : Q (nI (far C r p)) I J) : vc_X1_farEnd (nI r) (nI p) I J Q := by
  obtain ⟨⟨n7, n9, -⟩, -, hro, -, -⟩ := hC
  obtain ⟨-, -, -, -, -, er, -⟩ := hc
  have h1 := hro r hr
  unfold vc_X1_farEnd
  rw [nI_clamp (by omega), (er r hr).1, (er r hr).2.1, nI_eq (by omega) (by omega)]
  have v := vp_in_nI (n := r) (N := 9) (by omega) (by omega)
  unfold far at q
  exact ⟨v, fun z => ⟨v, by rw [if_neg z] at q; exact q⟩, fun z => ⟨v, by rw [if_pos z] at q; exact q⟩⟩
theorem m_end_t (hC : wfC C) (hm : rCm C I J) (hr : r < C.nr) (hp : p ≤ 7) (h : tch C r p) (q : Q (nI (far C r p)) I J) : vc_X11_endOf (nI r) (nI p) I J Q := by
  obtain ⟨⟨n7, n9, -⟩, -, hro, -, -⟩ := hC
  obtain ⟨-, -, -, -, -, er, -⟩ := hm
  have h1 := hro r hr
  unfold vc_X11_endOf
  rw [show (1 : Int32) = nI 1 from rfl, ix4, show (4 : Int32) = nI 4 from rfl, pk_mul, nI_clamp (by omega), nI_clamp (by omega), (er r hr).1, (er r hr).2.1, nI_eq (by omega) (by omega), nI_eq (by omega) (by omega)]
  have v := vp_in_nI (n := 4 * r) (N := 36) (by omega) (by omega)
  have v1 := vp_in_nI (n := 4 * r + 1) (N := 36) (by omega) (by omega)
  unfold far at q
  exact ⟨v, fun z => ⟨v1, fun z2 => absurd h (fun z3 => z3.elim z z2), fun _ => ⟨v, by rw [if_neg z] at q; exact q⟩⟩, fun z => ⟨v1, by rw [if_pos z] at q; exact q⟩⟩
theorem m_end_f (hC : wfC C) (hm : rCm C I J) (hr : r < C.nr) (hp : p ≤ 7) (h : ¬ tch C r p) (q : Q (-1) I J) : vc_X11_endOf (nI r) (nI p) I J Q := by
  obtain ⟨⟨n7, n9, -⟩, -, hro, -, -⟩ := hC
  obtain ⟨-, -, -, -, -, er, -⟩ := hm
  have h1 := hro r hr
  unfold vc_X11_endOf
  rw [show vp_in ((4 * nI r) + 1) 36 = vp_in (nI (4 * r + 1)) 36 by rw [← ix4]; rfl]
  rw [show (4 : Int32) * nI r + 1 = nI (4 * r + 1) from ix4 r 1, show (4 : Int32) * nI r = nI (4 * r) from pk_mul 4 r, nI_clamp (by omega), nI_clamp (by omega), (er r hr).1, (er r hr).2.1, nI_eq (by omega) (by omega), nI_eq (by omega) (by omega)]
  have v := vp_in_nI (n := 4 * r) (N := 36) (by omega) (by omega)
  have v1 := vp_in_nI (n := 4 * r + 1) (N := 36) (by omega) (by omega)
  exact ⟨v, fun z => ⟨v1, fun z2 => q, fun z2 => absurd (Or.inr z2) h⟩, fun z => absurd (Or.inl z) h⟩
end Rds
theorem nI_ne_m1 {n : Nat} (h : n < 2 ^ 31) : ¬ nI n = -1 := by
  intro z
  have : (nI n).toInt = (-1 : Int32).toInt := by rw [z]
  rw [nI_toInt h] at this
  have h2 : (-1 : Int32).toInt = -1 := by decide
  omega
/-- the snow of a cart that goes by a road -/
def gnC (S : ST) (c r : Nat) : Nat := gn S.C r (S.D.sn c) (S.C.ck c) (S.C.cw c) (S.D.hr c)
theorem c_going {S : ST} {I : MI} {J : MJ} (hw : wf S) (hc : Cp S I J) {c r : Nat} (hcn : c < S.C.nc) (hr : r < S.C.nr) {Q : Int32 → MI → MJ → Prop} (q : Q (nI (gnC S c r)) I J) : vc_X10_afterGoing (nI c) (nI r) I J Q := by
  have n4 := hw.n4
  have hd := hw.d hcn
  have hk := hw.k hcn
  unfold vc_X10_afterGoing
  rw [nI_clamp (by omega), hc.sn (by omega), hc.hr (by omega), (hc.ct hcn).1, (hc.ct hcn).2.2]
  have v := vp_in_nI (n := c) (N := 4) (by omega) (by omega)
  exact ⟨v, v, v, v, s_road hc.1 hw.1 hr hd.2.2 hd.2.1 (by omega) (by omega) q⟩
theorem c_time_t {S : ST} {I : MI} {J : MJ} (hw : wf S) (hc : Cp S I J) {c r : Nat} (hcn : c < S.C.nc) (hr : r < S.C.nr) (h : S.D.hr c + S.C.rh r ≤ 48) {Q : Int32 → MI → MJ → Prop} (q : Q 1 I J) : vc_X10_comesInTime (nI c) (nI r) I J Q := by
  have n4 := hw.n4
  unfold vc_X10_comesInTime
  rw [nI_clamp (by omega), nI_clamp (by omega), hc.hr (by omega), (hc.rd hr).2.2.1, nI_add]
  exact ⟨vp_in_nI (by omega) (by omega), vp_in_nI (by omega) (by omega), pk_lt 48 (S.D.hr c + S.C.rh r) (fun z => by omega) (fun _ => q)⟩
theorem c_time_f {S : ST} {I : MI} {J : MJ} (hw : wf S) (hc : Cp S I J) {c r : Nat} (hcn : c < S.C.nc) (hr : r < S.C.nr) (h : ¬ S.D.hr c + S.C.rh r ≤ 48) {Q : Int32 → MI → MJ → Prop} (q : Q 0 I J) : vc_X10_comesInTime (nI c) (nI r) I J Q := by
  have n4 := hw.n4
  have h1 := hw.d hcn
  have h2 := hw.r hr
  unfold vc_X10_comesInTime
  rw [nI_clamp (by omega), nI_clamp (by omega), hc.hr (by omega), (hc.rd hr).2.2.1, nI_add]
  exact ⟨vp_in_nI (by omega) (by omega), vp_in_nI (by omega) (by omega), pk_lt 48 (S.D.hr c + S.C.rh r) (fun z => q) (fun z => absurd z h)⟩
theorem p_go (I : MI) (J : MJ) (hI : Inv I J) (x y : Int32) : vc_X10_go x y I J (fun r I1 J1 => vc_X11_go x y I1 J1 (fun q I2 J2 => r = q ∧ Inv I2 J2)) := by
  obtain ⟨S, hw, hc, hm⟩ := hI
  have n4 := hw.n4
  by_cases hx : inN x S.C.nc
  rotate_left
  · exact bothI (S := S) (S' := S) (r := -2) hw hm (fun Q hQ => c_cart_f hw hc hx (b0' (hQ _ _ hc Hi.rf))) (fun I1 J1 Q hm1 hQ => m_cart_f hw hm1 hx (b0' (hQ _ _ hm1 Lo.rf)))
  by_cases hy : inN y S.C.nr
  rotate_left
  · exact bothI (S := S) (S' := S) (r := -2) hw hm (fun Q hQ => c_cart_t hw hc hx (b1' (c_road_f hw hc hy (b0 (hQ _ _ hc Hi.rf))))) (fun I1 J1 Q hm1 hQ => m_cart_t hw hm1 hx (b1' (m_road_f hw hm1 hy (b0 (hQ _ _ hm1 Lo.rf)))))
  obtain ⟨c, hcn, rfl⟩ := id hx
  obtain ⟨r, hr, rfl⟩ := id hy
  have hd := hw.d hcn
  have hk := hw.k hcn
  have hro := hw.r hr
  have v4 := vp_in_nI (n := c) (N := 4) (by omega) (by omega)
  have v20 := vp_in_nI (n := c) (N := 20) (by omega) (by omega)
  have v24 := vp_in_nI (n := 4 + c) (N := 20) (by omega) (by omega)
  have v28 := vp_in_nI (n := 8 + c) (N := 20) (by omega) (by omega)
  have v9 := vp_in_nI (n := r) (N := 9) (by omega) (by omega)
  have v36 := vp_in_nI (n := 4 * r + 2) (N := 36) (by omega) (by omega)
  by_cases ht : tch S.C r (S.D.pl c)
  rotate_left
  · refine bothI (S := S) (S' := S) (r := -4) hw hm (fun Q hQ => c_cart_t hw hc hx (b1' (c_road_t hw hc hy (b1 ⟨v4, ?_⟩)))) (fun I1 J1 Q hm1 hQ => m_cart_t hw hm1 hx (b1' (m_road_t hw hm1 hy (b1 ⟨v20, ?_⟩))))
    · rw [nI_clamp (by omega), hc.pl (by omega)]
      exact c_tch_f hw.1 hc.1 hr (by omega) ht (b0 (hQ _ _ hc Hi.rf))
    · rw [nI_clamp (by omega), hm1.pl (by omega)]
      exact m_end_f hw.1 hm1.1 hr (by omega) ht ⟨fun z => absurd rfl z, fun _ => hQ _ _ hm1 Lo.rf⟩
  have hfl := far_lt hw hr (S.D.pl c)
  have hgl : gnC S c r ≤ 99 := Nat.le_trans (gn_le _ _ _ _ _ _) hd.2.2
  by_cases hf : S.D.hr c + S.C.rh r ≤ 48
  · refine bothI (S := S) (S' := S.deed (setN S.D.pl c (far S.C r (S.D.pl c)), setN S.D.hr c (S.D.hr c + S.C.rh r), setN S.D.sn c (gnC S c r), S.D.st, S.D.got)) (r := nI (gnC S c r)) (deed_wf hw (wfS_pl (wfS_hr (wfS_sn hw.2.1 hcn hgl) hf) hfl)) hm (fun Q hQ => c_cart_t hw hc hx (b1' (c_road_t hw hc hy (b1 ⟨v4, ?_⟩)))) (fun I1 J1 Q hm1 hQ => m_cart_t hw hm1 hx (b1' (m_road_t hw hm1 hy (b1 ⟨v20, ?_⟩))))
    · rw [nI_clamp (by omega), nI_clamp (by omega), hc.pl (by omega)]
      refine c_tch_t hw.1 hc.1 hr (by omega) ht (b1 (c_time_t hw hc hcn hr hf (b1 (c_going hw hc hcn hr (s_remember hw.2.2.1.1 hc.2.1 hc.2.2.1 (fun I1 hU e1 => ⟨v4, nm_e ⟨v4, ?_⟩⟩))))))
      rw [show wI I1 35 c (nI (gnC S c r)) 33 c = I1 33 c from rfl, e1 33 (by omega) (by omega), hc.pl (by omega)]
      refine c_far hw.1 (hc.1.cg (fun j a b => by rw [wI_row (by omega), e1 j (by omega) (by omega)]) rfl) hr (by omega) ⟨v4, nm_e ⟨v4, v9, v4, nm_e ?_⟩⟩
      rw [show wI (wI I1 35 c (nI (gnC S c r))) 33 c (nI (far S.C r (S.D.pl c))) 34 c = I1 34 c from rfl, show wI (wI I1 35 c (nI (gnC S c r))) 33 c (nI (far S.C r (S.D.pl c))) 10 r = I1 10 r from rfl, e1 34 (by omega) (by omega), e1 10 (by omega) (by omega), hc.hr (by omega), (hc.rd hr).2.2.1, nI_add]
      exact hQ _ _ (hc.deed hU e1 (fun j hj => by rw [wI_row (by omega), wI_row (by omega), wI_row (by omega)]) (cS_hr (cS_pl (cS_sn (hc.2.1.eq e1))))) ⟨fun j hj => by rw [wI_row (by omega), wI_row (by omega), wI_row (by omega), e1 j (by omega) (by omega)], fun _ _ => rfl⟩
    · rw [show (8 : Int32) + nI c = nI (8 + c) from nI_add 8 c, show (4 : Int32) + nI c = nI (4 + c) from nI_add 4 c, show (4 : Int32) * nI r + 2 = nI (4 * r + 2) from ix4 r 2, nI_clamp (by omega), nI_clamp (by omega), nI_clamp (by omega), nI_clamp (by omega), hm1.pl (by omega)]
      refine m_end_t hw.1 hm1.1 hr (by omega) ht ⟨fun _ => ⟨v24, v36, ?_⟩, fun z => absurd z (nI_ne_m1 (by omega))⟩
      rw [hm1.hr (by omega), (hm1.rd hr).2.2.1, nI_add]
      refine pk_le (S.D.hr c + S.C.rh r) 48 (fun _ => m_note hw.2.2.1.1 hm1.2.1 hm1.2.2.1 (fun I2 hU e1 e3 => ⟨v28, ?_⟩)) (fun z => by omega)
      have hn := hm1.noted hU e1 e3
      have hwn := deed_wf hw hw.2.1
      refine m_kind hwn hn hcn (m_straw hwn hn hcn ⟨v24, ?_⟩)
      rw [hn.sn (by omega), hn.hr (by omega)]
      refine m_comes hn.1 hw.1 hr hd.2.2 hd.2.1 (by show S.C.ck c ≤ 3; omega) (by show S.C.cw c ≤ 3; omega) ⟨v28, nm_e ⟨v24, v36, v24, nm_e ⟨v20, nm_e ⟨v28, ?_⟩⟩⟩⟩
      rw [mS_o (show 8 + c ≠ c by omega), mS_o (show 8 + c ≠ 4 + c by omega), wI_same, mS_o (show 4 + c ≠ 8 + c by omega), hn.hr (by omega), show wI I2 93 (8 + c) (nI (gn (S.deed S.D).C r ((S.deed S.D).D.sn c) ((S.deed S.D).C.ck c) ((S.deed S.D).C.cw c) ((S.deed S.D).D.hr c))) 89 (4 * r + 2) = I2 89 (4 * r + 2) from rfl, (hn.rd hr).2.2.1, nI_add]
      exact hQ _ _ (hm1.deed hU e1 e3 (fun j hj => by rw [wI_row hj, wI_row hj, wI_row hj]) (mS_pl (mS_hr (mS_sn (hm1.2.1.eq e1) (by omega)) (by omega)) (by omega))) ⟨fun j hj => by rw [wI_row (by omega), wI_row (by omega), wI_row (by omega), e1 j (by omega) (by omega)], fun _ _ => rfl⟩
  · refine bothI (S := S) (S' := S) (r := -5) hw hm (fun Q hQ => c_cart_t hw hc hx (b1' (c_road_t hw hc hy (b1 ⟨v4, ?_⟩)))) (fun I1 J1 Q hm1 hQ => m_cart_t hw hm1 hx (b1' (m_road_t hw hm1 hy (b1 ⟨v20, ?_⟩))))
    · rw [nI_clamp (by omega), hc.pl (by omega)]
      exact c_tch_t hw.1 hc.1 hr (by omega) ht (b1 (c_time_f hw hc hcn hr hf (b0 (hQ _ _ hc Hi.rf))))
    · rw [show (4 : Int32) + nI c = nI (4 + c) from nI_add 4 c, show (4 : Int32) * nI r + 2 = nI (4 * r + 2) from ix4 r 2, nI_clamp (by omega), nI_clamp (by omega), nI_clamp (by omega), hm1.pl (by omega)]
      refine m_end_t hw.1 hm1.1 hr (by omega) ht ⟨fun _ => ⟨v24, v36, ?_⟩, fun z => absurd z (nI_ne_m1 (by omega))⟩
      rw [hm1.hr (by omega), (hm1.rd hr).2.2.1, nI_add]
      exact pk_le (S.D.hr c + S.C.rh r) 48 (fun z => absurd z hf) (fun _ => hQ _ _ hm1 Lo.rf)
