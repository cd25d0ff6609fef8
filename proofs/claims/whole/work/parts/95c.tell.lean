/-! ===== the reference ===== -/
theorem ixM (n j : Nat) : (4 : Int32) * nI n + nI j = nI (4 * n + j) := by rw [show (4 : Int32) = nI 4 from rfl, pk_mul, nI_add]
/-- what telling doesn't change -/
def TF (I : MI) (J : MJ) (I' : MI) (J' : MJ) : Prop := (∀ j, (j < 87 ∨ 90 < j) → I' j = I j) ∧ (∀ m, m ≠ 0 → m ≠ 2 → m ≠ 4 → I' 87 m = I 87 m) ∧ (∀ j, j ≠ 87 → J' j = J j) ∧ ∀ m, m ≠ 6 → J' 87 m = J 87 m
theorem TF.rf {I : MI} {J : MJ} : TF I J I J := ⟨fun _ _ => rfl, fun _ _ _ _ => rfl, fun _ _ => rfl, fun _ _ => rfl⟩
theorem TF.tr {I I1 I2 : MI} {J J1 J2 : MJ} (a : TF I J I1 J1) (b : TF I1 J1 I2 J2) : TF I J I2 J2 := ⟨fun j h => (b.1 j h).trans (a.1 j h), fun m x y z => (b.2.1 m x y z).trans (a.2.1 m x y z), fun j h => (b.2.2.1 j h).trans (a.2.2.1 j h), fun m h => (b.2.2.2 m h).trans (a.2.2.2 m h)⟩
theorem TF.w {I : MI} {J : MJ} {a k : Nat} {x : Int32} (h : a = 88 ∨ a = 89 ∨ a = 90) : TF I J (wI I a k x) J := ⟨fun j hj => wI_row (by omega), fun m _ _ _ => by rw [wI_row (by omega)], fun _ _ => rfl, fun _ _ => rfl⟩
theorem TF.n {I : MI} {J : MJ} {k : Nat} {x : Int32} (h : k = 0 ∨ k = 2 ∨ k = 4) : TF I J (wI I 87 k x) J := ⟨fun j hj => wI_row (by omega), fun m a b c => wI_col (by omega), fun _ _ => rfl, fun _ _ => rfl⟩
theorem TF.j {I : MI} {J : MJ} {x : Int64} : TF I J I (wJ J 87 6 x) := ⟨fun _ _ => rfl, fun _ _ _ _ => rfl, fun j hj => wJ_row hj, fun m hm => wJ_cl hm⟩
theorem m_tell1 {C : Cty} {L : Ln} {N' : Cn} {I : MI} {J : MJ} {i : Nat} {Q : MI → MJ → Prop} (hC : wfC C) (ho : okL C.1 L N') (hm : rCm C I J) (hl : lnM L i I) (hi : i < 14) (q : ∀ (I' : MI) (J' : MJ), rCm (tell C L) I' J' → TF I J I' J' → Q I' J') : vc_X11_doLine (nI (4 * i)) I J Q := by
  obtain ⟨w3, w4⟩ := hl
  obtain ⟨⟨b1, b2, b3⟩, -⟩ := hC
  obtain ⟨c1, c2, c3, c4, cp, cr, cc⟩ := hm
  have v0 : vp_in (nI (4 * i)) 56 := vp_in_nI (by omega) (by decide)
  have v1 : vp_in (nI (4 * i + 1)) 56 := vp_in_nI (by omega) (by decide)
  have v2 : vp_in (nI (4 * i + 2)) 56 := vp_in_nI (by omega) (by decide)
  have v3 : vp_in (nI (4 * i + 3)) 56 := vp_in_nI (by omega) (by decide)
  have hL12 : L.1 ≤ 12 := by rcases ho with h | h | h | h | h | h <;> omega
  unfold vc_X11_doLine
  refine ⟨v0, nm_r (e' := nI L.1) (by rw [nI_clamp (by omega)]; exact w3) ?_⟩
  rw [show nI (4 * i) + 1 = nI (4 * i + 1) from nI_add _ 1, show nI (4 * i) + 2 = nI (4 * i + 2) from nI_add _ 2, show nI (4 * i) + 3 = nI (4 * i + 3) from nI_add _ 3, nI_clamp (n := 4 * i + 1) (by omega), nI_clamp (n := 4 * i + 2) (by omega), nI_clamp (n := 4 * i + 3) (by omega)]
  rcases ho with ⟨h1, h2, -⟩ | ⟨h0, h1, h2, h3, h4', h5, h6, h7, -⟩ | ⟨h0, h1, h2, h3, h4', -⟩ | ⟨h1, -⟩ | ⟨h1, h2, -⟩ | ⟨h1, -⟩
  · have h2 : C.np < 7 := h2
    refine pk_le 4 L.1 (fun z => by omega) (fun _ => ⟨by rw [c1]; exact vp_in_nI h2 (by decide), nm_r (e' := wI I 88 C.np (nI L.1)) (by rw [c1, nI_clamp (by omega)]) (nm_r (e' := wI (wI I 88 C.np (nI L.1)) 87 0 (nI (C.np + 1))) (by rw [wI_row (by decide), c1, nI_1]) (q _ _ ?_ ((TF.w (by decide)).tr (TF.n (by decide)))))⟩)
    rw [tell_p h1]
    refine ⟨wI_same _ _ _ _, (wI_col (by decide)).trans (by rw [wI_row (by decide)]; exact c2), (wI_col (by decide)).trans (by rw [wI_row (by decide)]; exact c3), c4, fun k hk => ?_, fun r hr => ?_, fun c hc => ?_⟩
    · have hk : k < C.np + 1 := hk
      rw [wI_row (by decide)]
      exact wI_st (fun e => cp k (by omega))
    · rw [wI_row (j := 89) (by decide), wI_row (j := 89) (by decide)]
      exact cr r hr
    · rw [wI_row (j := 90) (by decide), wI_row (j := 90) (by decide)]
      exact cc c hc
  · have h2 : C.nr < 9 := h2
    have n3 : nn L.1 = 3 := nn_r h0 h1
    have a0 : I 92 (4 * i + 1) = nI L.2.1 := w4 0 (by omega)
    have a1 : I 92 (4 * i + 2) = nI L.2.2.1 := w4 1 (by omega)
    have a2 : I 92 (4 * i + 3) = nI L.2.2.2 := w4 2 (by omega)
    have x0 : (4 : Int32) * nI C.nr = nI (4 * C.nr) := by rw [show (4 : Int32) = nI 4 from rfl, pk_mul]
    have x1 : nI (4 * C.nr) + 1 = nI (4 * C.nr + 1) := nI_add _ 1
    have x2 : nI (4 * C.nr) + 2 = nI (4 * C.nr + 2) := nI_add _ 2
    have x3 : nI (4 * C.nr) + 3 = nI (4 * C.nr + 3) := nI_add _ 3
    have u : ∀ j, j < 4 → vp_in (nI (4 * C.nr + j)) 36 := fun j hj => vp_in_nI (by omega) (by decide)
    have k4 : nI L.1 - 4 = nI (L.1 - 4) := by rw [show (4 : Int32) = nI 4 from rfl, pk_sub h0]
    rw [a0]
    refine pk_le 4 L.1 (fun _ => pk_le 7 L.1 (fun z => by omega) (fun _ => ⟨v1, ?_, nm_r (e' := wI I 89 (4 * C.nr) (nI L.2.1)) ?_ ⟨v2, ?_, nm_r (e' := wI (wI I 89 (4 * C.nr) (nI L.2.1)) 89 (4 * C.nr + 1) (nI L.2.2.1)) ?_ ⟨v3, ?_, nm_r (e' := wI (wI (wI I 89 (4 * C.nr) (nI L.2.1)) 89 (4 * C.nr + 1) (nI L.2.2.1)) 89 (4 * C.nr + 2) (nI L.2.2.2)) ?_ ⟨?_, nm_r (e' := wI (wI (wI (wI I 89 (4 * C.nr) (nI L.2.1)) 89 (4 * C.nr + 1) (nI L.2.2.1)) 89 (4 * C.nr + 2) (nI L.2.2.2)) 89 (4 * C.nr + 3) (nI (L.1 - 4))) ?_ (nm_r (e' := wI (wI (wI (wI (wI I 89 (4 * C.nr) (nI L.2.1)) 89 (4 * C.nr + 1) (nI L.2.2.1)) 89 (4 * C.nr + 2) (nI L.2.2.2)) 89 (4 * C.nr + 3) (nI (L.1 - 4))) 87 2 (nI (C.nr + 1))) ?_ (q _ _ ?_ (((((TF.w (by decide)).tr (TF.w (by decide))).tr (TF.w (by decide))).tr (TF.w (by decide))).tr (TF.n (by decide)))))⟩⟩⟩⟩)) (fun z => by omega)
    · rw [c2, x0]; exact u 0 (by decide)
    · rw [c2, x0, nI_clamp (by omega)]
    · rw [wI_row (by decide), c2, x0, x1]; exact u 1 (by decide)
    · rw [wI_row (j := 87) (by decide), wI_row (j := 92) (by decide), c2, x0, x1, nI_clamp (by omega), a1]
    · rw [wI_row (by decide), wI_row (by decide), c2, x0, x2]; exact u 2 (by decide)
    · rw [wI_row (j := 87) (by decide), wI_row (j := 87) (by decide), wI_row (j := 92) (by decide), wI_row (j := 92) (by decide), c2, x0, x2, nI_clamp (by omega), a2]
    · rw [wI_row (by decide), wI_row (by decide), wI_row (by decide), c2, x0, x3]; exact u 3 (by decide)
    · rw [wI_row (by decide), wI_row (by decide), wI_row (by decide), c2, x0, x3, nI_clamp (by omega), k4]
    · rw [wI_row (by decide), wI_row (by decide), wI_row (by decide), wI_row (by decide), c2, nI_1]
    rw [tell_r h0 h1]
    refine ⟨?_, wI_same _ _ _ _, ?_, c4, fun k hk => ?_, fun r hr => ?_, fun c hc => ?_⟩
    · rw [wI_col (by decide), wI_row (by decide), wI_row (by decide), wI_row (by decide), wI_row (by decide)]; exact c1
    · rw [wI_col (by decide), wI_row (by decide), wI_row (by decide), wI_row (by decide), wI_row (by decide)]; exact c3
    · rw [wI_row (by decide), wI_row (by decide), wI_row (by decide), wI_row (by decide), wI_row (by decide)]; exact cp k hk
    · have hr : r < C.nr + 1 := hr
      rw [wI_row (j := 89) (by decide)]
      generalize hW : wI (wI (wI (wI I 89 (4 * C.nr) (nI L.2.1)) 89 (4 * C.nr + 1) (nI L.2.2.1)) 89 (4 * C.nr + 2) (nI L.2.2.2)) 89 (4 * C.nr + 3) (nI (L.1 - 4)) = W
      show W 89 (4 * r) = nI (setN C.ra C.nr L.2.1 r) ∧ W 89 (4 * r + 1) = nI (setN C.rb C.nr L.2.2.1 r) ∧ W 89 (4 * r + 2) = nI (setN C.rh C.nr L.2.2.2 r) ∧ W 89 (4 * r + 3) = nI (setN C.rk C.nr (L.1 - 4) r)
      by_cases e : r = C.nr
      · rw [e, setN_same, setN_same, setN_same, setN_same, ← hW]
        refine ⟨?_, ?_, ?_, wI_same _ _ _ _⟩
        · rw [wI_col (by omega), wI_col (by omega), wI_col (by omega), wI_same]
        · rw [wI_col (by omega), wI_col (by omega), wI_same]
        · rw [wI_col (by omega), wI_same]
      · rw [setN_ne e, setN_ne e, setN_ne e, setN_ne e]
        have key : ∀ j, j < 4 → W 89 (4 * r + j) = I 89 (4 * r + j) := fun j hj => by
          rw [← hW, wI_col (by omega), wI_col (by omega), wI_col (by omega), wI_col (by omega)]
        obtain ⟨d1, d2, d3, d4⟩ := cr r (by omega)
        exact ⟨(key 0 (by decide)).trans d1, (key 1 (by decide)).trans d2, (key 2 (by decide)).trans d3, (key 3 (by decide)).trans d4⟩
    · rw [wI_row (j := 90) (by decide), wI_row (j := 90) (by decide), wI_row (j := 90) (by decide), wI_row (j := 90) (by decide), wI_row (j := 90) (by decide)]
      exact cc c hc
  · have h2 : C.nc < 4 := h2
    have n3 : nn L.1 = 2 := nn_c h0 h1
    have a0 : I 92 (4 * i + 1) = nI L.2.1 := w4 0 (by omega)
    have a1 : I 92 (4 * i + 2) = nI L.2.2.1 := w4 1 (by omega)
    have x0 : (3 : Int32) * nI C.nc = nI (3 * C.nc) := by rw [show (3 : Int32) = nI 3 from rfl, pk_mul]
    have x1 : nI (3 * C.nc) + 1 = nI (3 * C.nc + 1) := nI_add _ 1
    have x2 : nI (3 * C.nc) + 2 = nI (3 * C.nc + 2) := nI_add _ 2
    have u : ∀ j, j < 3 → vp_in (nI (3 * C.nc + j)) 12 := fun j hj => vp_in_nI (by omega) (by decide)
    have k4 : nI L.1 - 7 = nI (L.1 - 7) := by rw [show (7 : Int32) = nI 7 from rfl, pk_sub h0]
    refine pk_le 4 L.1 (fun _ => pk_le 7 L.1 (fun _ => pk_le 10 L.1 (fun z => by omega) (fun _ => ⟨?_, nm_r (e' := wI I 90 (3 * C.nc) (nI (L.1 - 7))) ?_ ⟨v1, ?_, nm_r (e' := wI (wI I 90 (3 * C.nc) (nI (L.1 - 7))) 90 (3 * C.nc + 1) (nI L.2.1)) ?_ ⟨v2, ?_, nm_r (e' := wI (wI (wI I 90 (3 * C.nc) (nI (L.1 - 7))) 90 (3 * C.nc + 1) (nI L.2.1)) 90 (3 * C.nc + 2) (nI L.2.2.1)) ?_ (nm_r (e' := wI (wI (wI (wI I 90 (3 * C.nc) (nI (L.1 - 7))) 90 (3 * C.nc + 1) (nI L.2.1)) 90 (3 * C.nc + 2) (nI L.2.2.1)) 87 4 (nI (C.nc + 1))) ?_ (q _ _ ?_ ((((TF.w (by decide)).tr (TF.w (by decide))).tr (TF.w (by decide))).tr (TF.n (by decide)))))⟩⟩⟩)) (fun z => by omega)) (fun z => by omega)
    · rw [c3, x0]; exact u 0 (by decide)
    · rw [c3, x0, nI_clamp (by omega), k4]
    · rw [wI_row (by decide), c3, x0, x1]; exact u 1 (by decide)
    · rw [wI_row (j := 87) (by decide), wI_row (j := 92) (by decide), c3, x0, x1, nI_clamp (by omega), a0]
    · rw [wI_row (by decide), wI_row (by decide), c3, x0, x2]; exact u 2 (by decide)
    · rw [wI_row (j := 87) (by decide), wI_row (j := 87) (by decide), wI_row (j := 92) (by decide), wI_row (j := 92) (by decide), c3, x0, x2, nI_clamp (by omega), a1]
    · rw [wI_row (by decide), wI_row (by decide), wI_row (by decide), c3, nI_1]
    rw [tell_c h0 h1]
    refine ⟨?_, ?_, wI_same _ _ _ _, c4, fun k hk => ?_, fun r hr => ?_, fun c hc => ?_⟩
    · rw [wI_col (by decide), wI_row (by decide), wI_row (by decide), wI_row (by decide)]; exact c1
    · rw [wI_col (by decide), wI_row (by decide), wI_row (by decide), wI_row (by decide)]; exact c2
    · rw [wI_row (by decide), wI_row (by decide), wI_row (by decide), wI_row (by decide)]; exact cp k hk
    · rw [wI_row (j := 89) (by decide), wI_row (j := 89) (by decide), wI_row (j := 89) (by decide), wI_row (j := 89) (by decide)]
      exact cr r hr
    · have hc : c < C.nc + 1 := hc
      rw [wI_row (j := 90) (by decide)]
      generalize hW : wI (wI (wI I 90 (3 * C.nc) (nI (L.1 - 7))) 90 (3 * C.nc + 1) (nI L.2.1)) 90 (3 * C.nc + 2) (nI L.2.2.1) = W
      show W 90 (3 * c) = nI (setN C.ck C.nc (L.1 - 7) c) ∧ W 90 (3 * c + 1) = nI (setN C.cs C.nc L.2.1 c) ∧ W 90 (3 * c + 2) = nI (setN C.cw C.nc L.2.2.1 c)
      by_cases e : c = C.nc
      · rw [e, setN_same, setN_same, setN_same, ← hW]
        refine ⟨?_, ?_, wI_same _ _ _ _⟩
        · rw [wI_col (by omega), wI_col (by omega), wI_same]
        · rw [wI_col (by omega), wI_same]
      · rw [setN_ne e, setN_ne e, setN_ne e]
        have key : ∀ j, j < 3 → W 90 (3 * c + j) = I 90 (3 * c + j) := fun j hj => by
          rw [← hW, wI_col (by omega), wI_col (by omega), wI_col (by omega)]
        obtain ⟨d1, d2, d3⟩ := cc c (by omega)
        exact ⟨(key 0 (by decide)).trans d1, (key 1 (by decide)).trans d2, (key 2 (by decide)).trans d3⟩
  · have q' : ∀ (I' : MI) (J' : MJ), I' = wI (wI (wI I 87 0 0) 87 2 0) 87 4 0 → J' = wJ J 87 6 0 → Q I' J' := by
      rintro _ _ rfl rfl
      refine q _ _ ?_ ((((TF.n (by decide)).tr (TF.n (by decide))).tr (TF.n (by decide))).tr TF.j)
      rw [tell_l h1]
      refine ⟨?_, ?_, wI_same _ _ _ _, wJ_sm _ _ _ _, fun i hi => absurd hi (Nat.not_lt_zero i), fun r hr => absurd hr (Nat.not_lt_zero r), fun c hc => absurd hc (Nat.not_lt_zero c)⟩
      · rw [wI_col (by decide), wI_col (by decide), wI_same]; rfl
      · rw [wI_col (by decide), wI_same]; rfl
    rw [h1]
    refine pk_le 4 10 (fun _ => pk_le 7 10 (fun _ => pk_le 10 10 (fun _ => ⟨fun _ => nm_e ⟨fun z => absurd rfl z, fun _ => ?_⟩, fun z => absurd z (by decide)⟩) (fun z => by omega)) (fun z => by omega)) (fun z => by omega)
    unfold vc_X11_doLine_B255 vc_X11_doLine_B273 vc_X11_doLine_B291
    exact nm_e ⟨fun z => absurd rfl z, fun _ => nm_e ⟨fun z => absurd rfl z, fun _ => nm_e (q' _ _ rfl rfl)⟩⟩
  · have n3 : nn L.1 = 1 := nn_w h1
    have a0 : I 92 (4 * i + 1) = nI L.2.1 := w4 0 (by omega)
    rw [a0, h1]
    refine pk_le 4 11 (fun _ => pk_le 7 11 (fun _ => pk_le 10 11 (fun _ => ⟨fun z => absurd rfl z, fun _ => ⟨v1, nm_e (q _ _ ?_ TF.j)⟩⟩) (fun z => by omega)) (fun z => by omega)) (fun z => by omega)
    rw [tell_w h1]
    exact ⟨c1, c2, c3, (wJ_sm _ _ _ _).trans (by rw [c4]), cp, cr, cc⟩
  · have q' : ∀ (I' : MI) (J' : MJ), I' = wI (wI (wI I 87 0 (nI C.np)) 87 2 (nI C.nr)) 87 4 (nI C.nc) → J' = wJ J 87 6 0 → Q I' J' := by
      rintro _ _ rfl rfl
      refine q _ _ ?_ ((((TF.n (by decide)).tr (TF.n (by decide))).tr (TF.n (by decide))).tr TF.j)
      rw [tell_m h1]
      refine ⟨?_, ?_, wI_same _ _ _ _, wJ_sm _ _ _ _, fun k hk => ?_, fun r hr => ?_, fun c hc => ?_⟩
      · rw [wI_col (by decide), wI_col (by decide), wI_same]
      · rw [wI_col (by decide), wI_same]
      · rw [wI_row (by decide), wI_row (by decide), wI_row (by decide)]; exact cp k hk
      · rw [wI_row (j := 89) (by decide), wI_row (j := 89) (by decide), wI_row (j := 89) (by decide)]; exact cr r hr
      · rw [wI_row (j := 90) (by decide), wI_row (j := 90) (by decide), wI_row (j := 90) (by decide)]; exact cc c hc
    rw [h1]
    refine pk_le 4 12 (fun _ => pk_le 7 12 (fun _ => pk_le 10 12 (fun _ => ⟨fun _ => nm_e ⟨fun _ => ?_, fun z => absurd z (by decide)⟩, fun z => absurd z (by decide)⟩) (fun z => by omega)) (fun z => by omega)) (fun z => by omega)
    unfold vc_X11_doLine_B255 vc_X11_doLine_B273 vc_X11_doLine_B291
    refine nm_r (e' := wI I 87 0 (nI C.np)) (by rw [c1]) ⟨fun _ => nm_r (e' := wI (wI I 87 0 (nI C.np)) 87 2 (nI C.nr)) (by rw [wI_col (by decide), c2]) ⟨fun _ => nm_r (e' := wI (wI (wI I 87 0 (nI C.np)) 87 2 (nI C.nr)) 87 4 (nI C.nc)) (by rw [wI_col (by decide), wI_col (by decide), c3]) (q' _ _ rfl rfl), fun z => absurd z (by decide)⟩, fun z => absurd z (by decide)⟩
theorem m_tell {Q : Int32 → MI → MJ → Prop} : ∀ (Ls : List Ln) (i : Nat) (C : Cty) (I : MI) (J : MJ), wfC C → chain C.1 Ls → rCm C I J → (∀ m L, Ls[m]? = some L → lnM L (i + m) I) → I 87 15 = nI (i + Ls.length) → i + Ls.length ≤ 14 → (∀ (I' : MI) (J' : MJ), rCm (tellAll C Ls) I' J' → TF I J I' J' → vc_X11_begin (wI I' 87 7 0) J' (fun I3 J4 => Q (I3 87 15) I3 J4)) → vc_X11_land_L12 Q (Ls.length + 1) (nI i) I J := by
  intro Ls
  induction Ls with
  | nil =>
    intro i C I J hC hch hm hl h4 hi q
    show vc_X11_land_L12s Q (vc_X11_land_L12 Q 0) (nI i) I J
    unfold vc_X11_land_L12s
    have hi : i ≤ 14 := hi
    exact pk_le i i (fun _ => nm_e (q I J hm TF.rf)) (fun z => by omega) h4
  | cons L Ls ih =>
    intro i C I J hC hch hm hl h4 hi q
    obtain ⟨N', ho, hch'⟩ := hch
    rw [List.length_cons] at h4 hi
    obtain ⟨t1, t2⟩ := tell_ok hC ho
    show vc_X11_land_L12s Q (vc_X11_land_L12 Q (Ls.length + 1)) (nI i) I J
    unfold vc_X11_land_L12s
    rw [show (4 : Int32) * nI i = nI (4 * i) from by rw [show (4 : Int32) = nI 4 from rfl, pk_mul]]
    refine pk_le (i + (Ls.length + 1)) i (fun z => by omega) (fun _ => m_tell1 hC ho hm (hl 0 L rfl) (by omega) (fun I' J' r f => nm_r (nI_1 i) (ih (i + 1) (tell C L) I' J' t1 (by rw [t2]; exact hch') r (fun m L' hm => ?_) ?_ (by omega) (fun I2 J2 r2 f2 => q I2 J2 r2 (f.tr f2))))) h4
    · rw [show i + 1 + m = i + (m + 1) by omega]
      exact (hl (m + 1) L' hm).cg (fun j _ => by rw [f.1 92 (by decide)])
    · rw [f.2.1 15 (by decide) (by decide) (by decide), h4, show i + 1 + Ls.length = i + (Ls.length + 1) by omega]
