/-! ===== the easy calls: takers, the row, the text's letters ===== -/
/-- one more in a row -/
def rwPush (R : Rw) (v : Nat) : Rw := (R.1 + 1, fun i => if i = R.1 then v else R.2 i)
theorem rwPush_wf {R : Rw} {n a b v : Nat} (h : wfR R n a b) (hn : R.1 < n) (hv : a ≤ v ∧ v ≤ b) : wfR (rwPush R v) n a b := by
  refine ⟨by show R.1 + 1 ≤ n; omega, fun i hi => ?_⟩
  have hi : i < R.1 + 1 := hi
  show a ≤ (if i = R.1 then v else R.2 i) ∧ (if i = R.1 then v else R.2 i) ≤ b
  by_cases h1 : i = R.1
  · rw [if_pos h1]; exact hv
  · rw [if_neg h1]; exact h.2 i (by omega)
theorem rwPush_r {R : Rw} {v : Nat} {f g : Nat → Int32} {x : Int32} {n : Int32} (h : rRw R n f) (hx : x = nI (R.1 + 1)) (hg : ∀ i, g i = if i = R.1 then nI v else f i) : rRw (rwPush R v) x g := by
  refine ⟨hx, fun i hi => ?_⟩
  have hi : i < R.1 + 1 := hi
  rw [hg]
  show _ = nI (if i = R.1 then v else R.2 i)
  by_cases h1 : i = R.1
  · rw [if_pos h1, if_pos h1]
  · rw [if_neg h1, if_neg h1]; exact h.2 i (by omega)
abbrev ST.setTk (S : ST) (R : Rw) : ST := (S.C, S.D, S.U, S.K, S.T, R, S.rw)
abbrev ST.setRw (S : ST) (R : Rw) : ST := (S.C, S.D, S.U, S.K, S.T, S.tk, R)
abbrev ST.setT (S : ST) (R : Rw) : ST := (S.C, S.D, S.U, S.K, R, S.tk, S.rw)
theorem Cp.setTk {S : ST} {R : Rw} {I I' : MI} {J : MJ} (h : Cp S I J) (e : ∀ j, j < 87 → j ≠ 18 → j ≠ 19 → I' j = I j) (hR : rRw R (I' 18 1) (I' 19)) : Cp (S.setTk R) I' J := by
  obtain ⟨h1, h2, h3, h4, h5, h6, h7⟩ := h
  exact ⟨h1.cg (fun j a b => e j (by omega) (by omega) (by omega)) rfl, h2.cg (fun j a b => e j (by omega) (by omega) (by omega)), h3.cg (by rw [e 14 (by decide) (by decide) (by decide)]) (by rw [e 14 (by decide) (by decide) (by decide)]) (fun j a b => e j (by omega) (by omega) (by omega)), h4.cg (e 17 (by decide) (by decide) (by decide)) (fun j a b => e j (by omega) (by omega) (by omega)), by rw [e 1 (by decide) (by decide) (by decide), e 2 (by decide) (by decide) (by decide)]; exact h5, hR, by rw [e 20 (by decide) (by decide) (by decide), e 21 (by decide) (by decide) (by decide)]; exact h7⟩
theorem Cp.setRw {S : ST} {R : Rw} {I I' : MI} {J : MJ} (h : Cp S I J) (e : ∀ j, j < 87 → j ≠ 20 → j ≠ 21 → I' j = I j) (hR : rRw R (I' 20 1) (I' 21)) : Cp (S.setRw R) I' J := by
  obtain ⟨h1, h2, h3, h4, h5, h6, h7⟩ := h
  exact ⟨h1.cg (fun j a b => e j (by omega) (by omega) (by omega)) rfl, h2.cg (fun j a b => e j (by omega) (by omega) (by omega)), h3.cg (by rw [e 14 (by decide) (by decide) (by decide)]) (by rw [e 14 (by decide) (by decide) (by decide)]) (fun j a b => e j (by omega) (by omega) (by omega)), h4.cg (e 17 (by decide) (by decide) (by decide)) (fun j a b => e j (by omega) (by omega) (by omega)), by rw [e 1 (by decide) (by decide) (by decide), e 2 (by decide) (by decide) (by decide)]; exact h5, by rw [e 18 (by decide) (by decide) (by decide), e 19 (by decide) (by decide) (by decide)]; exact h6, hR⟩
theorem Cp.setT {S : ST} {R : Rw} {I I' : MI} {J : MJ} (h : Cp S I J) (e : ∀ j, j < 87 → j ≠ 1 → j ≠ 2 → I' j = I j) (hR : rRw R (I' 1 1) (I' 2)) : Cp (S.setT R) I' J := by
  obtain ⟨h1, h2, h3, h4, h5, h6, h7⟩ := h
  exact ⟨h1.cg (fun j a b => e j (by omega) (by omega) (by omega)) rfl, h2.cg (fun j a b => e j (by omega) (by omega) (by omega)), h3.cg (by rw [e 14 (by decide) (by decide) (by decide)]) (by rw [e 14 (by decide) (by decide) (by decide)]) (fun j a b => e j (by omega) (by omega) (by omega)), h4.cg (e 17 (by decide) (by decide) (by decide)) (fun j a b => e j (by omega) (by omega) (by omega)), hR, by rw [e 18 (by decide) (by decide) (by decide), e 19 (by decide) (by decide) (by decide)]; exact h6, by rw [e 20 (by decide) (by decide) (by decide), e 21 (by decide) (by decide) (by decide)]; exact h7⟩
theorem Mp.setTk {S : ST} {R : Rw} {I I' : MI} {J : MJ} (h : Mp S I J) (e : ∀ j, 88 ≤ j → j ≤ 98 → j ≠ 97 → I' j = I j) (e87 : ∀ m, m ≠ 26 → I' 87 m = I 87 m) (hR : rRw R (I' 87 26) (I' 97)) : Mp (S.setTk R) I' J := by
  obtain ⟨h1, h2, h3, h4, h5, h6, h7⟩ := h
  exact ⟨h1.cg (e87 0 (by decide)) (e87 2 (by decide)) (e87 4 (by decide)) (fun j a b => e j a (by omega) (by omega)) rfl, by rw [e 93 (by decide) (by decide) (by decide)]; exact h2, h3.cg (e87 24 (by decide)) (e 96 (by decide) (by decide) (by decide)), h4.cg (e 95 (by decide) (by decide) (by decide)) (e 94 (by decide) (by decide) (by decide)), by rw [e87 7 (by decide), e 91 (by decide) (by decide) (by decide)]; exact h5, hR, by rw [e87 28 (by decide), e 98 (by decide) (by decide) (by decide)]; exact h7⟩
theorem Mp.setRw {S : ST} {R : Rw} {I I' : MI} {J : MJ} (h : Mp S I J) (e : ∀ j, 88 ≤ j → j ≤ 98 → j ≠ 98 → I' j = I j) (e87 : ∀ m, m ≠ 28 → I' 87 m = I 87 m) (hR : rRw R (I' 87 28) (I' 98)) : Mp (S.setRw R) I' J := by
  obtain ⟨h1, h2, h3, h4, h5, h6, h7⟩ := h
  exact ⟨h1.cg (e87 0 (by decide)) (e87 2 (by decide)) (e87 4 (by decide)) (fun j a b => e j a (by omega) (by omega)) rfl, by rw [e 93 (by decide) (by decide) (by decide)]; exact h2, h3.cg (e87 24 (by decide)) (e 96 (by decide) (by decide) (by decide)), h4.cg (e 95 (by decide) (by decide) (by decide)) (e 94 (by decide) (by decide) (by decide)), by rw [e87 7 (by decide), e 91 (by decide) (by decide) (by decide)]; exact h5, by rw [e87 26 (by decide), e 97 (by decide) (by decide) (by decide)]; exact h6, hR⟩
theorem Mp.setT {S : ST} {R : Rw} {I I' : MI} {J : MJ} (h : Mp S I J) (e : ∀ j, 88 ≤ j → j ≤ 98 → j ≠ 91 → I' j = I j) (e87 : ∀ m, m ≠ 7 → I' 87 m = I 87 m) (hR : rRw R (I' 87 7) (I' 91)) : Mp (S.setT R) I' J := by
  obtain ⟨h1, h2, h3, h4, h5, h6, h7⟩ := h
  exact ⟨h1.cg (e87 0 (by decide)) (e87 2 (by decide)) (e87 4 (by decide)) (fun j a b => e j a (by omega) (by omega)) rfl, by rw [e 93 (by decide) (by decide) (by decide)]; exact h2, h3.cg (e87 24 (by decide)) (e 96 (by decide) (by decide) (by decide)), h4.cg (e 95 (by decide) (by decide) (by decide)) (e 94 (by decide) (by decide) (by decide)), hR, by rw [e87 26 (by decide), e 97 (by decide) (by decide) (by decide)]; exact h6, by rw [e87 28 (by decide), e 98 (by decide) (by decide) (by decide)]; exact h7⟩
theorem eq5 {n : Nat} {A B : Prop} (hn : n ≤ 5) (a : n < 5 → A) (b : n = 5 → B) : (¬ nI n = 5 → A) ∧ (nI n = 5 → B) := by
  rw [show (5 : Int32) = nI 5 from rfl, nI_eq (by omega) (by omega)]
  exact ⟨fun z => a (by omega), b⟩
theorem p_taker (I : MI) (J : MJ) (hI : Inv I J) (x : Int32) : vc_X10_taker x I J (fun r I1 J1 => vc_X11_taker x I1 J1 (fun q I2 J2 => r = q ∧ Inv I2 J2)) := by
  obtain ⟨S, hw, hc, hm⟩ := hI
  obtain ⟨-, -, -, -, -, wt, -⟩ := id hw
  by_cases hx : inR x 1 30
  · by_cases hn : S.tk.1 < 5
    · obtain ⟨v, v1, v2, rfl⟩ := id hx
      refine bothI (S := S) (S' := S.setTk (rwPush S.tk v)) (r := nI (S.tk.1 + 1)) ?_ hm (fun Q hQ => ?_) (fun I1 J1 Q hm1 hQ => ?_)
      · obtain ⟨w1, w2, w3, w4, w5, w6, w7⟩ := hw
        exact ⟨w1, w2, w3, w4, w5, rwPush_wf w6 hn ⟨v1, v2⟩, w7⟩
      · refine s_wi_t 1 30 hx (b1 ?_)
        obtain ⟨-, -, -, -, -, ⟨e1, e2⟩, -⟩ := id hc
        unfold vc_X8_append
        rw [e1]
        refine pk_lt S.tk.1 5 (fun _ => ⟨vp_in_nI hn (by omega), nm_e (nm_e (b1' ?_))⟩) (fun z => by omega)
        rw [nI_clamp (by omega), wI_same, show wI I 19 S.tk.1 (nI v) 18 1 = I 18 1 from rfl, e1, nI_1]
        exact hQ _ _ (hc.setTk (fun j a b d => by rw [wI_row b, wI_row d]) (rwPush_r ⟨e1, e2⟩ (wI_same _ _ _ _) (fun i => by show wI I 19 S.tk.1 (nI v) 19 i = _; rw [wI_ap, if_pos rfl]))) ((Hi.w (by decide)).tr (Hi.w (by decide)))
      · refine s_in_t 1 30 hx (b1 ?_)
        obtain ⟨-, -, -, -, -, ⟨e1, e2⟩, -⟩ := id hm1
        rw [e1]
        refine eq5 (by omega) (fun _ => ⟨vp_in_nI hn (by omega), nm_e (nm_e ?_)⟩) (fun z => by omega)
        rw [nI_clamp (by omega), wI_same, show wI I1 97 S.tk.1 (nI v) 87 26 = I1 87 26 from rfl, e1, nI_1]
        exact hQ _ _ (hm1.setTk (fun j a b d => by rw [wI_row (by omega), wI_row d]) (fun m hm => by rw [wI_col hm]; rfl) (rwPush_r ⟨e1, e2⟩ (wI_same _ _ _ _) (fun i => by show wI I1 97 S.tk.1 (nI v) 97 i = _; rw [wI_ap, if_pos rfl]))) ((Lo.w (by decide)).tr (Lo.w (by decide)))
    · refine bothI (S := S) (S' := S) (r := -5) hw hm (fun Q hQ => ?_) (fun I1 J1 Q hm1 hQ => ?_)
      · refine s_wi_t 1 30 hx (b1 ?_)
        obtain ⟨-, -, -, -, -, ⟨e1, e2⟩, -⟩ := id hc
        unfold vc_X8_append
        rw [e1]
        exact pk_lt S.tk.1 5 (fun z => absurd z hn) (fun _ => b0' (hQ _ _ hc Hi.rf)) rfl rfl (by have := wt.1; omega)
      · refine s_in_t 1 30 hx (b1 ?_)
        obtain ⟨-, -, -, -, -, ⟨e1, e2⟩, -⟩ := id hm1
        rw [e1]
        exact eq5 wt.1 (fun z => absurd z hn) (fun _ => hQ _ _ hm1 Lo.rf)
  · exact bothI (S := S) (S' := S) (r := -3) hw hm (fun Q hQ => s_wi_f 1 30 hx (b0 (hQ _ _ hc Hi.rf))) (fun I1 J1 Q hm1 hQ => s_in_f 1 30 hx (b0 (hQ _ _ hm1 Lo.rf)))
theorem p_put (I : MI) (J : MJ) (hI : Inv I J) (x : Int32) : vc_X10_put x I J (fun r I1 J1 => vc_X11_put x I1 J1 (fun q I2 J2 => r = q ∧ Inv I2 J2)) := by
  obtain ⟨S, hw, hc, hm⟩ := hI
  obtain ⟨-, -, -, -, -, -, wt⟩ := id hw
  by_cases hx : inR x 1 99
  · by_cases hn : S.rw.1 < 5
    · obtain ⟨v, v1, v2, rfl⟩ := id hx
      refine bothI (S := S) (S' := S.setRw (rwPush S.rw v)) (r := nI (S.rw.1 + 1)) ?_ hm (fun Q hQ => ?_) (fun I1 J1 Q hm1 hQ => ?_)
      · obtain ⟨w1, w2, w3, w4, w5, w6, w7⟩ := hw
        exact ⟨w1, w2, w3, w4, w5, w6, rwPush_wf w7 hn ⟨v1, v2⟩⟩
      · refine s_wi_t 1 99 hx (b1 ?_)
        obtain ⟨-, -, -, -, -, -, ⟨e1, e2⟩⟩ := id hc
        unfold vc_X4_append
        rw [e1]
        refine pk_lt S.rw.1 5 (fun _ => ⟨vp_in_nI hn (by omega), nm_e (nm_e (b1' ?_))⟩) (fun z => by omega)
        rw [nI_clamp (by omega), wI_same, show wI I 21 S.rw.1 (nI v) 20 1 = I 20 1 from rfl, e1, nI_1]
        exact hQ _ _ (hc.setRw (fun j a b d => by rw [wI_row b, wI_row d]) (rwPush_r ⟨e1, e2⟩ (wI_same _ _ _ _) (fun i => by show wI I 21 S.rw.1 (nI v) 21 i = _; rw [wI_ap, if_pos rfl]))) ((Hi.w (by decide)).tr (Hi.w (by decide)))
      · refine s_in_t 1 99 hx (b1 ?_)
        obtain ⟨-, -, -, -, -, -, ⟨e1, e2⟩⟩ := id hm1
        rw [e1]
        refine eq5 (by omega) (fun _ => ⟨vp_in_nI hn (by omega), nm_e (nm_e ?_)⟩) (fun z => by omega)
        rw [nI_clamp (by omega), wI_same, show wI I1 98 S.rw.1 (nI v) 87 28 = I1 87 28 from rfl, e1, nI_1]
        exact hQ _ _ (hm1.setRw (fun j a b d => by rw [wI_row (by omega), wI_row d]) (fun m hm => by rw [wI_col hm]; rfl) (rwPush_r ⟨e1, e2⟩ (wI_same _ _ _ _) (fun i => by show wI I1 98 S.rw.1 (nI v) 98 i = _; rw [wI_ap, if_pos rfl]))) ((Lo.w (by decide)).tr (Lo.w (by decide)))
    · refine bothI (S := S) (S' := S) (r := -5) hw hm (fun Q hQ => ?_) (fun I1 J1 Q hm1 hQ => ?_)
      · refine s_wi_t 1 99 hx (b1 ?_)
        obtain ⟨-, -, -, -, -, -, ⟨e1, e2⟩⟩ := id hc
        unfold vc_X4_append
        rw [e1]
        exact pk_lt S.rw.1 5 (fun z => absurd z hn) (fun _ => b0' (hQ _ _ hc Hi.rf)) rfl rfl (by have := wt.1; omega)
      · refine s_in_t 1 99 hx (b1 ?_)
        obtain ⟨-, -, -, -, -, -, ⟨e1, e2⟩⟩ := id hm1
        rw [e1]
        exact eq5 wt.1 (fun z => absurd z hn) (fun _ => hQ _ _ hm1 Lo.rf)
  · exact bothI (S := S) (S' := S) (r := -3) hw hm (fun Q hQ => s_wi_f 1 99 hx (b0 (hQ _ _ hc Hi.rf))) (fun I1 J1 Q hm1 hQ => s_in_f 1 99 hx (b0 (hQ _ _ hm1 Lo.rf)))
/-- an empty row -/
def rw0 : Rw := (0, fun _ => 0)
theorem rw0_wf {n a b : Nat} : wfR rw0 n a b := ⟨Nat.zero_le _, fun i hi => absurd hi (Nat.not_lt_zero i)⟩
theorem rw0_r {f : Nat → Int32} : rRw rw0 0 f := ⟨rfl, fun i hi => absurd hi (Nat.not_lt_zero i)⟩
theorem p_dismiss (I : MI) (J : MJ) (hI : Inv I J) : vc_X10_dismiss I J (fun r I1 J1 => vc_X11_dismiss I1 J1 (fun q I2 J2 => r = q ∧ Inv I2 J2)) := by
  obtain ⟨S, hw, hc, hm⟩ := hI
  refine bothI (S := S) (S' := S.setTk rw0) (r := nI S.tk.1) ?_ hm (fun Q hQ => ?_) (fun I1 J1 Q hm1 hQ => ?_)
  · obtain ⟨w1, w2, w3, w4, w5, w6, w7⟩ := hw
    exact ⟨w1, w2, w3, w4, w5, rw0_wf, w7⟩
  · obtain ⟨-, -, -, -, -, ⟨e1, e2⟩, -⟩ := id hc
    exact nm_r e1 (nm_e (hQ _ _ (hc.setTk (fun j a b d => wI_row b) (by rw [wI_same]; exact rw0_r)) (Hi.w (by decide))))
  · obtain ⟨-, -, -, -, -, ⟨e1, e2⟩, -⟩ := id hm1
    exact nm_r e1 (nm_e (hQ _ _ (hm1.setTk (fun j a b d => wI_row (by omega)) (fun m hm => wI_col hm) (by rw [wI_same]; exact rw0_r)) (Lo.w (by decide))))
theorem p_wipe (I : MI) (J : MJ) (hI : Inv I J) : vc_X10_wipe I J (fun r I1 J1 => vc_X11_wipe I1 J1 (fun q I2 J2 => r = q ∧ Inv I2 J2)) := by
  obtain ⟨S, hw, hc, hm⟩ := hI
  refine bothI (S := S) (S' := S.setRw rw0) (r := nI S.rw.1) ?_ hm (fun Q hQ => ?_) (fun I1 J1 Q hm1 hQ => ?_)
  · obtain ⟨w1, w2, w3, w4, w5, w6, w7⟩ := hw
    exact ⟨w1, w2, w3, w4, w5, w6, rw0_wf⟩
  · obtain ⟨-, -, -, -, -, -, ⟨e1, e2⟩⟩ := id hc
    exact nm_r e1 (nm_e (hQ _ _ (hc.setRw (fun j a b d => wI_row b) (by rw [wI_same]; exact rw0_r)) (Hi.w (by decide))))
  · obtain ⟨-, -, -, -, -, -, ⟨e1, e2⟩⟩ := id hm1
    exact nm_r e1 (nm_e (hQ _ _ (hm1.setRw (fun j a b d => wI_row (by omega)) (fun m hm => wI_col hm) (by rw [wI_same]; exact rw0_r)) (Lo.w (by decide))))
theorem p_erase (I : MI) (J : MJ) (hI : Inv I J) : vc_X10_erase I J (fun r I1 J1 => vc_X11_erase I1 J1 (fun q I2 J2 => r = q ∧ Inv I2 J2)) := by
  obtain ⟨S, hw, hc, hm⟩ := hI
  refine bothI (S := S) (S' := S.setT rw0) (r := nI S.T.1) ?_ hm (fun Q hQ => ?_) (fun I1 J1 Q hm1 hQ => ?_)
  · obtain ⟨w1, w2, w3, w4, w5, w6, w7⟩ := hw
    exact ⟨w1, w2, w3, w4, rw0_wf, w6, w7⟩
  · obtain ⟨-, -, -, -, ⟨e1, e2⟩, -, -⟩ := id hc
    exact nm_r e1 (nm_e (hQ _ _ (hc.setT (fun j a b d => wI_row b) (by rw [wI_same]; exact rw0_r)) (Hi.w (by decide))))
  · obtain ⟨-, -, -, -, ⟨e1, e2⟩, -, -⟩ := id hm1
    exact nm_r e1 (nm_e (hQ _ _ (hm1.setT (fun j a b d => wI_row (by omega)) (fun m hm => wI_col hm) (by rw [wI_same]; exact rw0_r)) (Lo.w (by decide))))
theorem ch_nar : ∀ v, v < 256 → vp_nar .char ((Int32.toUInt32 (nI v) % 65536).toInt32) = nI v := by decide +kernel
theorem p_write (I : MI) (J : MJ) (hI : Inv I J) (x : Int32) : vc_X10_write x I J (fun r I1 J1 => vc_X11_write x I1 J1 (fun q I2 J2 => r = q ∧ Inv I2 J2)) := by
  obtain ⟨S, hw, hc, hm⟩ := hI
  obtain ⟨-, -, -, -, wt, -, -⟩ := id hw
  by_cases hx : inR x 0 255
  · by_cases hn : S.T.1 < 160
    · obtain ⟨v, v1, v2, rfl⟩ := id hx
      refine bothI (S := S) (S' := S.setT (rwPush S.T v)) (r := nI (S.T.1 + 1)) ?_ hm (fun Q hQ => ?_) (fun I1 J1 Q hm1 hQ => ?_)
      · obtain ⟨w1, w2, w3, w4, w5, w6, w7⟩ := hw
        exact ⟨w1, w2, w3, w4, rwPush_wf w5 hn ⟨v1, v2⟩, w6, w7⟩
      · refine s_wi_t 0 255 hx (b1 ?_)
        obtain ⟨-, -, -, -, ⟨e1, e2⟩, -, -⟩ := id hc
        unfold vc_X6_append
        rw [e1]
        refine pk_lt S.T.1 160 (fun _ => ⟨vp_in_nI hn (by omega), nm_e (nm_e (b1' ?_))⟩) (fun z => by omega)
        rw [nI_clamp (by omega), ch_nar v (by omega), wI_same, show wI I 2 S.T.1 (nI v) 1 1 = I 1 1 from rfl, e1, nI_1]
        exact hQ _ _ (hc.setT (fun j a b d => by rw [wI_row b, wI_row d]) (rwPush_r ⟨e1, e2⟩ (wI_same _ _ _ _) (fun i => by show wI I 2 S.T.1 (nI v) 2 i = _; rw [wI_ap, if_pos rfl]))) ((Hi.w (by decide)).tr (Hi.w (by decide)))
      · refine s_in_t 0 255 hx (b1 ?_)
        obtain ⟨-, -, -, -, ⟨e1, e2⟩, -, -⟩ := id hm1
        rw [e1, show (160 : Int32) = nI 160 from rfl, nI_eq (by omega) (by omega)]
        refine ⟨fun _ => ⟨vp_in_nI hn (by omega), nm_e (nm_e ?_)⟩, fun z => by omega⟩
        rw [nI_clamp (by omega), wI_same, show wI I1 91 S.T.1 (nI v) 87 7 = I1 87 7 from rfl, e1, nI_1]
        exact hQ _ _ (hm1.setT (fun j a b d => by rw [wI_row (by omega), wI_row d]) (fun m hm => by rw [wI_col hm]; rfl) (rwPush_r ⟨e1, e2⟩ (wI_same _ _ _ _) (fun i => by show wI I1 91 S.T.1 (nI v) 91 i = _; rw [wI_ap, if_pos rfl]))) ((Lo.w (by decide)).tr (Lo.w (by decide)))
    · refine bothI (S := S) (S' := S) (r := -5) hw hm (fun Q hQ => ?_) (fun I1 J1 Q hm1 hQ => ?_)
      · refine s_wi_t 0 255 hx (b1 ?_)
        obtain ⟨-, -, -, -, ⟨e1, e2⟩, -, -⟩ := id hc
        unfold vc_X6_append
        rw [e1]
        exact pk_lt S.T.1 160 (fun z => absurd z hn) (fun _ => b0' (hQ _ _ hc Hi.rf)) rfl rfl (by have := wt.1; omega)
      · refine s_in_t 0 255 hx (b1 ?_)
        obtain ⟨-, -, -, -, ⟨e1, e2⟩, -, -⟩ := id hm1
        have := wt.1
        rw [e1, show (160 : Int32) = nI 160 from rfl, nI_eq (by omega) (by omega)]
        exact ⟨fun z => by omega, fun _ => hQ _ _ hm1 Lo.rf⟩
  · exact bothI (S := S) (S' := S) (r := -3) hw hm (fun Q hQ => s_wi_f 0 255 hx (b0 (hQ _ _ hc Hi.rf))) (fun I1 J1 Q hm1 hQ => s_in_f 0 255 hx (b0 (hQ _ _ hm1 Lo.rf)))
