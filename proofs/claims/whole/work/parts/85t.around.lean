/-! ===== ways around bandits: both sides ===== -/
theorem c_fillI {a0 n0 : Nat} {v : Int32} {I : MI} {J : MJ} (hn : n0 < 2 ^ 31) {Q : MI → MJ → Prop} (q : ∀ I' : MI, (∀ j, j ≠ a0 → I' j = I j) → (∀ p, p < n0 → I' a0 p = v) → Q I' J) : vc_J7_fill_53178 a0 n0 v I J Q := by
  have loop : ∀ d i (I' : MI), i + d = n0 → (∀ j, j ≠ a0 → I' j = I j) → (∀ p, p < i → I' a0 p = v) → vc_J7_fill_53178_L5 a0 n0 Q (d + 1) v (nI i) (nI n0) I' J := by
    intro d
    induction d with
    | zero =>
      intro i I' hi k1 k2
      show vc_J7_fill_53178_L5s a0 n0 Q (vc_J7_fill_53178_L5 a0 n0 Q 0) _ _ _ I' J
      unfold vc_J7_fill_53178_L5s
      exact pk_le n0 i (fun _ => q I' k1 (fun p hp => k2 p (by omega))) (fun z => by omega)
    | succ d ih =>
      intro i I' hi k1 k2
      show vc_J7_fill_53178_L5s a0 n0 Q (vc_J7_fill_53178_L5 a0 n0 Q (d + 1)) _ _ _ I' J
      unfold vc_J7_fill_53178_L5s
      refine pk_le n0 i (fun z => by omega) (fun _ => ⟨vp_in_nI (by omega) hn, nm_e (nm_r (nI_1 i) (ih (i + 1) _ (by omega) (fun j hj => ?_) (fun p hp => ?_)))⟩)
      · rw [wI_row hj]; exact k1 j hj
      · rw [nI_clamp (by omega), wI_ap, if_pos rfl]
        by_cases e : p = i
        · rw [if_pos e]
        · rw [if_neg e]; exact k2 p (by omega)
  exact nm_e ⟨n0 + 1, loop n0 0 I (by omega) (fun _ _ => rfl) (fun p hp => absurd hp (Nat.not_lt_zero p))⟩
theorem c_fillJ {a0 n0 : Nat} {v : Int64} {I : MI} {J : MJ} (hn : n0 < 2 ^ 31) {Q : MI → MJ → Prop} (q : ∀ J' : MJ, (∀ j, j ≠ a0 → J' j = J j) → (∀ p, p < n0 → J' a0 p = v) → Q I J') : vc_J7_fill_d0a16 a0 n0 v I J Q := by
  have loop : ∀ d i (J' : MJ), i + d = n0 → (∀ j, j ≠ a0 → J' j = J j) → (∀ p, p < i → J' a0 p = v) → vc_J7_fill_d0a16_L6 a0 n0 Q (d + 1) v (nI i) (nI n0) I J' := by
    intro d
    induction d with
    | zero =>
      intro i J' hi k1 k2
      show vc_J7_fill_d0a16_L6s a0 n0 Q (vc_J7_fill_d0a16_L6 a0 n0 Q 0) _ _ _ I J'
      unfold vc_J7_fill_d0a16_L6s
      exact pk_le n0 i (fun _ => q J' k1 (fun p hp => k2 p (by omega))) (fun z => by omega)
    | succ d ih =>
      intro i J' hi k1 k2
      show vc_J7_fill_d0a16_L6s a0 n0 Q (vc_J7_fill_d0a16_L6 a0 n0 Q (d + 1)) _ _ _ I J'
      unfold vc_J7_fill_d0a16_L6s
      refine pk_le n0 i (fun z => by omega) (fun _ => ⟨vp_in_nI (by omega) hn, nm_e (nm_r (nI_1 i) (ih (i + 1) _ (by omega) (fun j hj => ?_) (fun p hp => ?_)))⟩)
      · rw [wJ_row hj]; exact k1 j hj
      · rw [nI_clamp (by omega), wJ_ap, if_pos rfl]
        by_cases e : p = i
        · rw [if_pos e]
        · rw [if_neg e]; exact k2 p (by omega)
  exact nm_e ⟨n0 + 1, loop n0 0 J (by omega) (fun _ _ => rfl) (fun p hp => absurd hp (Nat.not_lt_zero p))⟩
section Ard
variable {C : Cty} {I : MI} {J : MJ}
theorem c_step (hC : wfC C) (hc : rCc C I J) {r : Nat} (hr : r < C.nr) {Q : Int32 → MI → MJ → Prop} (q : Q (nI (stc C r)) I J) : vc_X9_stepCost (nI r) I J Q := by
  obtain ⟨⟨-, n9, -⟩, -, hro, -, -⟩ := hC
  obtain ⟨-, -, -, -, -, er, -⟩ := hc
  have h1 := hro r hr
  unfold vc_X9_stepCost
  rw [nI_clamp (by omega), (er r hr).2.2.1, (er r hr).2.2.2, show (2 : Int32) = nI 2 from rfl, nI_eq (by omega) (by omega)]
  have v := vp_in_nI (n := r) (N := 9) (by omega) (by omega)
  unfold stc at q
  refine ⟨v, nm_e ⟨v, fun z => by rw [if_neg z] at q; exact q, fun z => ?_⟩⟩
  rw [if_pos z] at q
  rw [show (100 : Int32) = nI 100 from rfl, nI_add]; exact q
theorem m_cost (hC : wfC C) (hm : rCm C I J) {r : Nat} (hr : r < C.nr) {Q : Int32 → MI → MJ → Prop} (q : Q (nI (stc C r)) I J) : vc_X11_costOf (nI r) I J Q := by
  obtain ⟨⟨-, n9, -⟩, -, hro, -, -⟩ := hC
  obtain ⟨-, -, -, -, -, er, -⟩ := hm
  have h1 := hro r hr
  have b20 : ∀ s : Nat, s + C.rh r = stc C r → vc_X11_costOf_B20 Q (nI r) (nI s) I J := by
    intro s e
    unfold vc_X11_costOf_B20
    rw [show (4 : Int32) * nI r + 2 = nI (4 * r + 2) from ix4 r 2, nI_clamp (by omega), (er r hr).2.2.1, nI_add, e]
    exact ⟨vp_in_nI (by omega) (by omega), q⟩
  unfold vc_X11_costOf
  rw [show (4 : Int32) * nI r + 3 = nI (4 * r + 3) from ix4 r 3, nI_clamp (by omega), (er r hr).2.2.2, show (2 : Int32) = nI 2 from rfl, nI_eq (by omega) (by omega)]
  refine ⟨vp_in_nI (by omega) (by omega), fun z => b20 0 ?_, fun z => b20 100 ?_⟩
  · unfold stc; rw [if_neg z]; omega
  · unfold stc; rw [if_pos z]
theorem c_meas (hC : wfC C) (hc : rCc C I J) {to : Nat} (hto : to < C.np) {Q : MI → MJ → Prop} (q : ∀ I' : MI, (∀ j, j ≠ 25 → I' j = I j) → (∀ p, p < 7 → I' 25 p = nI (rdK C (C.np - 1) (inid 1000000 to) p)) → Q I' J) : vc_X9_measure (nI to) I J Q := by
  obtain ⟨⟨n7, n9, -⟩, -, hro, -, -⟩ := id hC
  have hcI : ∀ I' : MI, (∀ j, j ≠ 25 → I' j = I j) → rCc C I' J := fun I' k1 => hc.cg (fun j a b => k1 j (by omega)) rfl
  have road : ∀ (k : Nat) (f : Nat → Nat) (k18 : Int32 → MI → MJ → Prop), (∀ p, f p ≤ 1000000) → (∀ I' : MI, (∀ j, j ≠ 25 → I' j = I j) → (∀ p, p < 7 → I' 25 p = nI (rnd C C.nr f p)) → k18 (nI (k + 1)) I' J) → ∀ d i (I' : MI), i + d = C.nr → (∀ j, j ≠ 25 → I' j = I j) → (∀ p, p < 7 → I' 25 p = nI (rnd C i f p)) → vc_X9_measure_L29 Q k18 (d + 1) (nI k) (nI i) I' J := by
    intro k f k18 hf hk d
    induction d with
    | zero =>
      intro i I' hi k1 k2
      have e : i = C.nr := by omega
      subst e
      show vc_X9_measure_L29s Q k18 (vc_X9_measure_L29 Q k18 0) _ _ I' J
      unfold vc_X9_measure_L29s
      rw [(hcI I' k1).2.1]
      exact pk_le C.nr C.nr (fun _ => nm_r (nI_1 k) (hk I' k1 k2)) (fun z => by omega)
    | succ d ih =>
      intro i I' hi k1 k2
      show vc_X9_measure_L29s Q k18 (vc_X9_measure_L29 Q k18 (d + 1)) _ _ I' J
      unfold vc_X9_measure_L29s
      have hc' := hcI I' k1
      obtain ⟨-, -, -, -, -, er, -⟩ := id hc'
      have hi' : i < C.nr := by omega
      have h1 := hro i hi'
      have hst := stc_b hC hi'
      have v := vp_in_nI (n := i) (N := 9) (by omega) (by omega)
      have va := vp_in_nI (n := C.ra i) (N := 7) (by omega) (by omega)
      have vb := vp_in_nI (n := C.rb i) (N := 7) (by omega) (by omega)
      have fa := Nat.le_trans (rnd_le C i f (C.ra i)) (hf _)
      have fb := Nat.le_trans (rnd_le C i f (C.rb i)) (hf _)
      rw [hc'.2.1]
      refine pk_le C.nr i (fun z => by omega) (fun _ => ⟨v, nm_r (by rw [nI_clamp (by omega)]; exact (er i hi').1) ⟨v, nm_r (by rw [nI_clamp (by omega)]; exact (er i hi').2.1) (c_step hC hc' hi' ⟨va, vb, va, ?_⟩)⟩⟩)
      rw [nI_clamp (by omega), nI_clamp (by omega), k2 (C.ra i) (by omega), k2 (C.rb i) (by omega), nI_add, nI_min (by omega) (by omega)]
      refine fun I13 e13 => ⟨vb, va, vb, ?_⟩
      have g1 : ∀ p, p < 7 → I13 25 p = nI (rx (rnd C i f) (C.ra i) (C.rb i) (stc C i) p) := fun p hp => by rw [e13]; exact wI_set (k2 p hp)
      have ga := Nat.le_trans (rx_le (rnd C i f) (C.ra i) (C.rb i) (stc C i) (C.ra i)) fa
      have gb := Nat.le_trans (rx_le (rnd C i f) (C.ra i) (C.rb i) (stc C i) (C.rb i)) fb
      rw [g1 (C.ra i) (by omega), g1 (C.rb i) (by omega), nI_add, nI_min (by omega) (by omega)]
      refine fun I17 e17 => nm_r (nI_1 i) (ih (i + 1) I17 (by omega) (fun j hj => ?_) (fun p hp => ?_))
      · rw [e17, wI_row hj, e13, wI_row hj]; exact k1 j hj
      · rw [e17]; exact wI_set (g1 p hp)
  have rounds : ∀ d k (I' : MI), 1 + k + d = C.np → (∀ j, j ≠ 25 → I' j = I j) → (∀ p, p < 7 → I' 25 p = nI (rdK C k (inid 1000000 to) p)) → vc_X9_measure_L18 Q (d + 1) (nI (k + 1)) I' J := by
    intro d
    induction d with
    | zero =>
      intro k I' hi k1 k2
      have e : k = C.np - 1 := by omega
      subst e
      show vc_X9_measure_L18s Q (vc_X9_measure_L18 Q 0) _ I' J
      unfold vc_X9_measure_L18s
      rw [(hcI I' k1).1]
      exact pk_le C.np (C.np - 1 + 1) (fun _ => q I' k1 k2) (fun z => by omega)
    | succ d ih =>
      intro k I' hi k1 k2
      show vc_X9_measure_L18s Q (vc_X9_measure_L18 Q (d + 1)) _ I' J
      unfold vc_X9_measure_L18s
      rw [(hcI I' k1).1]
      exact pk_le C.np (k + 1) (fun z => by omega) (fun _ => ⟨C.nr + 1, road (k + 1) _ _ (fun p => rdK_B C _ to k p) (fun I2 f1 f2 => ih (k + 1) I2 (by omega) f1 f2) C.nr 0 I' (by omega) k1 k2⟩)
  unfold vc_X9_measure
  refine c_fillI (by omega) (fun I1 f1 f2 => ⟨vp_in_nI (by omega) (by omega), nm_e ⟨C.np - 1 + 1, rounds (C.np - 1) 0 _ (by omega) (fun j hj => ?_) (fun p hp => ?_)⟩⟩)
  · rw [wI_row hj]; exact f1 j hj
  · rw [nI_clamp (by omega), wI_ap, if_pos rfl]
    show _ = nI (if p = to then 0 else 1000000)
    by_cases e : p = to
    · rw [if_pos e, if_pos e]; rfl
    · rw [if_neg e, if_neg e]; exact f2 p hp
theorem m_dist (hC : wfC C) (hm : rCm C I J) {to : Nat} (hto : to < C.np) {Q : MI → MJ → Prop} (q : ∀ I' : MI, (∀ j, j ≠ 105 → I' j = I j) → (∀ p, p < 7 → I' 105 p = nI (rdK C 7 (inid 99999 to) p)) → Q I' J) : vc_X11_layDist (nI to) I J Q := by
  obtain ⟨⟨n7, n9, -⟩, -, hro, -, -⟩ := id hC
  have hmI : ∀ I' : MI, (∀ j, j ≠ 105 → I' j = I j) → rCm C I' J := fun I' k1 => hm.cg (by rw [k1 87 (by decide)]) (by rw [k1 87 (by decide)]) (by rw [k1 87 (by decide)]) (fun j a b => k1 j (by omega)) rfl
  have road : ∀ (k : Nat) (f : Nat → Nat) (k34 : Int32 → MI → MJ → Prop), (∀ p, f p ≤ 99999) → (∀ I' : MI, (∀ j, j ≠ 105 → I' j = I j) → (∀ p, p < 7 → I' 105 p = nI (rnd C C.nr f p)) → k34 (nI (k + 1)) I' J) → ∀ d i (I' : MI), i + d = C.nr → (∀ j, j ≠ 105 → I' j = I j) → (∀ p, p < 7 → I' 105 p = nI (rnd C i f p)) → vc_X11_layDist_L42 Q k34 (d + 1) (nI k) (nI i) I' J := by
    intro k f k34 hf hk d
    induction d with
    | zero =>
      intro i I' hi k1 k2
      have e : i = C.nr := by omega
      subst e
      show vc_X11_layDist_L42s Q k34 (vc_X11_layDist_L42 Q k34 0) _ _ I' J
      unfold vc_X11_layDist_L42s
      rw [(hmI I' k1).2.1]
      exact pk_le C.nr C.nr (fun _ => nm_r (nI_1 k) (hk I' k1 k2)) (fun z => by omega)
    | succ d ih =>
      intro i I' hi k1 k2
      show vc_X11_layDist_L42s Q k34 (vc_X11_layDist_L42 Q k34 (d + 1)) _ _ I' J
      unfold vc_X11_layDist_L42s
      have hm' := hmI I' k1
      obtain ⟨-, -, -, -, -, er, -⟩ := id hm'
      have hi' : i < C.nr := by omega
      have h1 := hro i hi'
      have hst := stc_b hC hi'
      have va := vp_in_nI (n := C.ra i) (N := 7) (by omega) (by omega)
      have vb := vp_in_nI (n := C.rb i) (N := 7) (by omega) (by omega)
      have fa := Nat.le_trans (rnd_le C i f (C.ra i)) (hf _)
      have fb := Nat.le_trans (rnd_le C i f (C.rb i)) (hf _)
      have b125 : ∀ v : Nat, v = (if rnd C i f (C.rb i) + stc C i < rnd C i f (C.ra i) then rnd C i f (C.rb i) + stc C i else rnd C i f (C.ra i)) → vc_X11_layDist_B125 Q k34 (vc_X11_layDist_L42 Q k34 (d + 1)) (nI k) (nI i) (nI (stc C i)) (nI (C.ra i)) (nI (C.rb i)) (nI (C.ra i)) (nI v) I' J := by
        intro v ev
        unfold vc_X11_layDist_B125
        rw [nI_clamp (by omega), nI_clamp (by omega)]
        refine ⟨va, fun I8 e8 => ⟨va, vb, ?_⟩⟩
        have g1 : ∀ p, p < 7 → I8 105 p = nI (rx (rnd C i f) (C.ra i) (C.rb i) (stc C i) p) := fun p hp => by rw [e8, ev]; exact wI_set (k2 p hp)
        have ga := Nat.le_trans (rx_le (rnd C i f) (C.ra i) (C.rb i) (stc C i) (C.ra i)) fa
        have gb := Nat.le_trans (rx_le (rnd C i f) (C.ra i) (C.rb i) (stc C i) (C.rb i)) fb
        rw [g1 (C.ra i) (by omega), g1 (C.rb i) (by omega), nI_add]
        have b172 : ∀ u : Nat, u = (if rx (rnd C i f) (C.ra i) (C.rb i) (stc C i) (C.ra i) + stc C i < rx (rnd C i f) (C.ra i) (C.rb i) (stc C i) (C.rb i) then rx (rnd C i f) (C.ra i) (C.rb i) (stc C i) (C.ra i) + stc C i else rx (rnd C i f) (C.ra i) (C.rb i) (stc C i) (C.rb i)) → vc_X11_layDist_B172 Q k34 (vc_X11_layDist_L42 Q k34 (d + 1)) (nI k) (nI i) (nI (C.rb i)) (nI u) I8 J := by
          intro u eu
          unfold vc_X11_layDist_B172
          rw [nI_clamp (by omega)]
          refine ⟨vb, fun I5 e5 => nm_r (nI_1 i) (ih (i + 1) I5 (by omega) (fun j hj => ?_) (fun p hp => ?_))⟩
          · rw [e5, wI_row hj, e8, wI_row hj]; exact k1 j hj
          · rw [e5, eu]; exact wI_set (g1 p hp)
        refine pk_le _ _ (fun z => ⟨vb, b172 _ ?_⟩) (fun z => ⟨va, b172 _ ?_⟩)
        · rw [if_neg (by omega)]
        · rw [if_pos z]
      rw [hm'.2.1]
      refine pk_le C.nr i (fun z => by omega) (fun _ => m_cost hC hm' hi' ⟨?_, nm_r (e' := nI (C.ra i)) ?_ ⟨?_, nm_r (e' := nI (C.rb i)) ?_ ⟨vb, va, ?_⟩⟩⟩)
      · rw [show (4 : Int32) * nI i = nI (4 * i) from pk_mul 4 i]; exact vp_in_nI (by omega) (by omega)
      · rw [show (4 : Int32) * nI i = nI (4 * i) from pk_mul 4 i, nI_clamp (by omega)]; exact (er i hi').1
      · rw [show (4 : Int32) * nI i + 1 = nI (4 * i + 1) from ix4 i 1]; exact vp_in_nI (by omega) (by omega)
      · rw [show (4 : Int32) * nI i + 1 = nI (4 * i + 1) from ix4 i 1, nI_clamp (by omega)]; exact (er i hi').2.1
      · rw [nI_clamp (by omega), nI_clamp (by omega), k2 (C.ra i) (by omega), k2 (C.rb i) (by omega), nI_add]
        refine pk_le _ _ (fun z => ⟨va, b125 _ ?_⟩) (fun z => ⟨vb, b125 _ ?_⟩)
        · rw [if_neg (by omega)]
        · rw [if_pos z]
  have rounds : ∀ d k (I' : MI), k + d = 7 → (∀ j, j ≠ 105 → I' j = I j) → (∀ p, p < 7 → I' 105 p = nI (rdK C k (inid 99999 to) p)) → vc_X11_layDist_L34 Q (d + 1) (nI k) I' J := by
    intro d
    induction d with
    | zero =>
      intro k I' hi k1 k2
      have e : k = 7 := by omega
      subst e
      show vc_X11_layDist_L34s Q (vc_X11_layDist_L34 Q 0) _ I' J
      unfold vc_X11_layDist_L34s
      exact pk_le 7 7 (fun _ => q I' k1 k2) (fun z => by omega)
    | succ d ih =>
      intro k I' hi k1 k2
      show vc_X11_layDist_L34s Q (vc_X11_layDist_L34 Q (d + 1)) _ I' J
      unfold vc_X11_layDist_L34s
      exact pk_le 7 k (fun z => by omega) (fun _ => ⟨C.nr + 1, road k _ _ (fun p => rdK_B C _ to k p) (fun I2 f1 f2 => ih (k + 1) I2 (by omega) f1 f2) C.nr 0 I' (by omega) k1 k2⟩)
  have lay : ∀ d i (I' : MI), i + d = 7 → (∀ j, j ≠ 105 → I' j = I j) → (∀ p, p < i → I' 105 p = nI (inid 99999 to p)) → vc_X11_layDist_L2 Q (d + 1) (nI to) (nI i) I' J := by
    intro d
    induction d with
    | zero =>
      intro i I' hi k1 k2
      show vc_X11_layDist_L2s Q (vc_X11_layDist_L2 Q 0) _ _ I' J
      unfold vc_X11_layDist_L2s
      exact pk_le 7 i (fun _ => ⟨8, rounds 7 0 I' rfl k1 (fun p hp => k2 p (by omega))⟩) (fun z => by omega)
    | succ d ih =>
      intro i I' hi k1 k2
      show vc_X11_layDist_L2s Q (vc_X11_layDist_L2 Q (d + 1)) _ _ I' J
      unfold vc_X11_layDist_L2s
      have b25 : ∀ v : Nat, v = inid 99999 to i → vc_X11_layDist_B25 Q (vc_X11_layDist_L2 Q (d + 1)) (nI to) (nI i) (nI i) (nI v) I' J := by
        intro v ev
        unfold vc_X11_layDist_B25
        rw [nI_clamp (by omega)]
        refine ⟨vp_in_nI (by omega) (by omega), nm_e (nm_r (nI_1 i) (ih (i + 1) _ (by omega) (fun j hj => ?_) (fun p hp => ?_)))⟩
        · rw [wI_row hj]; exact k1 j hj
        · rw [wI_ap, if_pos rfl]
          by_cases e : p = i
          · rw [if_pos e, e, ev]
          · rw [if_neg e]; exact k2 p (by omega)
      rw [nI_eq (by omega) (by omega)]
      refine pk_le 7 i (fun z => by omega) (fun _ => ⟨fun z => b25 99999 ?_, fun z => b25 0 ?_⟩)
      · unfold inid; rw [if_neg z]
      · unfold inid; rw [if_pos z]
  exact ⟨8, lay 7 0 I rfl (fun _ _ => rfl) (fun p hp => absurd hp (Nat.not_lt_zero p))⟩
/-- a road with which a best way begins -/
def frP (C : Cty) (f : Nat → Nat) (a r : Nat) : Bool := decide ((C.ra r = a ∨ C.rb r = a) ∧ f (far C r a) + stc C r = f a)
theorem frP_t {f : Nat → Nat} {a r : Nat} (h1 : tch C r a) (h2 : f (far C r a) + stc C r = f a) : frP C f a r = true := decide_eq_true ⟨h1, h2⟩
theorem frP_f {f : Nat → Nat} {a r : Nat} (h : ¬ (tch C r a ∧ f (far C r a) + stc C r = f a)) : frP C f a r = false := decide_eq_false h
theorem ls_t {P : Nat → Bool} {d k : Nat} (h : P k = true) : lsM_ P (d + 1) k = nI k := by
  show (if P k then _ else _) = _
  rw [h]; rfl
theorem ls_f {P : Nat → Bool} {d k : Nat} (h : P k = false) : lsM_ P (d + 1) k = lsM_ P d (k + 1) := by
  show (if P k then _ else _) = _
  rw [h]; rfl
theorem c_frst (hC : wfC C) (hc : rCc C I J) {a : Nat} (ha : a < C.np) {f : Nat → Nat} (hf : ∀ p, f p ≤ 1000000) (e25 : ∀ p, p < 7 → I 25 p = nI (f p)) {Q : Int32 → MI → MJ → Prop} (q : Q (lsM_ (frP C f a) C.nr 0) I J) : vc_X9_firstRoad (nI a) I J Q := by
  obtain ⟨⟨n7, n9, -⟩, -, hro, -, -⟩ := id hC
  have loop : ∀ d i, i + d = C.nr → Q (lsM_ (frP C f a) d i) I J → vc_X9_firstRoad_L2 Q (d + 1) (nI a) (nI i) I J := by
    intro d
    induction d with
    | zero =>
      intro i hi q
      show vc_X9_firstRoad_L2s Q (vc_X9_firstRoad_L2 Q 0) _ _ I J
      unfold vc_X9_firstRoad_L2s
      rw [hc.2.1]
      exact pk_le C.nr i (fun _ => q) (fun z => by omega)
    | succ d ih =>
      intro i hi q
      have hi' : i < C.nr := by omega
      have h1 := hro i hi'
      have hst := stc_b hC hi'
      have hfa := hf a
      have hfr := hf (far C i a)
      have hq7 : far C i a < 7 := by unfold far; split <;> omega
      show vc_X9_firstRoad_L2s Q (vc_X9_firstRoad_L2 Q (d + 1)) _ _ I J
      unfold vc_X9_firstRoad_L2s
      rw [hc.2.1]
      refine pk_le C.nr i (fun z => by omega) (fun _ => ?_)
      by_cases ht : tch C i a
      · refine c_tch_t hC hc hi' (by omega) ht (b1' (c_far hC hc hi' (by omega) ⟨vp_in_nI hq7 (by omega), c_step hC hc hi' ⟨vp_in_nI (by omega) (by omega), ?_⟩⟩))
        rw [nI_clamp (by omega), nI_clamp (by omega), e25 _ hq7, e25 a (by omega), nI_add, nI_eq (by omega) (by omega)]
        refine ⟨fun z => nm_r (nI_1 i) (ih (i + 1) (by omega) ?_), fun z => ?_⟩
        · rw [ls_f (frP_f (fun w => z w.2))] at q; exact q
        · rw [ls_t (frP_t ht z)] at q; exact q
      · refine c_tch_f hC hc hi' (by omega) ht (b0' (nm_r (nI_1 i) (ih (i + 1) (by omega) ?_)))
        rw [ls_f (frP_f (fun w => ht w.1))] at q; exact q
  exact ⟨C.nr + 1, loop C.nr 0 (by omega) q⟩
theorem m_frst (hC : wfC C) (hm : rCm C I J) {a b : Nat} (ha : a < C.np) (hb : b < C.np) {f g : Nat → Nat} (hg : ∀ p, g p ≤ 99999) (h0 : f b = 0) (htw : twB 20000 f g) (hfa : f a < 1000000) (e105 : ∀ p, p < 7 → I 105 p = nI (g p)) {Q : Int32 → MI → MJ → Prop} (q : Q (lsM_ (frP C f a) C.nr 0) I J) : ∃ n, vc_X11_around_L84 Q n (nI a) (nI b) 0 I J := by
  obtain ⟨⟨n7, n9, -⟩, -, hro, -, -⟩ := id hC
  have loop : ∀ d i, i + d = C.nr → Q (lsM_ (frP C f a) d i) I J → vc_X11_around_L84 Q (d + 1) (nI a) (nI b) (nI i) I J := by
    intro d
    induction d with
    | zero =>
      intro i hi q
      show vc_X11_around_L84s Q (vc_X11_around_L84 Q 0) _ _ _ I J
      unfold vc_X11_around_L84s
      rw [hm.2.1]
      exact pk_le C.nr i (fun _ => q) (fun z => by omega)
    | succ d ih =>
      intro i hi q
      have hi' : i < C.nr := by omega
      have h1 := hro i hi'
      have hst := stc_b hC hi'
      have hta := htw a
      have htf := htw (far C i a)
      have hq7 : far C i a < 7 := by unfold far; split <;> omega
      show vc_X11_around_L84s Q (vc_X11_around_L84 Q (d + 1)) _ _ _ I J
      unfold vc_X11_around_L84s
      rw [hm.2.1]
      refine pk_le C.nr i (fun z => by omega) (fun _ => ?_)
      by_cases ht : tch C i a
      · refine m_end_t hC hm hi' (by omega) ht (pk_eq a b (fun z => ?_) (fun z => ⟨fun z1 => absurd z1 (nI_ne_m1 (by omega)), fun _ => ⟨vp_in_nI hq7 (by omega), m_cost hC hm hi' ⟨vp_in_nI (by omega) (by omega), ?_⟩⟩⟩))
        · refine nm_r (nI_1 i) (ih (i + 1) (by omega) ?_)
          subst z
          rw [ls_f (frP_f (fun w => by have := w.2; omega))] at q; exact q
        · rw [nI_clamp (by omega), nI_clamp (by omega), e105 _ hq7, e105 a (by omega), nI_add, nI_eq (by omega) (by omega)]
          refine ⟨fun z => nm_r (nI_1 i) (ih (i + 1) (by omega) ?_), fun z => ?_⟩
          · rw [ls_f (frP_f (fun w => by have := w.2; omega))] at q; exact q
          · rw [ls_t (frP_t ht (by omega))] at q; exact q
      · refine m_end_f hC hm hi' (by omega) ht (pk_eq a b (fun z => nm_r (nI_1 i) (ih (i + 1) (by omega) ?_)) (fun z => ⟨fun _ => nm_r (nI_1 i) (ih (i + 1) (by omega) ?_), fun z1 => absurd rfl z1⟩))
        · rw [ls_f (frP_f (fun w => ht w.1))] at q; exact q
        · rw [ls_f (frP_f (fun w => ht w.1))] at q; exact q
  exact ⟨C.nr + 1, loop C.nr 0 (by omega) q⟩
end Ard
theorem p_around (I : MI) (J : MJ) (hI : Inv I J) (x y z : Int32) : vc_X10_around x y z I J (fun r I1 J1 => vc_X11_around x y z I1 J1 (fun q I2 J2 => r = q ∧ Inv I2 J2)) := by
  obtain ⟨S, hw, hc, hm⟩ := hI
  by_cases hx : inN x S.C.np
  rotate_left
  · exact bothQ (S := S) (r := -2) hw hc hm (fun Q hQ => c_place_f hw hc hx (b0' hQ)) (fun I1 J1 Q hm1 hQ => m_place_f hw hm1 hx (b0' hQ))
  by_cases hy : inN y S.C.np
  rotate_left
  · exact bothQ (S := S) (r := -2) hw hc hm (fun Q hQ => c_place_t hw hc hx (b1' (c_place_f hw hc hy (b0 hQ)))) (fun I1 J1 Q hm1 hQ => m_place_t hw hm1 hx (b1' (m_place_f hw hm1 hy (b0 hQ))))
  by_cases hz : inR z 0 2
  rotate_left
  · exact bothQ (S := S) (r := -3) hw hc hm (fun Q hQ => c_place_t hw hc hx (b1' (c_place_t hw hc hy (b1 (s_wi_f 0 2 hz (b0 hQ)))))) (fun I1 J1 Q hm1 hQ => m_place_t hw hm1 hx (b1' (m_place_t hw hm1 hy (b1 (s_in_f 0 2 hz (b0 hQ))))))
  obtain ⟨a, ha, rfl⟩ := id hx
  obtain ⟨b, hb, rfl⟩ := id hy
  obtain ⟨w, -, hw2, rfl⟩ := id hz
  have hC := hw.1
  have n7 := hw.n4.1
  have hfix : rdK S.C (S.C.np - 1) (inid 1000000 b) = rdK S.C 7 (inid 1000000 b) := by
    have := rdK_fix hC (B := 1000000) hb (7 - (S.C.np - 1))
    rw [show S.C.np - 1 + (7 - (S.C.np - 1)) = 7 by omega] at this
    exact this.symm
  generalize hf : rdK S.C 7 (inid 1000000 b) = f at hfix
  generalize hg : rdK S.C 7 (inid 99999 b) = g
  have fB : ∀ p, f p ≤ 1000000 := fun p => by rw [← hf]; exact rdK_B _ _ _ _ _
  have gB : ∀ p, g p ≤ 99999 := fun p => by rw [← hg]; exact rdK_B _ _ _ _ _
  have htw : twB 20000 f g := fun p => by
    have := tw_rdK (to := b) hC 7 (Nat.le_refl _) p
    rw [hf, hg] at this
    omega
  have h0 : f b = 0 := by rw [← hf]; exact (sup_rdK hC 7).1
  have fa := fB a
  have ga := gB a
  have ta := htw a
  refine bothI (S := S) (S' := S) (r := if f a < 1000000 then (if w = 2 then lsM_ (frP S.C f a) S.C.nr 0 else if w = 0 then nI (f a / 100) else nI (f a % 100)) else -1) hw hm (fun Q hQ => c_place_t hw hc hx (b1' (c_place_t hw hc hy (b1 (s_wi_t 0 2 hz (b1 (c_meas hC hc.1 hb (fun I' f1 f2 => ?_)))))))) (fun I1 J1 Q hm1 hQ => m_place_t hw hm1 hx (b1' (m_place_t hw hm1 hy (b1 (s_in_t 0 2 hz (b1 (m_dist hC hm1.1 hb (fun I' f1 f2 => ?_))))))))
  · rw [hfix] at f2
    have hc' : Cp S I' J := hc.cg (fun j _ _ _ _ _ _ h => f1 j h) (by rw [f1 1 (by decide)]) rfl
    have hQ := hQ I' J hc' ⟨fun j hj => f1 j (by omega), fun _ _ => rfl⟩
    have va := vp_in_nI (n := a) (N := 7) (by omega) (by omega)
    unfold vc_X9_leadFrom
    rw [nI_clamp (by omega), f2 a (by omega)]
    refine ⟨va, pk_le 1000000 (f a) (fun z1 => b0 ?_) (fun z1 => b1 ?_)⟩
    · rw [if_neg (by omega)] at hQ; exact hQ
    · rw [if_pos z1] at hQ
      rw [show (2 : Int32) = nI 2 from rfl, show (0 : Int32) = nI 0 from rfl, nI_eq (by omega) (by omega), nI_eq (by omega) (by omega)]
      refine ⟨fun z2 => ⟨fun z3 => ?_, fun z3 => ?_⟩, fun z2 => ?_⟩
      · rw [if_neg z2, if_neg z3] at hQ
        unfold vc_X9_hoursFrom
        rw [nI_clamp (by omega), f2 a (by omega), show (100 : Int32) = nI 100 from rfl, pk_rem (by omega) (by omega) (by omega)]
        exact ⟨va, hQ⟩
      · rw [if_neg z2, if_pos z3] at hQ
        unfold vc_X9_banditsFrom
        rw [nI_clamp (by omega), f2 a (by omega), show (100 : Int32) = nI 100 from rfl, pk_div (by omega) (by omega) (by omega)]
        exact ⟨va, hQ⟩
      · rw [if_pos z2] at hQ
        exact c_frst hC hc'.1 ha fB f2 hQ
  · rw [hg] at f2
    have hm' : Mp S I' J1 := hm1.cg (fun j p1 p2 _ => f1 j (by omega)) (fun m _ => by rw [f1 87 (by decide)]) rfl
    have hQ := hQ I' J1 hm' ⟨fun j hj => f1 j (by omega), fun _ _ => rfl⟩
    have va := vp_in_nI (n := a) (N := 7) (by omega) (by omega)
    rw [nI_clamp (by omega), f2 a (by omega)]
    refine ⟨va, pk_lt (g a) 99999 (fun z1 => ?_) (fun z1 => ?_)⟩
    · rw [if_pos (by omega)] at hQ
      rw [show (0 : Int32) = nI 0 from rfl, nI_eq (by omega) (by omega)]
      refine pk_le 2 w (fun z2 => ?_) (fun z2 => ⟨fun z3 => ⟨va, ?_⟩, fun z3 => ⟨va, ?_⟩⟩)
      · rw [if_pos (by omega)] at hQ
        exact m_frst hC hm'.1 ha hb gB h0 htw (by omega) f2 hQ
      · rw [if_neg (by omega), if_neg z3] at hQ
        rw [show (100 : Int32) = nI 100 from rfl, pk_rem (by omega) (by omega) (by omega), show g a = f a by omega]
        exact hQ
      · rw [if_neg (by omega), if_pos z3] at hQ
        rw [show (100 : Int32) = nI 100 from rfl, pk_div (by omega) (by omega) (by omega), show g a = f a by omega]
        exact hQ
    · rw [if_neg (by omega)] at hQ; exact hQ
