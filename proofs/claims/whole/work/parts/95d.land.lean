/-! ===== land ===== -/
def D0 (C : Cty) : Sd := (fun c => if c < C.nc then C.cs c else 0, fun _ => 0, fun _ => 0, fun _ => 0, 0)
theorem no_u {b : Nat} {D : Sd} (h : ([] : List Sd)[b]? = some D) : False := by simp at h
abbrev stN (C : Cty) : ST := (C, D0 C, [], fun _ => none, rw0, rw0, rw0)
theorem stN_wf {C : Cty} (hC : wfC C) : wf (stN C) := by
  refine ⟨hC, ⟨fun c hc => ?_, fun c _ => ⟨Nat.zero_le _, Nat.zero_le _⟩, fun p _ => Nat.zero_le _, fun c _ _ => rfl, fun p _ _ => rfl⟩, ⟨Nat.zero_le _, fun b D h => (no_u h).elim⟩, fun k D _ h => by simp at h, rw0_wf, rw0_wf, rw0_wf⟩
  show (if c < C.nc then C.cs c else 0) < C.np
  rw [if_pos hc]
  exact (hC.2.2.2.1 c hc).2.1
theorem nar0 : vp_nar .boolean 0 = 0 := by decide
section Beg
variable {C : Cty} {I : MI} {J : MJ} {Q : MI → MJ → Prop}
theorem c_sbeg (hC : wfC C) (hc : rCc C I J) (q : ∀ I' : MI, rSc (D0 C) I' 32 → (∀ j, (j < 32 ∨ 36 < j) → I' j = I j) → Q I' J) : vc_X7_begin 32 I J Q := by
  obtain ⟨⟨b1, b2, b3⟩, -⟩ := hC
  obtain ⟨c1, c2, c3, c4, cp, cr, cc⟩ := hc
  have loop : ∀ d c (I1 : MI), c + d = 4 → (∀ j, (j < 33 ∨ 35 < j) → I1 j = I j) → (∀ i, i < c → I1 33 i = nI ((D0 C).pl i) ∧ I1 34 i = 0 ∧ I1 35 i = 0) → vc_X7_begin_L2 32 Q (d + 1) (nI c) I1 J := by
    intro d
    induction d with
    | zero =>
      intro c I1 hcd k1 k2
      show vc_X7_begin_L2s 32 Q (vc_X7_begin_L2 32 Q 0) (nI c) I1 J
      unfold vc_X7_begin_L2s
      refine pk_le 4 c (fun _ => c_fillI (by decide) (fun I2 f1 f2 => nm_e (q _ ⟨fun i hi => ?_, fun p hp => ?_, wI_same _ _ _ _⟩ (fun j hj => ?_)))) (fun z => by omega)
      · obtain ⟨a, b, d⟩ := k2 i (by omega)
        refine ⟨?_, ?_, ?_⟩
        · rw [wI_row (by decide), f1 _ (by decide)]; exact a
        · rw [wI_row (by decide), f1 _ (by decide)]; exact b
        · rw [wI_row (by decide), f1 _ (by decide)]; exact d
      · rw [wI_row (by decide)]; exact f2 p hp
      · rw [wI_row (by omega), f1 j (by omega)]; exact k1 j (by omega)
    | succ d ih =>
      intro c I1 hcd k1 k2
      show vc_X7_begin_L2s 32 Q (vc_X7_begin_L2 32 Q (d + 1)) (nI c) I1 J
      unfold vc_X7_begin_L2s
      have v : vp_in (nI c) 4 := vp_in_nI (by omega) (by decide)
      have st : ∀ x : Int32, x = nI ((D0 C).pl c) → vc_X7_begin_B30 32 Q (vc_X7_begin_L2 32 Q (d + 1)) (nI c) (nI c) x I1 J := by
        intro x hx
        unfold vc_X7_begin_B30
        rw [nI_clamp (by omega)]
        refine ⟨v, nm_e ⟨v, nm_e ⟨v, nm_e (nm_r (nI_1 c) (ih (c + 1) _ (by omega) (fun j hj => ?_) (fun i hi => ?_)))⟩⟩⟩
        · rw [wI_row (by omega), wI_row (by omega), wI_row (by omega)]; exact k1 j hj
        · show wI (wI (wI I1 33 c x) 34 c 0) 35 c 0 33 i = nI ((D0 C).pl i) ∧ wI (wI (wI I1 33 c x) 34 c 0) 35 c 0 34 i = 0 ∧ wI (wI (wI I1 33 c x) 34 c 0) 35 c 0 35 i = 0
          rw [wI_row (j := 33) (by decide), wI_row (j := 33) (by decide), wI_row (j := 34) (by decide)]
          by_cases e : i = c
          · rw [e, wI_same, wI_same, wI_same]; exact ⟨hx, rfl, rfl⟩
          · rw [wI_col e, wI_col e, wI_col e, wI_row (j := 34) (by decide), wI_row (j := 35) (by decide), wI_row (j := 35) (by decide)]; exact k2 i (by omega)
      refine pk_le 4 c (fun z => by omega) (fun _ => ?_)
      refine pk_le C.nc c (fun z => st _ ?_) (fun z => ⟨v, st _ ?_⟩) (by rw [k1 5 (by decide)]; exact c3)
      · show (0 : Int32) = nI (if c < C.nc then C.cs c else 0)
        rw [if_neg (by omega)]; rfl
      · show _ = nI (if c < C.nc then C.cs c else 0)
        rw [if_pos z, nI_clamp (by omega), k1 12 (by decide)]
        exact (cc c z).2.1
  exact ⟨5, loop 4 0 I rfl (fun _ _ => rfl) (fun i hi => absurd hi (Nat.not_lt_zero i))⟩
theorem c_beg (hC : wfC C) (hc : rCc C I J) (q : ∀ I' : MI, rSc (D0 C) I' 32 → I' 14 5 = 0 → I' 17 0 = 0 → I' 17 1 = 0 → (∀ j, j ≠ 14 → j ≠ 17 → (j < 32 ∨ 36 < j) → I' j = I j) → (∀ m, m ≠ 5 → I' 14 m = I 14 m) → Q I' J) : vc_X0_begin I J Q := by
  unfold vc_X0_begin
  refine c_sbeg hC hc (fun I1 r f => nm_e ⟨3, ?_⟩)
  show vc_X0_begin_L15s Q (vc_X0_begin_L15 Q 2) 0 _ J
  unfold vc_X0_begin_L15s
  refine pk_le 2 0 (fun z => by omega) (fun _ => ⟨pk_in 0 2 (by decide), nm_r (e' := wI (wI I1 14 5 0) 17 0 0) (by rw [nar0]; rfl) (nm_r (e' := nI 1) rfl ?_)⟩)
  show vc_X0_begin_L15s Q (vc_X0_begin_L15 Q 1) (nI 1) _ J
  unfold vc_X0_begin_L15s
  refine pk_le 2 1 (fun z => by omega) (fun _ => ⟨pk_in 1 2 (by decide), nm_r (e' := wI (wI (wI I1 14 5 0) 17 0 0) 17 1 0) (by rw [nar0]; rfl) (nm_r (e' := nI 2) rfl ?_)⟩)
  show vc_X0_begin_L15s Q (vc_X0_begin_L15 Q 0) (nI 2) _ J
  unfold vc_X0_begin_L15s
  refine pk_le 2 2 (fun _ => q _ (r.cg (fun j a b => ?_)) ?_ ?_ (wI_same _ _ _ _) (fun j a b c => ?_) (fun m hm => ?_)) (fun z => by omega)
  · rw [wI_row (by omega), wI_row (by omega), wI_row (by omega)]
  · rw [wI_row (by decide), wI_row (by decide), wI_same]
  · rw [wI_col (by decide), wI_same]
  · rw [wI_row b, wI_row b, wI_row a]; exact f j c
  · rw [wI_row (by decide), wI_row (by decide), wI_col hm, f 14 (by decide)]
theorem m_beg (hC : wfC C) (hm : rCm C I J) (q : ∀ I' : MI, rSm (D0 C) (I' 93) 0 → I' 95 0 = 0 → I' 95 1 = 0 → I' 87 24 = 0 → I' 87 26 = 0 → I' 87 28 = 0 → (∀ j, j ≠ 87 → j ≠ 93 → j ≠ 95 → I' j = I j) → (∀ m, m ≠ 24 → m ≠ 26 → m ≠ 28 → I' 87 m = I 87 m) → Q I' J) : vc_X11_begin I J Q := by
  obtain ⟨⟨b1, b2, b3⟩, -⟩ := hC
  obtain ⟨c1, c2, c3, c4, cp, cr, cc⟩ := hm
  have two : ∀ d c (I1 : MI), c + d = C.nc → (∀ j, j ≠ 93 → I1 j = I j) → (∀ m, m < 20 → I1 93 m = if m < c then nI (C.cs m) else 0) → vc_X11_begin_L23 Q (d + 1) (nI c) I1 J := by
    intro d
    induction d with
    | zero =>
      intro c I1 hcd k1 k2
      show vc_X11_begin_L23s Q (vc_X11_begin_L23 Q 0) (nI c) I1 J
      unfold vc_X11_begin_L23s
      refine pk_le C.nc c (fun _ => ⟨pk_in 0 2 (by decide), nm_r (e' := wI I1 95 0 0) (by rw [nar0]; rfl) ⟨pk_in 1 2 (by decide), nm_r (e' := wI (wI I1 95 0 0) 95 1 0) (by rw [nar0]; rfl) (nm_e (nm_e (nm_e (q _ ?_ ?_ ?_ ?_ ?_ (wI_same _ _ _ _) (fun j a b d => ?_) (fun m a b d => ?_)))))⟩⟩) (fun z => by omega) (by rw [k1 87 (by decide)]; exact c3)
      · rw [wI_row (by decide), wI_row (by decide), wI_row (by decide), wI_row (by decide), wI_row (by decide)]
        refine ⟨fun i hi => ⟨?_, ?_, ?_⟩, fun p hp => ?_, ?_⟩
        · rw [k2 _ (by omega), Nat.zero_add]
          show _ = nI (if i < C.nc then C.cs i else 0)
          by_cases e : i < c
          · rw [if_pos e, if_pos (by omega)]
          · rw [if_neg e, if_neg (by omega)]; rfl
        · rw [k2 _ (by omega), if_neg (by omega)]; rfl
        · rw [k2 _ (by omega), if_neg (by omega)]; rfl
        · rw [k2 _ (by omega), if_neg (by omega)]; rfl
        · rw [k2 _ (by omega), if_neg (by omega)]; rfl
      · rw [wI_row (by decide), wI_row (by decide), wI_row (by decide), wI_col (by decide), wI_same]
      · rw [wI_row (by decide), wI_row (by decide), wI_row (by decide), wI_same]
      · rw [wI_col (by decide), wI_col (by decide), wI_same]
      · rw [wI_col (by decide), wI_same]
      · rw [wI_row a, wI_row a, wI_row a, wI_row d, wI_row d]; exact k1 j b
      · rw [wI_col d, wI_col b, wI_col a, wI_row (by decide), wI_row (by decide), k1 87 (by decide)]
    | succ d ih =>
      intro c I1 hcd k1 k2
      show vc_X11_begin_L23s Q (vc_X11_begin_L23 Q (d + 1)) (nI c) I1 J
      unfold vc_X11_begin_L23s
      have ix : (3 : Int32) * nI c + 1 = nI (3 * c + 1) := by rw [show (3 : Int32) = nI 3 from rfl, pk_mul, nI_1]
      rw [ix, nI_clamp (n := 3 * c + 1) (by omega), nI_clamp (n := c) (by omega)]
      refine pk_le C.nc c (fun z => by omega) (fun _ => ⟨vp_in_nI (by omega) (by decide), vp_in_nI (by omega) (by decide), nm_r (e' := wI I1 93 c (nI (C.cs c))) (by rw [k1 90 (by decide), (cc c (by omega)).2.1]) (nm_r (nI_1 c) (ih (c + 1) _ (by omega) (fun j hj => ?_) (fun m hm => ?_)))⟩) (by rw [k1 87 (by decide)]; exact c3)
      · rw [wI_row hj]; exact k1 j hj
      · by_cases e : m = c
        · rw [e, wI_same, if_pos (by omega)]
        · rw [wI_col e, k2 m hm]
          by_cases e2 : m < c
          · rw [if_pos e2, if_pos (by omega)]
          · rw [if_neg e2, if_neg (by omega)]
  have one : ∀ d i (I1 : MI), i + d = 20 → (∀ j, j ≠ 93 → I1 j = I j) → (∀ m, m < i → I1 93 m = 0) → vc_X11_begin_L2 Q (d + 1) (nI i) I1 J := by
    intro d
    induction d with
    | zero =>
      intro i I1 hi k1 k2
      show vc_X11_begin_L2s Q (vc_X11_begin_L2 Q 0) (nI i) I1 J
      unfold vc_X11_begin_L2s
      exact pk_le 20 i (fun _ => ⟨C.nc + 1, two C.nc 0 I1 (by omega) k1 (fun m hm => by rw [if_neg (Nat.not_lt_zero m)]; exact k2 m (by omega))⟩) (fun z => by omega)
    | succ d ih =>
      intro i I1 hi k1 k2
      show vc_X11_begin_L2s Q (vc_X11_begin_L2 Q (d + 1)) (nI i) I1 J
      unfold vc_X11_begin_L2s
      rw [nI_clamp (by omega)]
      refine pk_le 20 i (fun z => by omega) (fun _ => ⟨vp_in_nI (by omega) (by decide), nm_e (nm_r (nI_1 i) (ih (i + 1) _ (by omega) (fun j hj => ?_) (fun m hm => ?_)))⟩)
      · rw [wI_row hj]; exact k1 j hj
      · by_cases e : m = i
        · rw [e, wI_same]
        · rw [wI_col e]; exact k2 m (by omega)
  exact ⟨21, one 20 0 I rfl (fun _ _ => rfl) (fun m hm => absurd hm (Nat.not_lt_zero m))⟩
end Beg
/-! the place of a fault lies in the text -/
theorem rdRoad_le {T : Rw} {s t w x : Nat} {N : Cn} (hs : s ≤ T.1) (ht : t ≤ T.1) (h : rdRoad T s t w N = .inl x) : x ≤ T.1 := by
  have t2 := (nx_le T ht).2
  have t3 := (nx_le T t2).2
  unfold rdRoad at h
  by_cases hn : N.2.1 < 9
  · rw [if_pos hn] at h
    cases ha : numR T t 0 N.1 with
    | none =>
      rw [ha] at h
      have h : (Sum.inl (skp T t) : Nat ⊕ (Nat × Ln × Cn)) = .inl x := h
      cases h
      exact (skp_le T ht).2
    | some a =>
      rw [ha] at h
      cases hb : numR T (nx T t) 0 N.1 with
      | none =>
        rw [hb] at h
        have h : (Sum.inl (skp T (nx T t)) : Nat ⊕ (Nat × Ln × Cn)) = .inl x := h
        cases h
        exact (skp_le T t2).2
      | some b =>
        rw [hb] at h
        have h : (if b = a then (Sum.inl (skp T (nx T t)) : Nat ⊕ (Nat × Ln × Cn)) else (numR T (nx T (nx T t)) 1 7).elim (Sum.inl (skp T (nx T (nx T t)))) (fun c => Sum.inr (nx T (nx T (nx T t)), (w, a, b, c), (N.1, N.2.1 + 1, N.2.2)))) = .inl x := h
        by_cases hab : b = a
        · rw [if_pos hab] at h
          cases h
          exact (skp_le T t2).2
        · rw [if_neg hab] at h
          cases hc : numR T (nx T (nx T t)) 1 7 with
          | none =>
            rw [hc] at h
            have h : (Sum.inl (skp T (nx T (nx T t))) : Nat ⊕ (Nat × Ln × Cn)) = .inl x := h
            cases h
            exact (skp_le T t3).2
          | some c => rw [hc] at h; cases h
  · rw [if_neg hn] at h
    cases h
    exact hs
theorem rdCart_le {T : Rw} {s t w x : Nat} {N : Cn} (hs : s ≤ T.1) (ht : t ≤ T.1) (h : rdCart T s t w N = .inl x) : x ≤ T.1 := by
  have t2 := (nx_le T ht).2
  unfold rdCart at h
  by_cases hn : N.2.2 < 4
  · rw [if_pos hn] at h
    cases ha : numR T t 0 N.1 with
    | none =>
      rw [ha] at h
      have h : (Sum.inl (skp T t) : Nat ⊕ (Nat × Ln × Cn)) = .inl x := h
      cases h
      exact (skp_le T ht).2
    | some a =>
      rw [ha] at h
      cases hb : numR T (nx T t) 0 4 with
      | none =>
        rw [hb] at h
        have h : (Sum.inl (skp T (nx T t)) : Nat ⊕ (Nat × Ln × Cn)) = .inl x := h
        cases h
        exact (skp_le T t2).2
      | some b =>
        rw [hb] at h
        have h : (Sum.inr (nx T (nx T t), (w, a, b, 0), (N.1, N.2.1, N.2.2 + 1)) : Nat ⊕ (Nat × Ln × Cn)) = .inl x := h
        cases h
  · rw [if_neg hn] at h
    cases h
    exact hs
theorem rdLine_le {T : Rw} {e x : Nat} {N : Cn} (he : e ≤ T.1) (h : rdLine T e N = .inl x) : x ≤ T.1 := by
  have hs := (skp_le T he).2
  have ht := (nx_le T he).2
  unfold rdLine at h
  have w13 : wAt T e ≤ 13 := wrd_le _ _ _
  generalize wAt T e = w at h w13
  by_cases c1 : w < 4
  · rw [rdW_p c1] at h
    by_cases hn : N.1 < 7
    · rw [if_pos hn] at h; cases h
    · rw [if_neg hn] at h; cases h; exact hs
  · by_cases c2 : w < 7
    · rw [rdW_r (by omega) c2] at h
      exact rdRoad_le hs ht h
    · by_cases c3 : w < 10
      · rw [rdW_c (by omega) c3] at h
        exact rdCart_le hs ht h
      · by_cases c4 : w = 10
        · rw [rdW_l c4] at h; cases h
        · by_cases c5 : w = 11
          · rw [rdW_w c5] at h
            unfold rdWarm at h
            cases ha : numR T (nx T e) 0 48 with
            | none =>
              rw [ha] at h
              have h : (Sum.inl (skp T (nx T e)) : Nat ⊕ (Nat × Ln × Cn)) = .inl x := h
              cases h
              exact (skp_le T ht).2
            | some a =>
              rw [ha] at h
              have h : (Sum.inr (nx T (nx T e), (w, a, 0, 0), N) : Nat ⊕ (Nat × Ln × Cn)) = .inl x := h
              cases h
          · by_cases c6 : w = 12
            · rw [rdW_m c6] at h; cases h
            · rw [rdW_13 (by omega)] at h; cases h; exact hs
theorem rdAll_le {T : Rw} : ∀ d e (N : Cn) x, e ≤ T.1 → rdAll T d e N = .inl x → x ≤ T.1
  | 0, e, N, x, _, h => by
    have h : (Sum.inl 0 : Nat ⊕ List Ln) = .inl x := h
    cases h
    exact Nat.zero_le _
  | d + 1, e, N, x, he, h => by
    cases hl : rdLine T e N with
    | inl y => rw [rdAll_f hl] at h; cases h; exact rdLine_le he hl
    | inr r =>
      obtain ⟨e', L, N'⟩ := r
      obtain ⟨o1, o2⟩ := rdLine_ok he hl
      rw [rdAll_s hl] at h
      by_cases c1 : skp T e' = T.1
      · rw [if_pos c1] at h; cases h
      · rw [if_neg c1] at h
        by_cases c2 : T.2 (skp T e') = 59 ∧ d ≠ 0
        · rw [if_pos c2] at h
          cases hr : rdAll T d (nx T e') N' with
          | inl y =>
            rw [hr] at h
            have h : (Sum.inl y : Nat ⊕ List Ln) = .inl x := h
            cases h
            exact rdAll_le d (nx T e') N' _ (nx_le T o2).2 hr
          | inr Ls' =>
            rw [hr] at h
            have h : (Sum.inr (L :: Ls') : Nat ⊕ List Ln) = .inl x := h
            cases h
        · rw [if_neg c2] at h
          cases h
          exact (skp_le T o2).2
theorem p_land (I : MI) (J : MJ) (hI : Inv I J) : vc_X10_land I J (fun r I1 J1 => vc_X11_land I1 J1 (fun q I2 J2 => r = q ∧ Inv I2 J2)) := by
  obtain ⟨S, hw, hc, hm⟩ := hI
  cases hS : rdS S with
  | inl y =>
    have hy : y ≤ S.T.1 := rdAll_le 14 0 S.C.1 y (Nat.zero_le _) hS
    have h160 : S.T.1 ≤ 160 := hw.2.2.2.2.1.1
    refine bothI (S := S) (S' := S) (r := -4) hw hm (fun Q hQ => ?_) (fun I1 J1 Q hm1 hQ => ?_)
    · unfold vc_X10_land
      refine c_over hw hc (fun x ex I' f => ?_) (fun Ls ex I' f _ _ => ?_)
      · rw [hS] at ex
        cases ex
        exact ⟨fun z => absurd z (nI_ne_m1 (by omega)), fun _ => hQ I' J (hc.fr f) f.hi⟩
      · rw [hS] at ex
        cases ex
    · unfold vc_X11_land
      refine m_over hw hm1 (fun x ex I' J' f e14 => b0 (hQ I' J' (hm1.mf f) f.lo)) (fun Ls ex I' J' f _ _ => ?_)
      rw [hS] at ex
      cases ex
  | inr Ls =>
    obtain ⟨hch, hle⟩ := rdAll_ok 14 0 S.C.1 Ls (Nat.zero_le _) hS
    have hC' := tellAll_wf Ls S.C hw.1 hch
    refine bothI (S := S) (S' := stN (tellAll S.C Ls)) (r := nI Ls.length) (stN_wf hC') hm (fun Q hQ => ?_) (fun I1 J1 Q hm1 hQ => ?_)
    · unfold vc_X10_land
      refine c_over hw hc (fun x ex I' f => ?_) (fun Ls' ex I' f k4 l => ?_)
      · rw [hS] at ex
        cases ex
      · rw [hS] at ex
        cases ex
        refine ⟨fun _ => nm_r (e' := nI Ls.length) k4 ?_, fun z => absurd rfl z⟩
        have hc' := hc.fr f
        refine ⟨Ls.length + 1, c_tell Ls 0 S.C I' J hw.1 hch hc'.1 (fun m L hm => by rw [Nat.zero_add]; exact l m L hm) (by rw [Nat.zero_add]; exact k4) (by omega) (fun I2 J2 r2 f2 g2 => nm_e ?_)⟩
        refine c_beg hC' (r2.cg (fun j a b => wI_row (by omega)) rfl) (fun I3 d1 d2 d3 d4 d5 d6 => nm_e (nm_e (hQ _ J2 ⟨?_, ?_, ?_, ?_, ?_, ?_, ?_⟩ ?_)))
        · refine r2.cg (fun j a b => ?_) rfl
          rw [wI_row (by omega), wI_row (by omega), d5 j (by omega) (by omega) (by omega), wI_row (by omega)]
        · exact d1.cg (fun j a b => by rw [wI_row (by omega), wI_row (by omega)])
        · obtain ⟨-, nx', hn, hn2, -⟩ := hc.2.2.1
          refine ⟨?_, nx', hn, ?_, fun b D h => (no_u h).elim⟩
          · rw [wI_row (by decide), wI_row (by decide)]; exact d2
          · rw [wI_row (by decide), wI_row (by decide), d6 4 (by decide), wI_row (by decide), f2 14 (by decide), f.1 14 (by decide) (by decide) (by decide)]; exact hn2
        · intro k hk
          refine ⟨fun _ => ?_, fun D h => by simp at h⟩
          rw [wI_row (by decide), wI_row (by decide)]
          by_cases e : k = 0
          · rw [e]; exact d3
          · rw [show k = 1 by omega]; exact d4
        · rw [wI_row (j := 1) (by decide), wI_row (j := 1) (by decide), d5 1 (by decide) (by decide) (by decide), wI_same]; exact rw0_r
        · rw [wI_row (j := 18) (by decide), wI_same]; exact rw0_r
        · rw [wI_same]; exact rw0_r
        · refine ⟨fun j hj => ?_, fun j hj => g2 j (by omega)⟩
          rw [wI_row (by omega), wI_row (by omega), d5 j (by omega) (by omega) (by omega), wI_row (by omega), f2 j (by omega)]
          exact f.hi (J := J) |>.1 j hj
    · unfold vc_X11_land
      refine m_over hw hm1 (fun x ex I' J' f e14 => ?_) (fun Ls' ex I' J' f k15 l => ?_)
      · rw [hS] at ex
        cases ex
      · rw [hS] at ex
        cases ex
        have hm' := hm1.mf f
        refine b1 ⟨Ls.length + 1, m_tell Ls 0 S.C I' J' hw.1 hch hm'.1 (fun m L hm => by rw [Nat.zero_add]; exact l m L hm) (by rw [Nat.zero_add]; exact k15) (by omega) (fun I2 J2 r2 f2 => ?_)⟩
        refine m_beg hC' (r2.cg (wI_col (by decide)) (wI_col (by decide)) (wI_col (by decide)) (fun j a b => wI_row (by omega)) rfl) (fun I3 d1 d2 d3 d4 d5 d6 d7 d8 => ?_)
        have e15 : I3 87 15 = nI Ls.length := by
          rw [d8 15 (by decide) (by decide) (by decide), wI_col (by decide), f2.2.1 15 (by decide) (by decide) (by decide)]; exact k15
        rw [e15]
        refine hQ I3 J2 ⟨?_, d1, ⟨d4, fun b D h => (no_u h).elim⟩, fun k hk => ⟨fun _ => ?_, fun D h => by simp at h⟩, ?_, ?_, ?_⟩ ?_
        · refine r2.cg ?_ ?_ ?_ (fun j a b => ?_) rfl
          · rw [d8 0 (by decide) (by decide) (by decide), wI_col (by decide)]
          · rw [d8 2 (by decide) (by decide) (by decide), wI_col (by decide)]
          · rw [d8 4 (by decide) (by decide) (by decide), wI_col (by decide)]
          · rw [d7 j (by omega) (by omega) (by omega), wI_row (by omega)]
        · by_cases e : k = 0
          · rw [e]; exact d2
          · rw [show k = 1 by omega]; exact d3
        · rw [d8 7 (by decide) (by decide) (by decide), wI_same]; exact rw0_r
        · rw [d5]; exact rw0_r
        · rw [d6]; exact rw0_r
        · refine ⟨fun j hj => ?_, fun j hj => ?_⟩
          · rw [d7 j (by omega) (by omega) (by omega), wI_row (by omega), f2.1 j (by omega)]
            exact f.lo.1 j hj
          · rw [f2.2.2.1 j (by omega)]
            exact f.lo.2 j hj
/-! ===== the beginning ===== -/
def C00 : Cty := ((0, 0, 0), fun _ => 0, (fun _ => 0, fun _ => 0, fun _ => 0, fun _ => 0), (fun _ => 0, fun _ => 0, fun _ => 0), 0)
theorem C00_wf : wfC C00 := ⟨⟨Nat.zero_le _, Nat.zero_le _, Nat.zero_le _⟩, fun i hi => absurd hi (Nat.not_lt_zero i), fun r hr => absurd hr (Nat.not_lt_zero r), fun c hc => absurd hc (Nat.not_lt_zero c), fun h _ => bj_0 h⟩
theorem p_begin : vc_X11_begin I00 J00 Inv := by
  have hm : rCm C00 I00 J00 := ⟨rfl, rfl, rfl, rfl, fun i hi => absurd hi (Nat.not_lt_zero i), fun r hr => absurd hr (Nat.not_lt_zero r), fun c hc => absurd hc (Nat.not_lt_zero c)⟩
  refine m_beg C00_wf hm (fun I d1 d2 d3 d4 d5 d6 d7 d8 => ⟨stN C00, stN_wf C00_wf, ?_, ?_⟩)
  · have z : ∀ j m, j < 87 → I j m = 0 := fun j m hj => by rw [d7 j (by omega) (by omega) (by omega)]; rfl
    refine ⟨⟨z _ _ (by decide), z _ _ (by decide), z _ _ (by decide), rfl, fun i hi => absurd hi (Nat.not_lt_zero i), fun r hr => absurd hr (Nat.not_lt_zero r), fun c hc => absurd hc (Nat.not_lt_zero c)⟩, ⟨fun c hc => ⟨?_, z _ _ (by decide), z _ _ (by decide)⟩, fun p hp => z _ _ (by decide), z _ _ (by decide)⟩, ⟨z _ _ (by decide), 0, by decide, z _ _ (by decide), fun b D h => (no_u h).elim⟩, fun k hk => ⟨fun _ => z _ _ (by decide), fun D h => by simp at h⟩, ?_, ?_, ?_⟩
    · rw [z _ _ (by decide)]
      show (0 : Int32) = nI (if c < 0 then 0 else 0)
      rw [if_neg (Nat.not_lt_zero c)]; rfl
    · rw [z 1 1 (by decide)]; exact rw0_r
    · rw [z 18 1 (by decide)]; exact rw0_r
    · rw [z 20 1 (by decide)]; exact rw0_r
  · refine ⟨hm.cg (d8 0 (by decide) (by decide) (by decide)) (d8 2 (by decide) (by decide) (by decide)) (d8 4 (by decide) (by decide) (by decide)) (fun j a b => d7 j (by omega) (by omega) (by omega)) rfl, d1, ⟨d4, fun b D h => (no_u h).elim⟩, fun k hk => ⟨fun _ => ?_, fun D h => by simp at h⟩, ?_, ?_, ?_⟩
    · by_cases e : k = 0
      · rw [e]; exact d2
      · rw [show k = 1 by omega]; exact d3
    · rw [d8 7 (by decide) (by decide) (by decide)]; exact rw0_r
    · rw [d5]; exact rw0_r
    · rw [d6]; exact rw0_r
