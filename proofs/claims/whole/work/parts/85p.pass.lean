/-! ===== pass: the reference's side ===== -/
def mo (M : Nat) : Int32 := if M = 0 then -1 else nI (M - 1)
theorem mo_le {s M : Nat} (hs : s < 2 ^ 31) (hM : M < 2 ^ 31) : nI s ≤ mo M ↔ s < M := by
  unfold mo
  by_cases h : M = 0
  · rw [if_pos h]
    refine ⟨fun z => ?_, fun z => by omega⟩
    rw [Int32.le_iff_toInt_le, nI_toInt hs] at z
    have : (-1 : Int32).toInt = -1 := by decide
    omega
  · rw [if_neg h, nI_leI hs (by omega)]
    omega
theorem smF_le {W : Nat → Nat → Nat} (hW : ∀ l t, W l t ≤ 99) : ∀ ds t, smF W t ds ≤ 99 * ds.length
  | [], _ => Nat.zero_le _
  | d :: ds, t => by
    have h1 := hW d t
    have h2 := smF_le hW ds (t + 1)
    show W d t + smF W (t + 1) ds ≤ 99 * (ds.length + 1)
    omega
theorem nn_le : ∀ n, n < 6 → n ^ n ≤ 3125 := by decide +kernel
theorem drop_c {ds : List Nat} {i : Nat} (h : i < ds.length) : ds.drop i = ds.getD i 0 :: ds.drop (i + 1) := by
  rw [List.drop_eq_getElem_cons h, List.getD_eq_getElem?_getD, List.getElem?_eq_getElem h]
  rfl
theorem getD_mem {ds : List Nat} {i : Nat} (h : i < ds.length) : ds.getD i 0 ∈ ds := by
  rw [List.getD_eq_getElem?_getD, List.getElem?_eq_getElem h]
  exact List.getElem_mem h
theorem mem_drop' {ds : List Nat} {i d : Nat} (h : d ∈ ds.drop i) : d ∈ ds := List.mem_of_mem_drop h
section PassM
variable {S : ST} {I : MI} {J : MJ} {h : Nat}
theorem m_through (hw : wf S) (hm : Mp S I J) {w t : Nat} (hw99 : w ≤ 99) (hh : h + t ≤ 60) {Q : Int32 → MI → MJ → Prop} (q : Q (nI (opF (bj S.C.wm) h t 0 w)) I J) : vc_X11_throughOf (nI w) (nI h) (nI t) I J Q := by
  have loop : ∀ d i w, i + d = t → w ≤ 99 → Q (nI (opF (bj S.C.wm) h d i w)) I J → vc_X11_throughOf_L6 Q (d + 1) (nI h) (nI t) (nI w) (nI (h + i)) I J := by
    intro d
    induction d with
    | zero =>
      intro i w hi hw q
      show vc_X11_throughOf_L6s Q (vc_X11_throughOf_L6 Q 0) _ _ _ _ I J
      unfold vc_X11_throughOf_L6s
      rw [nI_add]
      exact pk_le (h + t) (h + i) (fun _ => q) (fun z => by omega)
    | succ d ih =>
      intro i w hi hw9 q
      show vc_X11_throughOf_L6s Q (vc_X11_throughOf_L6 Q (d + 1)) _ _ _ _ I J
      unfold vc_X11_throughOf_L6s
      rw [nI_add]
      refine pk_le (h + t) (h + i) (fun z => by omega) (fun _ => m_warm hm.1 hw.1 (by omega) (m_loses (sh := false) (k := 0) (s := 0) (by omega) (by omega) (by omega) (by omega) ?_))
      refine nm_r (pk_sub (by unfold lsM; exact Nat.min_le_left _ _)) (nm_r (nI_1 _) (ih (i + 1) _ (by omega) (by omega) ?_))
      have e : w - lsM (bj S.C.wm (h + i)) false (h + i) w 0 0 = w - lsO (bj S.C.wm (h + i)) (h + i) w 0 0 := by
        unfold lsM
        rw [if_neg (by decide)]
        omega
      rw [e]; exact q
  exact ⟨t + 1, loop t 0 w (by omega) hw99 q⟩
def relP (n M : Nat) (F : List Nat) (I' : MI) : Prop := 0 < M → ∀ i, i < n → I' 106 i = nI (F.getD i 0)
theorem m_code {n : Nat} (hw : wf S) (hm : Mp S I J) (hn : S.rw.1 = n) (hh : h ≤ 43) {Q : Int32 → MI → MJ → Prop} {k51 : Int32 → Int32 → Int32 → Int32 → Int32 → MI → MJ → Prop} {y v3 : Int32} {c M : Nat} {F : List Nat} (hc : c < n ^ n) (hM : M ≤ 1000) (I' : MI) (f1 : ∀ j, j ≠ 106 → j ≠ 107 → I' j = I j) (f2 : relP n M F I')
    (q : ∀ I'' : MI, (∀ j, j ≠ 106 → j ≠ 107 → I'' j = I j) → relP n (stp n (psW S h) n 0 0 0 [] c (M, F)).1 (stp n (psW S h) n 0 0 0 [] c (M, F)).2 I'' → k51 (nI h) y v3 (mo (stp n (psW S h) n 0 0 0 [] c (M, F)).1) (nI (c + 1)) I'' J) : ∃ d, vc_X11_pass_L75 Q k51 d (nI h) y v3 (mo M) (nI c) (nI c) 0 0 (nI n - 1) I' J := by
  have n5 : n ≤ 5 := by rw [← hn]; exact hw.2.2.2.2.2.2.1
  have hW := psW_le hw h
  obtain ⟨e1, e2⟩ := id hm.2.2.2.2.2.2
  rw [hn] at e1 e2
  have hld := hw.2.2.2.2.2.2.2
  rw [hn] at hld
  obtain ⟨pn, pn1⟩ := p2_5 n5
  have hnn := nn_le n (by omega)
  generalize hdl : dgs n n c = dl
  have hlen : dl.length = n := by rw [← hdl, dgs_len]
  have hlt : ∀ d ∈ dl, d < n := by rw [← hdl]; exact dgs_lt n c hc
  have hget : ∀ i, i < n → dl.getD i 0 = c / n ^ (n - 1 - i) % n := fun i hi => by rw [← hdl]; exact dgs_get n c i hc hi
  have hgl : ∀ i, i < n → dl.getD i 0 < n := fun i hi => hlt _ (getD_mem (by omega))
  have hor : ∀ i, orL (dl.drop i) < 32 := fun i => by
    have h1 := (or_bd (dl.drop i) 0 (fun d hd => by have := hlt d (mem_drop' hd); omega) (by decide)).2
    rwa [Nat.zero_or] at h1
  have hsm := smF_le hW dl 0
  rw [hlen] at hsm
  unfold stp at q
  rw [hdl, Nat.zero_or, Nat.zero_add, List.nil_append] at q
  have hfr : ∀ I' : MI, (∀ j, j ≠ 106 → j ≠ 107 → I' j = I j) → I' 87 28 = nI n := fun I' f => by rw [f 87 (by decide) (by decide)]; exact e1
  have hMp : ∀ I' : MI, (∀ j, j ≠ 106 → j ≠ 107 → I' j = I j) → Mp S I' J := fun I' f => hm.cg (fun j a b _ => f j (by omega) (by omega)) (fun m _ => by rw [f 87 (by decide) (by decide)]) rfl
  -- what was found is copied
  have l195 : smF (psW S h) 0 dl ≥ M → orL dl = 2 ^ n - 1 → ∀ d i (I' : MI), i + d = n → (∀ j, j ≠ 106 → j ≠ 107 → I' j = I j) → (∀ j, j < n → I' 107 j = nI (dl.getD j 0)) → (∀ j, j < i → I' 106 j = nI (dl.getD j 0)) → vc_X11_pass_L195 Q k51 (d + 1) (nI h) y v3 (nI (smF (psW S h) 0 dl)) (nI c) (nI i) I' J := by
    intro hge hall d
    rw [if_pos ⟨hall, hge⟩] at q
    induction d with
    | zero =>
      intro i I' hi f1 f3 f4
      show vc_X11_pass_L195s Q k51 (vc_X11_pass_L195 Q k51 0) _ _ _ _ _ _ I' J
      unfold vc_X11_pass_L195s
      rw [hfr I' f1]
      refine pk_le n i (fun _ => nm_r (nI_1 c) ?_) (fun z => by omega)
      have h1 := q I' f1 (fun _ j hj => f4 j (by omega))
      have e : mo (smF (psW S h) 0 dl + 1) = nI (smF (psW S h) 0 dl) := by unfold mo; rw [if_neg (by omega), Nat.add_sub_cancel]
      rw [e] at h1
      exact h1
    | succ d ih =>
      intro i I' hi f1 f3 f4
      show vc_X11_pass_L195s Q k51 (vc_X11_pass_L195 Q k51 (d + 1)) _ _ _ _ _ _ I' J
      unfold vc_X11_pass_L195s
      rw [hfr I' f1, nI_clamp (by omega)]
      have v5 := vp_in_nI (n := i) (N := 5) (by omega) (by omega)
      refine pk_le n i (fun z => by omega) (fun _ => ⟨v5, v5, nm_e (nm_r (nI_1 i) (ih (i + 1) _ (by omega) (fun j a b => by rw [wI_row a]; exact f1 j a b) (fun j hj => by rw [wI_row (by decide)]; exact f3 j hj) (fun j hj => ?_)))⟩)
      by_cases e : j = i
      · subst e; rw [wI_same]; exact f3 j (by omega)
      · rw [wI_col e]; exact f4 j (by omega)
  -- the sum
  have l142 : orL dl = 2 ^ n - 1 → ∀ d i s (I' : MI), i + d = n → s + smF (psW S h) i (dl.drop i) = smF (psW S h) 0 dl → (∀ j, j ≠ 106 → j ≠ 107 → I' j = I j) → relP n M F I' → (∀ j, j < n → I' 107 j = nI (dl.getD j 0)) → vc_X11_pass_L142 Q k51 (d + 1) (nI h) y v3 (mo M) (nI c) (nI s) (nI i) I' J := by
    intro hall d
    induction d with
    | zero =>
      intro i s I' hi hs f1 f2 f3
      show vc_X11_pass_L142s Q k51 (vc_X11_pass_L142 Q k51 0) _ _ _ _ _ _ _ I' J
      unfold vc_X11_pass_L142s
      rw [hfr I' f1]
      have hs2 : s = smF (psW S h) 0 dl := by
        rw [List.drop_eq_nil_of_le (by omega)] at hs
        exact hs
      refine pk_le n i (fun _ => ?_) (fun z => by omega)
      rw [mo_le (by omega) (by omega), hs2]
      refine ⟨fun z => nm_r (nI_1 c) ?_, fun z => ⟨n + 1, l195 (by omega) hall n 0 I' (by omega) f1 f3 (fun j hj => absurd hj (Nat.not_lt_zero j))⟩⟩
      rw [if_neg (fun z2 => by have h2 : M ≤ smF (psW S h) 0 dl := z2.2; omega)] at q
      exact q I' f1 f2
    | succ d ih =>
      intro i s I' hi hs f1 f2 f3
      have hg := hgl i (by omega)
      have hb := (hld _ hg).2
      show vc_X11_pass_L142s Q k51 (vc_X11_pass_L142 Q k51 (d + 1)) _ _ _ _ _ _ _ I' J
      unfold vc_X11_pass_L142s
      rw [hfr I' f1, nI_clamp (by omega), f3 i (by omega), nI_clamp (by omega), f1 98 (by decide) (by decide), e2 _ hg]
      refine pk_le n i (fun z => by omega) (fun _ => ⟨vp_in_nI (by omega) (by omega), vp_in_nI (by omega) (by omega), m_through hw (hMp I' f1) hb (by omega) (nm_r (nI_add _ _) (nm_r (nI_1 i) ?_))⟩)
      refine ih (i + 1) _ I' (by omega) ?_ f1 f2 f3
      rw [← psW_eq (by omega)]
      rw [drop_c (by omega)] at hs
      have hs : s + (psW S h (dl.getD i 0) i + smF (psW S h) (i + 1) (dl.drop (i + 1))) = smF (psW S h) 0 dl := hs
      omega
  -- the places of the number
  have l75 : ∀ i (I' : MI), i ≤ n → (∀ j, j ≠ 106 → j ≠ 107 → I' j = I j) → relP n M F I' → (∀ j, i ≤ j → j < n → I' 107 j = nI (dl.getD j 0)) → vc_X11_pass_L75 Q k51 (i + 1) (nI h) y v3 (mo M) (nI c) (nI (c / n ^ (n - i))) (nI (orL (dl.drop i))) 0 (nI i - 1) I' J := by
    intro i
    induction i with
    | zero =>
      intro I' _ f1 f2 f3
      show vc_X11_pass_L75s Q k51 (vc_X11_pass_L75 Q k51 0) _ _ _ _ _ _ _ _ _ I' J
      unfold vc_X11_pass_L75s
      refine ⟨fun _ => ?_, fun z => absurd (by decide) z⟩
      have hor0 := hor 0
      rw [List.drop_zero] at hor0 ⊢
      rw [hfr I' f1, sh5 n (by omega), show (1 : Int32) = nI 1 from rfl, pk_sub pn1, nI_eq (by omega) (by omega)]
      refine ⟨fun hall => ⟨n + 1, l142 hall n 0 0 I' (by omega) (by rw [List.drop_zero, Nat.zero_add]) f1 f2 (fun j hj => f3 j (Nat.zero_le _) hj)⟩, fun hne => nm_r (nI_1 c) ?_⟩
      rw [if_neg (fun z => hne z.1)] at q
      exact q I' f1 f2
    | succ i ih =>
      intro I' hi f1 f2 f3
      have hg := hgl i (by omega)
      show vc_X11_pass_L75s Q k51 (vc_X11_pass_L75 Q k51 (i + 1)) _ _ _ _ _ _ _ _ _ I' J
      unfold vc_X11_pass_L75s
      have hcd : c / n ^ (n - (i + 1)) ≤ c := Nat.div_le_self _ _
      have hcd2 : c / n ^ (n - 1 - i) ≤ c := Nat.div_le_self _ _
      have hne : ¬ nI n = 0 := by rw [show (0 : Int32) = nI 0 from rfl, nI_eq (by omega) (by omega)]; omega
      rw [show nI (i + 1) - 1 = nI i from pk_sub (b := 1) (by omega), hfr I' f1, pk_rem (by omega) (by omega) (by omega), nI_clamp (by omega), show n - (i + 1) = n - 1 - i by omega, ← hget i (by omega)]
      have v5 := vp_in_nI (n := i) (N := 5) (by omega) (by omega)
      refine ⟨fun z => absurd z (nI_pos (by omega)), fun _ => ⟨hne, v5, nm_e ?_⟩⟩
      have f1' : ∀ j, j ≠ 106 → j ≠ 107 → wI I' 107 i (nI (dl.getD i 0)) j = I j := fun j a b => by rw [wI_row b]; exact f1 j a b
      rw [hfr _ f1', wI_same, sh5 _ (by omega), pf6 _ (hor (i + 1)) _ (p2_lt n5 (Nat.pow_lt_pow_right (by decide) hg))]
      refine ⟨hne, nm_r (pk_div (by omega) (by omega) (by omega)) ⟨v5, nm_e (nm_r (Int32.sub_eq_add_neg (nI i) 1).symm ?_)⟩⟩
      have h1 := ih (wI I' 107 i (nI (dl.getD i 0))) (by omega) f1' (fun hM i' hi' => by rw [wI_row (by decide)]; exact f2 hM i' hi') (fun j a b => ?_)
      · have ec : c / n ^ (n - i) = c / n ^ (n - 1 - i) / n := by
          rw [Nat.div_div_eq_div_mul, ← Nat.pow_succ]
          congr 2
          omega
        rw [ec, drop_c (i := i) (by omega)] at h1
        exact h1
      · by_cases e : j = i
        · subst e; rw [wI_same]
        · rw [wI_col e]; exact f3 j (by omega) b
  have h1 := l75 n I' (Nat.le_refl n) f1 f2 (fun j a b => absurd a (by omega))
  rw [Nat.sub_self, Nat.pow_zero, Nat.div_one, List.drop_eq_nil_of_le (by omega)] at h1
  exact ⟨n + 1, h1⟩
theorem m_scan {n : Nat} (hw : wf S) (hm : Mp S I J) (hn : S.rw.1 = n) (hh : h ≤ 43) {Q : Int32 → MI → MJ → Prop} {y : Int32}
    (q : ∀ I' : MI, (∀ j, j ≠ 106 → j ≠ 107 → I' j = I j) → (∀ i, i < n → I' 106 i = nI ((Bq n (psW S h) n 0).2.getD i 0)) → ((¬ y = (-1) → ((nI n ≤ y → Q (-1) I' J) ∧ (¬ nI n ≤ y → vp_in y 5 ∧ Q (I' 106 (Int32.toNatClampNeg y)) I' J))) ∧ (y = (-1) → Q (nI (Bq n (psW S h) n 0).1) I' J))) (hy : (-1) ≤ y) : vc_X11_pass (nI h) y I J Q := by
  have n5 : n ≤ 5 := by rw [← hn]; exact hw.2.2.2.2.2.2.1
  have hW := psW_le hw h
  obtain ⟨e1, e2⟩ := id hm.2.2.2.2.2.2
  rw [hn] at e1 e2
  have hnn := nn_le n (by omega)
  have hfr : ∀ I' : MI, (∀ j, j ≠ 106 → j ≠ 107 → I' j = I j) → I' 87 28 = nI n := fun I' f => by rw [f 87 (by decide) (by decide)]; exact e1
  have l51 : ∀ d c (s : Nat × List Nat) (I' : MI), c + d = n ^ n → s.1 ≤ 1000 → runK (stp n (psW S h) n 0 0 0 []) d c s = ((Bq n (psW S h) n 0).1 + 1, (Bq n (psW S h) n 0).2) → (∀ j, j ≠ 106 → j ≠ 107 → I' j = I j) → relP n s.1 s.2 I' → vc_X11_pass_L51 Q (d + 1) (nI h) y (nI (n ^ n)) (mo s.1) (nI c) I' J := by
    intro d
    induction d with
    | zero =>
      intro c s I' hc hs hr f1 f2
      have hr : s = ((Bq n (psW S h) n 0).1 + 1, (Bq n (psW S h) n 0).2) := hr
      subst hr
      show vc_X11_pass_L51s Q (vc_X11_pass_L51 Q 0) _ _ _ _ _ I' J
      unfold vc_X11_pass_L51s
      rw [hfr I' f1]
      refine pk_le (n ^ n) c (fun _ => ?_) (fun z => by omega)
      have h1 := q I' f1 (fun i hi => f2 (Nat.succ_pos _) i hi)
      have e : mo ((Bq n (psW S h) n 0).1 + 1) = nI (Bq n (psW S h) n 0).1 := by unfold mo; rw [if_neg (by omega), Nat.add_sub_cancel]
      rw [← e] at h1
      exact h1
    | succ d ih =>
      intro c s I' hc hs hr f1 f2
      show vc_X11_pass_L51s Q (vc_X11_pass_L51 Q (d + 1)) _ _ _ _ _ I' J
      unfold vc_X11_pass_L51s
      rw [hfr I' f1]
      refine pk_le (n ^ n) c (fun z => by omega) (fun _ => nm_e ?_)
      refine m_code hw hm hn hh (F := s.2) (by omega) hs I' f1 f2 (fun I'' g1 g2 => ih (c + 1) (stp n (psW S h) n 0 0 0 [] c s) I'' (by omega) ?_ hr g1 g2)
      unfold stp
      split
      · have h1 := smF_le hW (dgs n n c) 0
        rw [dgs_len] at h1
        show 0 + smF (psW S h) 0 (dgs n n c) + 1 ≤ 1000
        omega
      · exact hs
  have l23 : ∀ d i, i + d = n → vc_X11_pass_L23 Q (d + 1) (nI h) y (nI (n ^ i)) (nI i) I J := by
    intro d
    induction d with
    | zero =>
      intro i hi
      have ei : i = n := by omega
      subst ei
      show vc_X11_pass_L23s Q (vc_X11_pass_L23 Q 0) _ _ _ _ I J
      unfold vc_X11_pass_L23s
      rw [e1]
      refine pk_le i i (fun _ => ⟨i ^ i + 1, ?_⟩) (fun z => by omega)
      have hb := blk n5 (psW S h) i 0 0 [] (0, []) (Nat.pow_pos (by decide)) (by show pc5 0 + i = i; rw [show pc5 0 = 0 from rfl, Nat.zero_add])
      rw [show pc5 0 = 0 from rfl, if_pos (Nat.zero_le _), Nat.zero_add, List.nil_append] at hb
      exact l51 (i ^ i) 0 (0, []) I (by omega) (Nat.zero_le _) hb (fun _ _ _ => rfl) (fun z => absurd z (by show ¬ 0 < 0; omega))
    | succ d ih =>
      intro i hi
      show vc_X11_pass_L23s Q (vc_X11_pass_L23 Q (d + 1)) _ _ _ _ I J
      unfold vc_X11_pass_L23s
      rw [e1]
      refine pk_le n i (fun z => by omega) (fun _ => nm_r (pk_mul _ _) (nm_r (nI_1 i) ?_))
      rw [← Nat.pow_succ]
      exact ih (i + 1) (by omega)
  refine s_in_t 0 43 ⟨h, Nat.zero_le _, hh, rfl⟩ (b1' ⟨fun _ => ⟨n + 1, l23 n 0 (by omega)⟩, fun z => absurd hy z⟩)
end PassM
theorem m1_lt {n : Nat} (h : n < 2 ^ 31) : (-1 : Int32) < nI n := by
  rw [Int32.lt_iff_toInt_lt, nI_toInt h]
  have : (-1 : Int32).toInt = -1 := by decide
  omega
theorem p_pass (I : MI) (J : MJ) (hI : Inv I J) (x y : Int32) : vc_X10_pass x y I J (fun r I1 J1 => vc_X11_pass x y I1 J1 (fun q I2 J2 => r = q ∧ Inv I2 J2)) := by
  obtain ⟨S, hw, hc, hm⟩ := hI
  by_cases hx : inR x 0 43
  rotate_left
  · exact bothQ (S := S) (r := -3) hw hc hm (fun Q hQ => s_wi_f 0 43 hx (b0' hQ)) (fun I1 J1 Q hm1 hQ => s_in_f 0 43 hx (b0' hQ))
  by_cases hy : (-1) ≤ y
  rotate_left
  · exact bothQ (S := S) (r := -3) hw hc hm (fun Q hQ => s_wi_t 0 43 hx (b1' ⟨fun z => absurd z hy, fun _ => hQ⟩)) (fun I1 J1 Q hm1 hQ => s_in_t 0 43 hx (b1' ⟨fun z => absurd z hy, fun _ => hQ⟩))
  obtain ⟨h, -, hh, rfl⟩ := id hx
  have n5 : S.rw.1 ≤ 5 := hw.2.2.2.2.2.2.1
  have e1 := hc.2.2.2.2.2.2.1
  have hW := psW_le hw h
  have hCp : ∀ I' : MI, (∀ j, j ≠ 22 → j ≠ 23 → I' j = I j) → Cp S I' J := fun I' f => hc.cg (fun j _ _ _ _ a b _ => f j a b) (by rw [f 1 (by decide) (by decide)]) rfl
  have hHi : ∀ I' : MI, (∀ j, j ≠ 22 → j ≠ 23 → I' j = I j) → Hi I J I' J := fun I' f => ⟨fun j hj => f j (by omega) (by omega), fun _ _ => rfl⟩
  have hMp : ∀ (I1 : MI) (J1 : MJ), Mp S I1 J1 → ∀ I' : MI, (∀ j, j ≠ 106 → j ≠ 107 → I' j = I1 j) → Mp S I' J1 := fun I1 J1 hm1 I' f => hm1.cg (fun j a b _ => f j (by omega) (by omega)) (fun m _ => by rw [f 87 (by decide) (by decide)]) rfl
  have hLo : ∀ (I1 : MI) (J1 : MJ) (I' : MI), (∀ j, j ≠ 106 → j ≠ 107 → I' j = I1 j) → Lo I1 J1 I' J1 := fun I1 J1 I' f => ⟨fun j hj => f j (by omega) (by omega), fun _ _ => rfl⟩
  by_cases y1 : y = -1
  · subst y1
    refine bothI (S := S) (S' := S) (r := nI (Bq S.rw.1 (psW S h) S.rw.1 0).1) hw hm (fun Q hQ => s_wi_t 0 43 hx (b1' ⟨fun _ => ?_, fun z => absurd hy z⟩)) (fun I1 J1 Q hm1 hQ => m_scan hw hm1 rfl hh (fun I' f1 f2 => ⟨fun z => absurd rfl z, fun _ => hQ _ _ (hMp I1 J1 hm1 I' f1) (hLo I1 J1 I' f1)⟩) hy)
    rw [e1]
    refine ⟨fun _ => c_weigh hw hc hh (fun I' f1 f2 f3 => ⟨fun z => absurd rfl z, fun _ => ⟨vp_in_nI (n := 0) (by omega) (by omega), ?_⟩⟩), fun z => absurd (m1_lt (by omega)) z⟩
    have h0 := f3 0 (Nat.pow_pos (by decide))
    rw [show pc5 0 = 0 from rfl, Nat.sub_zero] at h0
    rw [show Int32.toNatClampNeg 0 = 0 from by decide, h0]
    exact hQ _ _ (hCp I' f1) (hHi I' f1)
  · have hy0 : ¬ y < 0 := by
      intro z
      apply y1
      rw [Int32.lt_iff_toInt_lt] at z
      rw [Int32.le_iff_toInt_le] at hy
      have e1 : (-1 : Int32).toInt = -1 := by decide
      have e2 : (0 : Int32).toInt = 0 := by decide
      apply Int32.toInt_inj.mp
      omega
    obtain ⟨k, hk, rfl⟩ := nI_of hy0
    by_cases hkn : k < S.rw.1
    · refine bothI (S := S) (S' := S) (r := nI ((Bq S.rw.1 (psW S h) S.rw.1 0).2.getD k 0)) hw hm (fun Q hQ => s_wi_t 0 43 hx (b1' ⟨fun _ => ?_, fun z => absurd hy z⟩)) (fun I1 J1 Q hm1 hQ => m_scan hw hm1 rfl hh (fun I' f1 f2 => ⟨fun _ => pk_le S.rw.1 k (fun z => by omega) (fun _ => ⟨vp_in_nI (by omega) (by omega), ?_⟩), fun z => absurd z y1⟩) hy)
      · rw [e1]
        refine pk_lt k S.rw.1 (fun _ => c_weigh hw hc hh (fun I' f1 f2 f3 => ⟨fun _ => c_turn n5 hkn (by rw [f1 20 (by decide) (by decide)]; exact e1) hW f2 f3 (hQ _ _ (hCp I' f1) (hHi I' f1)), fun z => absurd z y1⟩)) (fun z => by omega)
      · rw [nI_clamp (by omega), f2 k hkn]
        exact hQ _ _ (hMp I1 J1 hm1 I' f1) (hLo I1 J1 I' f1)
    · refine bothI (S := S) (S' := S) (r := -1) hw hm (fun Q hQ => s_wi_t 0 43 hx (b1' ⟨fun _ => ?_, fun z => absurd hy z⟩)) (fun I1 J1 Q hm1 hQ => m_scan hw hm1 rfl hh (fun I' f1 f2 => ⟨fun _ => pk_le S.rw.1 k (fun _ => hQ _ _ (hMp I1 J1 hm1 I' f1) (hLo I1 J1 I' f1)) (fun z => by omega), fun z => absurd z y1⟩) hy)
      rw [e1]
      exact pk_lt k S.rw.1 (fun z => absurd z hkn) (fun _ => hQ _ _ hc Hi.rf)
