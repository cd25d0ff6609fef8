/-! ===== what the Statement says of the start: texts, classes, links ===== -/
def tmS (i : Nat) : Term := .string "SnowCourse$Script" (stI.getD i 0)
abbrev nrL : List Cond := flatC (Jvm.Cond.and given_1 narrow_1)
set_option maxRecDepth 100000 in
theorem nr_ex : ∀ i, i < 14 → Cond.exactly (tmS i) "java/lang/String" ∈ nrL := by decide +kernel
set_option maxRecDepth 100000 in
theorem nr_co : ∀ i, i < 14 → Cond.eq (.field (tmS i) "java/lang/String" "coder" "B") (.int 0) ∈ nrL := by decide +kernel
set_option maxRecDepth 100000 in
theorem nr_ar : ∀ i, i < 14 → Cond.arrayOf (.field (tmS i) "java/lang/String" "value" "[B") .byte ∈ nrL := by decide +kernel
set_option maxRecDepth 100000 in
theorem nr_le : ∀ i, i < 14 → Cond.eq (.length (.field (tmS i) "java/lang/String" "value" "[B")) (.int (Int32.ofNat (stL.getD i 0))) ∈ nrL := by decide +kernel
set_option maxRecDepth 100000 in
theorem nr_el : ∀ i, i < 14 → ∀ j, j < stL.getD i 0 → Cond.eq (.elem (.field (tmS i) "java/lang/String" "value" "[B") (.int (Int32.ofNat j))) (.int ((stB.getD i []).getD j 0)) ∈ nrL := by decide +kernel
def neS : Cond → Option (Nat × Nat)
  | .not (.eq (.string s a) (.string t b)) => if s = "SnowCourse$Script" ∧ t = "SnowCourse$Script" then some (a, b) else none
  | _ => none
theorem neS_of {w : Cond} {a b : Nat} (h : neS w = some (a, b)) : w = Cond.not (Cond.eq (.string "SnowCourse$Script" a) (.string "SnowCourse$Script" b)) := by
  unfold neS at h
  split at h
  · split at h
    · rename_i hs
      obtain ⟨h1, h2⟩ := hs
      have h3 := Option.some.inj h
      cases h3
      rw [h1, h2]
    · cases h
  · cases h
def nrP : List (Nat × Nat) := [(103, 109), (103, 110), (109, 110), (103, 112), (109, 112), (110, 112), (103, 114), (109, 114), (110, 114), (112, 114), (103, 116), (109, 116), (110, 116), (112, 116), (114, 116), (103, 118), (109, 118), (110, 118), (112, 118), (114, 118), (116, 118), (103, 124), (109, 124), (110, 124), (112, 124), (114, 124), (116, 124), (118, 124), (103, 126), (109, 126), (110, 126), (112, 126), (114, 126), (116, 126), (118, 126), (124, 126), (103, 128), (109, 128), (110, 128), (112, 128), (114, 128), (116, 128), (118, 128), (124, 128), (126, 128), (103, 130), (109, 130), (110, 130), (112, 130), (114, 130), (116, 130), (118, 130), (124, 130), (126, 130), (128, 130), (103, 132), (109, 132), (110, 132), (112, 132), (114, 132), (116, 132), (118, 132), (124, 132), (126, 132), (128, 132), (130, 132), (103, 134), (109, 134), (110, 134), (112, 134), (114, 134), (116, 134), (118, 134), (124, 134), (126, 134), (128, 134), (130, 134), (132, 134), (103, 136), (109, 136), (110, 136), (112, 136), (114, 136), (116, 136), (118, 136), (124, 136), (126, 136), (128, 136), (130, 136), (132, 136), (134, 136)]
set_option maxRecDepth 100000 in
theorem nr_ps : nrL.filterMap neS = nrP := by decide +kernel
set_option maxRecDepth 100000 in
theorem nr_pp : ∀ i, i < 14 → ∀ j, j < 14 → i = j ∨ (nrP.any (fun p => decide (p.1 = stI.getD i 0) && decide (p.2 = stI.getD j 0)) || nrP.any (fun p => decide (p.1 = stI.getD j 0) && decide (p.2 = stI.getD i 0))) = true := by decide +kernel
theorem nr_any {a b : Nat} (h : nrP.any (fun p => decide (p.1 = a) && decide (p.2 = b)) = true) : (a, b) ∈ nrP := by
  obtain ⟨⟨c, d⟩, hp, e⟩ := List.any_eq_true.mp h
  simp only [Bool.and_eq_true, decide_eq_true_eq] at e
  obtain ⟨rfl, rfl⟩ := e
  exact hp
theorem nr_one {a b : Nat} (h : (a, b) ∈ nrL.filterMap neS) : Cond.not (Cond.eq (.string "SnowCourse$Script" a) (.string "SnowCourse$Script" b)) ∈ nrL := by
  obtain ⟨w, hw, e⟩ := List.mem_filterMap.mp h
  rw [← neS_of e]; exact hw
theorem nr_ne : ∀ i, i < 14 → ∀ j, j < 14 → i ≠ j → (Cond.not (Cond.eq (tmS i) (tmS j)) ∈ nrL ∨ Cond.not (Cond.eq (tmS j) (tmS i)) ∈ nrL) := by
  intro i hi j hj hij
  rcases nr_pp i hi j hj with h | h
  · exact absurd h hij
  · rcases (Bool.or_eq_true _ _).mp h with h | h
    · exact Or.inl (nr_one (by rw [nr_ps]; exact nr_any h))
    · exact Or.inr (nr_one (by rw [nr_ps]; exact nr_any h))
set_option maxRecDepth 100000 in
theorem nr_cs : Cond.eq (.static "java/lang/String" "COMPACT_STRINGS" "Z") (.int 1) ∈ nrL := by decide +kernel
set_option maxRecDepth 100000 in
theorem nr_fm : Cond.isRef (.static "jdk/internal/util/Preconditions" "SIOOBE_FORMATTER" "Ljava/util/function/BiFunction;") ∈ nrL := by decide +kernel
set_option maxRecDepth 100000 in
theorem st_sr : ∀ i, i < 14 → Cond.stringRef RX6 (stI.getD i 0) (stT.getD i "") ∈ lw_tbl := by decide +kernel
theorem st_31 : ∀ i, i < 14 → stL.getD i 0 < 2 ^ 31 := by decide +kernel
set_option maxRecDepth 100000 in
theorem wt_1 : Cond.methodLinkNest RX6 96 yX10_within "SnowCourse" ∈ lw_tbl ∧ Cond.methodLinkNest RX10 260 yX2_sealedWorth "SnowCourse" ∈ lw_tbl ∧ Cond.methodLinkNest RX10 9 yX6_init "SnowCourse" ∈ lw_tbl ∧ Cond.methodLinkNest RX10 18 yX1_init "SnowCourse" ∈ lw_tbl ∧ Cond.methodLinkNest RX10 32 yX8_init "SnowCourse" ∈ lw_tbl ∧ Cond.methodLinkNest RX10 39 yX4_init "SnowCourse" ∈ lw_tbl ∧ Cond.methodLinkNest RX10 46 yX9_init "SnowCourse" ∈ lw_tbl ∧ Cond.methodLinkNest RX10 53 yX5_init "SnowCourse" ∈ lw_tbl ∧ Cond.methodLinkNest RX0 9 yX7_init "SnowCourse" ∈ lw_tbl := by decide +kernel
set_option maxRecDepth 100000 in
theorem wt_2 : Cond.arrayClass .int ∈ lw_tbl ∧ Cond.arrayClass .long ∈ lw_tbl ∧ Cond.arrayClass .char ∈ lw_tbl ∧ Cond.arrayClass .boolean ∈ lw_tbl ∧ Cond.arrayOver (.object "SnowCourse$Standing") ∈ lw_tbl := by decide +kernel
set_option maxRecDepth 100000 in
theorem wt_3 : Cond.laysStatic "java/lang/String" "COMPACT_STRINGS" "Z" ∈ lw_tbl ∧ Cond.initialized "java/lang/String" ∈ lw_tbl ∧ Cond.laysStatic "jdk/internal/util/Preconditions" "SIOOBE_FORMATTER" "Ljava/util/function/BiFunction;" ∈ lw_tbl ∧ Cond.initialized "jdk/internal/util/Preconditions" ∈ lw_tbl := by decide +kernel
set_option maxRecDepth 100000 in
theorem wt_4 : Cond.instantiable RX0 6 ∈ lw_tbl ∧ Cond.instantiable RX1 12 ∈ lw_tbl ∧ Cond.instantiable RX4 4 ∈ lw_tbl ∧ Cond.instantiable RX5 1 ∈ lw_tbl ∧ Cond.instantiable RX6 10 ∈ lw_tbl ∧ Cond.instantiable RX7 5 ∈ lw_tbl ∧ Cond.instantiable RX8 2 ∈ lw_tbl ∧ Cond.instantiable RX9 1 ∈ lw_tbl ∧ Cond.instantiable RX10 9 ∈ lw_tbl ∧ Cond.instantiable RX11 39 ∈ lw_tbl := by decide +kernel
theorem cyOf {args : Array Value} {s : State} {ty : FieldType} (hty : ∀ C, ty ≠ .object C) (h : (Cond.arrayClass ty).before args s = true) : ∃ cA : ClassId, ArrOfT s cA ty ∧ va_RA s cA ty := by
  obtain ⟨c, k, comp, h1, h2, h3⟩ := Cond.arrayClass_spec h
  refine ⟨c, fun n z => ⟨fun k h => (by cases h), k, h2, comp, h3⟩, ?_⟩
  cases ty with
  | object C => exact absurd rfl (hty C)
  | _ => exact h1
theorem cyOfO {args : Array Value} {s : State} {C : String} (h : (Cond.arrayOver (.object C)).before args s = true) : ∃ cA : ClassId, ArrOfT s cA (.object C) ∧ va_RA s cA (.object C) := by
  obtain ⟨comp, c, k, h1, h2, h3, h4, h5⟩ := Cond.arrayOver_spec h
  exact ⟨c, fun n z => ⟨fun k h => (by cases h), k, h3, comp, h4⟩, k, comp, h3, h4, h1, h5⟩
set_option maxRecDepth 100000 in
set_option maxHeartbeats 4000000 in
/-- all that stands outside the world, at the law's entry -/
theorem start_Sx {args : Array Value} {s : State} (hts : ∀ w ∈ lw_tbl, w.before args s = true) (hgv : (Jvm.Cond.and given_1 narrow_1).before args s = true) : NS s ∧ ∃ E : ET, Sx E (fun q => s.heap.size ≤ q) s s.heap := by
  have hn := flat_of_before _ hgv
  have hA : ∀ a : Nat, a < s.heap.size → ¬ (fun q : Nat => s.heap.size ≤ q) a := fun a h => Nat.not_le.mpr h
  obtain ⟨adK, adV, hvk, hev⟩ := vk_Sof (A := fun q : Nat => s.heap.size ≤ q) (tm := tmS) (len := stL) (byt := stB) (N := 14) st_31 (fun i hi => hn _ (nr_ex i hi)) (fun i hi => hn _ (nr_co i hi)) (fun i hi => hn _ (nr_ar i hi)) (fun i hi => hn _ (nr_le i hi)) (fun i hi j hj => hn _ (nr_el i hi j hj)) (fun i j hi hj hij => (nr_ne i hi j hj hij).imp (hn _) (hn _)) hA
  obtain ⟨y0, a0⟩ := cyOf (by intro C h; cases h) (hts _ wt_2.1)
  obtain ⟨y1, a1⟩ := cyOf (by intro C h; cases h) (hts _ wt_2.2.1)
  obtain ⟨y2, a2⟩ := cyOf (by intro C h; cases h) (hts _ wt_2.2.2.1)
  obtain ⟨y3, a3⟩ := cyOf (by intro C h; cases h) (hts _ wt_2.2.2.2.1)
  obtain ⟨y4, a4⟩ := cyOfO (hts _ wt_2.2.2.2.2)
  obtain ⟨c0, i0, k0⟩ := u_known (C := RX0) (T := TX0) (N := 6) (n := 6) hts inX0 (hts _ wt_4.1)
  obtain ⟨c1, i1, k1⟩ := u_known (C := RX1) (T := TX1) (N := 12) (n := 12) hts inX1 (hts _ wt_4.2.1)
  obtain ⟨c2, i2, k2⟩ := u_known (C := RX4) (T := TX4) (N := 4) (n := 4) hts inX4 (hts _ wt_4.2.2.1)
  obtain ⟨c3, i3, k3⟩ := u_known (C := RX5) (T := TX5) (N := 1) (n := 1) hts inX5 (hts _ wt_4.2.2.2.1)
  obtain ⟨c4, i4, k4⟩ := u_known (C := RX6) (T := TX6) (N := 10) (n := 10) hts inX6 (hts _ wt_4.2.2.2.2.1)
  obtain ⟨c5, i5, k5⟩ := u_known (C := RX7) (T := TX7) (N := 5) (n := 5) hts inX7 (hts _ wt_4.2.2.2.2.2.1)
  obtain ⟨c6, i6, k6⟩ := u_known (C := RX8) (T := TX8) (N := 2) (n := 2) hts inX8 (hts _ wt_4.2.2.2.2.2.2.1)
  obtain ⟨c7, i7, k7⟩ := u_known (C := RX9) (T := TX9) (N := 1) (n := 1) hts inX9 (hts _ wt_4.2.2.2.2.2.2.2.1)
  obtain ⟨c8, i8, k8⟩ := u_known (C := RX10) (T := TX10) (N := 9) (n := 9) hts inX10 (hts _ wt_4.2.2.2.2.2.2.2.2.1)
  obtain ⟨c9, i9, k9⟩ := u_known (C := RX11) (T := TX11) (N := 39) (n := 39) hts inX11 (hts _ wt_4.2.2.2.2.2.2.2.2.2)
  refine ⟨⟨va_AO.of (hts _ wt_2.2.2.2.2), va_Nw.of rfl (hts _ wt_1.2.2.1), va_Nw.of rfl (hts _ wt_1.2.2.2.1), va_Nw.of rfl (hts _ wt_1.2.2.2.2.1), va_Nw.of rfl (hts _ wt_1.2.2.2.2.2.1), va_Nw.of rfl (hts _ wt_1.2.2.2.2.2.2.1), va_Nw.of rfl (hts _ wt_1.2.2.2.2.2.2.2.1), va_Nw.of rfl (hts _ wt_1.2.2.2.2.2.2.2.2)⟩, ((fun k => [c0, c1, c2, c3, c4, c5, c6, c7, c8, c9].getD k c0, fun k => [i0, i1, i2, i3, i4, i5, i6, i7, i8, i9].getD k i0), fun _ => 0, fun k => [y0, y1, y2, y3, y4].getD k y0, adK, adV), ⟨fun k q hq => ?_, fun k q hq => ?_⟩, hvk, fun i hi => vk_R.of (hts _ (st_sr i hi)) (hev i hi), va_Nw.of rfl (hts _ wt_1.1), va_Nw.of rfl (hts _ wt_1.2.1), va_Zof (hts _ wt_3.1) (hts _ wt_3.2.1) (va_eqt (hn _ nr_cs)) hA, va_Zqof (hts _ wt_3.2.2.1) (hts _ wt_3.2.2.2) (hn _ nr_fm) hA⟩
  · match k, hq with
    | 0, hq => cases hq; exact k0
    | 1, hq => cases hq; exact k1
    | 2, hq => cases hq; exact k2
    | 3, hq => cases hq; exact k3
    | 4, hq => cases hq; exact k4
    | 5, hq => cases hq; exact k5
    | 6, hq => cases hq; exact k6
    | 7, hq => cases hq; exact k7
    | 8, hq => cases hq; exact k8
    | 9, hq => cases hq; exact k9
    | k + 10, hq => simp [vwCl] at hq
  · match k, hq with
    | 0, hq => cases hq; exact a0
    | 1, hq => cases hq; exact a1
    | 2, hq => cases hq; exact a2
    | 3, hq => cases hq; exact a3
    | 4, hq => cases hq; exact a4
    | k + 5, hq => simp [tysE] at hq
