/-! X1_clear.clear()V -/
def rmX1_clear : Room := { frames := 0, cells := 0, slots := 0, locals := 0 }
theorem yo_X1_clear : yX1_clear.cls = RX1 ∧ yX1_clear.cls ≠ "java/lang/invoke/MethodHandle" ∧ yX1_clear.cls ≠ "java/lang/invoke/VarHandle" ∧ (parseMethodDescriptor yX1_clear.desc).map (fun d => d.parameters.length) = some 0 := by decide +kernel
theorem kX1_clear_34 : Cond.fieldLink RX1 34 "SnowCourse$Country" (TX1 8).2.1 (TX1 8).2.2.1 ∈ wsX1_clear := by decide +kernel
theorem iX1_clear_X1 : ∀ w ∈ u_ws RX1 TX1 12, w ∈ wsX1_clear := by decide +kernel
theorem kX1_clear_38 : Cond.fieldLink RX1 38 "SnowCourse$Country" (TX1 9).2.1 (TX1 9).2.2.1 ∈ wsX1_clear := by decide +kernel
theorem kX1_clear_41 : Cond.fieldLink RX1 41 "SnowCourse$Country" (TX1 10).2.1 (TX1 10).2.2.1 ∈ wsX1_clear := by decide +kernel
theorem kX1_clear_44 : Cond.fieldLink RX1 44 "SnowCourse$Country" (TX1 11).2.1 (TX1 11).2.2.1 ∈ wsX1_clear := by decide +kernel
def vc_X1_clear  (I : MI) (J : MJ) (Q : MI → MJ → Prop) : Prop := ∀ I1 : MI, I1 = wI I 5 8 0 → ∀ I2 : MI, I2 = wI I1 5 9 0 → ∀ I3 : MI, I3 = wI I2 5 10 0 → ∀ J4 : MJ, J4 = wJ J 5 11 0 → Q I3 J4
set_option maxRecDepth 100000 in
set_option maxHeartbeats 4000000 in
theorem c_X1_clear (l : Launch) (E : ET)   : CV l yX1_clear wsX1_clear rmX1_clear E [.ref (ea E 5)] (vc_X1_clear ) := by
  refine CV.of (cc := cX1_clear) (maxL := 1) (own := RX1) (by decide) rfl rfl (Nat.le_of_ble_eq_true rfl) ?_
  intro Z I J Q hE hl X R h
  subst hE
  subst hl
  show GW Z 1 I J 0 [(0, .ref (ea (zE Z) 5))] []
  refine g_aload_n X dX1_clear_0 rfl 0 rfl ?_
  refine g_iconst X (v := 0) dX1_clear_1 (by decide) ?_
  refine g_puti X (C := RX1) (T := TX1) (N := 12) (ci := 1) (k := 8) (ty0 := tyX1) iX1_clear_X1 tyX1_ok nmX1 rfl kX1_clear_34 (Nat.le_of_ble_eq_true rfl) rfl (by decide) rfl rfl (by decide +kernel) rfl dX1_clear_2 ?_
  refine g_nmI (fun I1 eI1 => ?_)
  have h := h I1 eI1
  refine g_aload_n X dX1_clear_5 rfl 0 rfl ?_
  refine g_iconst X (v := 0) dX1_clear_6 (by decide) ?_
  refine g_puti X (C := RX1) (T := TX1) (N := 12) (ci := 1) (k := 9) (ty0 := tyX1) iX1_clear_X1 tyX1_ok nmX1 rfl kX1_clear_38 (Nat.le_of_ble_eq_true rfl) rfl (by decide) rfl rfl (by decide +kernel) rfl dX1_clear_7 ?_
  refine g_nmI (fun I2 eI2 => ?_)
  have h := h I2 eI2
  refine g_aload_n X dX1_clear_10 rfl 0 rfl ?_
  refine g_iconst X (v := 0) dX1_clear_11 (by decide) ?_
  refine g_puti X (C := RX1) (T := TX1) (N := 12) (ci := 1) (k := 10) (ty0 := tyX1) iX1_clear_X1 tyX1_ok nmX1 rfl kX1_clear_41 (Nat.le_of_ble_eq_true rfl) rfl (by decide) rfl rfl (by decide +kernel) rfl dX1_clear_12 ?_
  refine g_nmI (fun I3 eI3 => ?_)
  have h := h I3 eI3
  refine g_aload_n X dX1_clear_15 rfl 0 rfl ?_
  refine g_lconst X (v := 0) dX1_clear_16 (by decide) ?_
  refine g_putl X (C := RX1) (T := TX1) (N := 12) (ci := 1) (k := 11) (ty0 := tyX1) iX1_clear_X1 tyX1_ok nmX1 rfl kX1_clear_44 (Nat.le_of_ble_eq_true rfl) rfl (by decide) rfl rfl (by decide +kernel) rfl dX1_clear_17 ?_
  refine g_nmJ (fun J4 eJ4 => ?_)
  have h := h J4 eJ4
  exact g_vret X R dX1_clear_20 h

/-! X1_addPlace.addPlace(I)V -/
def rmX1_addPlace : Room := { frames := 0, cells := 0, slots := 0, locals := 0 }
theorem yo_X1_addPlace : yX1_addPlace.cls = RX1 ∧ yX1_addPlace.cls ≠ "java/lang/invoke/MethodHandle" ∧ yX1_addPlace.cls ≠ "java/lang/invoke/VarHandle" ∧ (parseMethodDescriptor yX1_addPlace.desc).map (fun d => d.parameters.length) = some 1 := by decide +kernel
theorem kX1_addPlace_34 : Cond.fieldLink RX1 34 "SnowCourse$Country" (TX1 8).2.1 (TX1 8).2.2.1 ∈ wsX1_addPlace := by decide +kernel
theorem iX1_addPlace_X1 : ∀ w ∈ u_ws RX1 TX1 12, w ∈ wsX1_addPlace := by decide +kernel
theorem kX1_addPlace_9 : Cond.fieldLink RX1 9 "SnowCourse$Country" (TX1 0).2.1 (TX1 0).2.2.1 ∈ wsX1_addPlace := by decide +kernel
def vc_X1_addPlace (p1 : Int32) (I : MI) (J : MJ) (Q : MI → MJ → Prop) : Prop := ((7 ≤ (I 5 8) → Q I J) ∧ (¬ 7 ≤ (I 5 8) → vp_in (I 5 8) 7 ∧ ∀ I3 : MI, I3 = wI I 6 (Int32.toNatClampNeg (I 5 8)) p1 → ∀ I4 : MI, I4 = wI I3 5 8 ((I3 5 8) + 1) → Q I4 J))
set_option maxRecDepth 100000 in
set_option maxHeartbeats 4000000 in
theorem c_X1_addPlace (l : Launch) (E : ET)  (p1 : Int32) : CV l yX1_addPlace wsX1_addPlace rmX1_addPlace E [.ref (ea E 5), .int p1] (vc_X1_addPlace p1) := by
  refine CV.of (cc := cX1_addPlace) (maxL := 2) (own := RX1) (by decide) rfl rfl (Nat.le_of_ble_eq_true rfl) ?_
  intro Z I J Q hE hl X R h
  subst hE
  subst hl
  show GW Z 2 I J 0 [(0, .ref (ea (zE Z) 5)), (1, .int p1)] []
  refine g_aload_n X dX1_addPlace_0 rfl 0 rfl ?_
  refine g_geti X (C := RX1) (T := TX1) (N := 12) (ci := 1) (k := 8) iX1_addPlace_X1 rfl kX1_addPlace_34 (Nat.le_of_ble_eq_true rfl) rfl (by decide) rfl rfl dX1_addPlace_1 ?_
  refine g_bipush X (v := 7) dX1_addPlace_4 (by decide) ?_
  refine g_icmp_ge X (tgt := 29) dX1_addPlace_6 (by decide) (fun c1 => ?_) (fun c1 => ?_)
  · have h := h.1 c1
    exact g_vret X R dX1_addPlace_29 h
  · have h := h.2 c1
    refine g_aload_n X dX1_addPlace_9 rfl 0 rfl ?_
    refine g_getr X (C := RX1) (T := TX1) (N := 12) (ci := 1) (k := 0) iX1_addPlace_X1 rfl kX1_addPlace_9 (Nat.le_of_ble_eq_true rfl) rfl (by decide) rfl rfl dX1_addPlace_10 ?_
    refine g_aload_n X dX1_addPlace_13 rfl 0 rfl ?_
    refine g_geti X (C := RX1) (T := TX1) (N := 12) (ci := 1) (k := 8) iX1_addPlace_X1 rfl kX1_addPlace_34 (Nat.le_of_ble_eq_true rfl) rfl (by decide) rfl rfl dX1_addPlace_14 ?_
    refine g_iload_n X dX1_addPlace_17 rfl 1 rfl ?_
    obtain ⟨b2, h⟩ := h
    refine g_iast X (Nat.le_of_ble_eq_true rfl) rfl b2 dX1_addPlace_18 ?_
    refine g_nmI (fun I3 eI3 => ?_)
    have h := h I3 eI3
    refine g_aload_n X dX1_addPlace_19 rfl 0 rfl ?_
    refine g_dup X dX1_addPlace_20 rfl ?_
    refine g_geti X (C := RX1) (T := TX1) (N := 12) (ci := 1) (k := 8) iX1_addPlace_X1 rfl kX1_addPlace_34 (Nat.le_of_ble_eq_true rfl) rfl (by decide) rfl rfl dX1_addPlace_21 ?_
    refine g_iconst X (v := 1) dX1_addPlace_24 (by decide) ?_
    refine g_iadd X dX1_addPlace_25 ?_
    refine g_puti X (C := RX1) (T := TX1) (N := 12) (ci := 1) (k := 8) (ty0 := tyX1) iX1_addPlace_X1 tyX1_ok nmX1 rfl kX1_addPlace_34 (Nat.le_of_ble_eq_true rfl) rfl (by decide) rfl rfl (by decide +kernel) rfl dX1_addPlace_26 ?_
    refine g_nmI (fun I4 eI4 => ?_)
    have h := h I4 eI4
    exact g_vret X R dX1_addPlace_29 h

/-! X1_addRoad.addRoad(IIII)V -/
def rmX1_addRoad : Room := { frames := 0, cells := 0, slots := 0, locals := 0 }
theorem yo_X1_addRoad : yX1_addRoad.cls = RX1 ∧ yX1_addRoad.cls ≠ "java/lang/invoke/MethodHandle" ∧ yX1_addRoad.cls ≠ "java/lang/invoke/VarHandle" ∧ (parseMethodDescriptor yX1_addRoad.desc).map (fun d => d.parameters.length) = some 4 := by decide +kernel
theorem kX1_addRoad_38 : Cond.fieldLink RX1 38 "SnowCourse$Country" (TX1 9).2.1 (TX1 9).2.2.1 ∈ wsX1_addRoad := by decide +kernel
theorem iX1_addRoad_X1 : ∀ w ∈ u_ws RX1 TX1 12, w ∈ wsX1_addRoad := by decide +kernel
theorem kX1_addRoad_13 : Cond.fieldLink RX1 13 "SnowCourse$Country" (TX1 1).2.1 (TX1 1).2.2.1 ∈ wsX1_addRoad := by decide +kernel
theorem kX1_addRoad_16 : Cond.fieldLink RX1 16 "SnowCourse$Country" (TX1 2).2.1 (TX1 2).2.2.1 ∈ wsX1_addRoad := by decide +kernel
theorem kX1_addRoad_19 : Cond.fieldLink RX1 19 "SnowCourse$Country" (TX1 3).2.1 (TX1 3).2.2.1 ∈ wsX1_addRoad := by decide +kernel
theorem kX1_addRoad_22 : Cond.fieldLink RX1 22 "SnowCourse$Country" (TX1 4).2.1 (TX1 4).2.2.1 ∈ wsX1_addRoad := by decide +kernel
def vc_X1_addRoad (p1 : Int32) (p2 : Int32) (p3 : Int32) (p4 : Int32) (I : MI) (J : MJ) (Q : MI → MJ → Prop) : Prop := ((9 ≤ (I 5 9) → Q I J) ∧ (¬ 9 ≤ (I 5 9) → vp_in (I 5 9) 9 ∧ ∀ I3 : MI, I3 = wI I 7 (Int32.toNatClampNeg (I 5 9)) p1 → vp_in (I3 5 9) 9 ∧ ∀ I5 : MI, I5 = wI I3 8 (Int32.toNatClampNeg (I3 5 9)) p2 → vp_in (I5 5 9) 9 ∧ ∀ I7 : MI, I7 = wI I5 9 (Int32.toNatClampNeg (I5 5 9)) p3 → vp_in (I7 5 9) 9 ∧ ∀ I9 : MI, I9 = wI I7 10 (Int32.toNatClampNeg (I7 5 9)) p4 → ∀ I10 : MI, I10 = wI I9 5 9 ((I9 5 9) + 1) → Q I10 J))
set_option maxRecDepth 100000 in
set_option maxHeartbeats 4000000 in
theorem c_X1_addRoad (l : Launch) (E : ET)  (p1 : Int32) (p2 : Int32) (p3 : Int32) (p4 : Int32) : CV l yX1_addRoad wsX1_addRoad rmX1_addRoad E [.ref (ea E 5), .int p1, .int p2, .int p3, .int p4] (vc_X1_addRoad p1 p2 p3 p4) := by
  refine CV.of (cc := cX1_addRoad) (maxL := 5) (own := RX1) (by decide) rfl rfl (Nat.le_of_ble_eq_true rfl) ?_
  intro Z I J Q hE hl X R h
  subst hE
  subst hl
  show GW Z 5 I J 0 [(0, .ref (ea (zE Z) 5)), (1, .int p1), (2, .int p2), (3, .int p3), (4, .int p4)] []
  refine g_aload_n X dX1_addRoad_0 rfl 0 rfl ?_
  refine g_geti X (C := RX1) (T := TX1) (N := 12) (ci := 1) (k := 9) iX1_addRoad_X1 rfl kX1_addRoad_38 (Nat.le_of_ble_eq_true rfl) rfl (by decide) rfl rfl dX1_addRoad_1 ?_
  refine g_bipush X (v := 9) dX1_addRoad_4 (by decide) ?_
  refine g_icmp_ge X (tgt := 60) dX1_addRoad_6 (by decide) (fun c1 => ?_) (fun c1 => ?_)
  · have h := h.1 c1
    exact g_vret X R dX1_addRoad_60 h
  · have h := h.2 c1
    refine g_aload_n X dX1_addRoad_9 rfl 0 rfl ?_
    refine g_getr X (C := RX1) (T := TX1) (N := 12) (ci := 1) (k := 1) iX1_addRoad_X1 rfl kX1_addRoad_13 (Nat.le_of_ble_eq_true rfl) rfl (by decide) rfl rfl dX1_addRoad_10 ?_
    refine g_aload_n X dX1_addRoad_13 rfl 0 rfl ?_
    refine g_geti X (C := RX1) (T := TX1) (N := 12) (ci := 1) (k := 9) iX1_addRoad_X1 rfl kX1_addRoad_38 (Nat.le_of_ble_eq_true rfl) rfl (by decide) rfl rfl dX1_addRoad_14 ?_
    refine g_iload_n X dX1_addRoad_17 rfl 1 rfl ?_
    obtain ⟨b2, h⟩ := h
    refine g_iast X (Nat.le_of_ble_eq_true rfl) rfl b2 dX1_addRoad_18 ?_
    refine g_nmI (fun I3 eI3 => ?_)
    have h := h I3 eI3
    refine g_aload_n X dX1_addRoad_19 rfl 0 rfl ?_
    refine g_getr X (C := RX1) (T := TX1) (N := 12) (ci := 1) (k := 2) iX1_addRoad_X1 rfl kX1_addRoad_16 (Nat.le_of_ble_eq_true rfl) rfl (by decide) rfl rfl dX1_addRoad_20 ?_
    refine g_aload_n X dX1_addRoad_23 rfl 0 rfl ?_
    refine g_geti X (C := RX1) (T := TX1) (N := 12) (ci := 1) (k := 9) iX1_addRoad_X1 rfl kX1_addRoad_38 (Nat.le_of_ble_eq_true rfl) rfl (by decide) rfl rfl dX1_addRoad_24 ?_
    refine g_iload_n X dX1_addRoad_27 rfl 2 rfl ?_
    obtain ⟨b4, h⟩ := h
    refine g_iast X (Nat.le_of_ble_eq_true rfl) rfl b4 dX1_addRoad_28 ?_
    refine g_nmI (fun I5 eI5 => ?_)
    have h := h I5 eI5
    refine g_aload_n X dX1_addRoad_29 rfl 0 rfl ?_
    refine g_getr X (C := RX1) (T := TX1) (N := 12) (ci := 1) (k := 3) iX1_addRoad_X1 rfl kX1_addRoad_19 (Nat.le_of_ble_eq_true rfl) rfl (by decide) rfl rfl dX1_addRoad_30 ?_
    refine g_aload_n X dX1_addRoad_33 rfl 0 rfl ?_
    refine g_geti X (C := RX1) (T := TX1) (N := 12) (ci := 1) (k := 9) iX1_addRoad_X1 rfl kX1_addRoad_38 (Nat.le_of_ble_eq_true rfl) rfl (by decide) rfl rfl dX1_addRoad_34 ?_
    refine g_iload_n X dX1_addRoad_37 rfl 3 rfl ?_
    obtain ⟨b6, h⟩ := h
    refine g_iast X (Nat.le_of_ble_eq_true rfl) rfl b6 dX1_addRoad_38 ?_
    refine g_nmI (fun I7 eI7 => ?_)
    have h := h I7 eI7
    refine g_aload_n X dX1_addRoad_39 rfl 0 rfl ?_
    refine g_getr X (C := RX1) (T := TX1) (N := 12) (ci := 1) (k := 4) iX1_addRoad_X1 rfl kX1_addRoad_22 (Nat.le_of_ble_eq_true rfl) rfl (by decide) rfl rfl dX1_addRoad_40 ?_
    refine g_aload_n X dX1_addRoad_43 rfl 0 rfl ?_
    refine g_geti X (C := RX1) (T := TX1) (N := 12) (ci := 1) (k := 9) iX1_addRoad_X1 rfl kX1_addRoad_38 (Nat.le_of_ble_eq_true rfl) rfl (by decide) rfl rfl dX1_addRoad_44 ?_
    refine g_iload X dX1_addRoad_47 4 rfl ?_
    obtain ⟨b8, h⟩ := h
    refine g_iast X (Nat.le_of_ble_eq_true rfl) rfl b8 dX1_addRoad_49 ?_
    refine g_nmI (fun I9 eI9 => ?_)
    have h := h I9 eI9
    refine g_aload_n X dX1_addRoad_50 rfl 0 rfl ?_
    refine g_dup X dX1_addRoad_51 rfl ?_
    refine g_geti X (C := RX1) (T := TX1) (N := 12) (ci := 1) (k := 9) iX1_addRoad_X1 rfl kX1_addRoad_38 (Nat.le_of_ble_eq_true rfl) rfl (by decide) rfl rfl dX1_addRoad_52 ?_
    refine g_iconst X (v := 1) dX1_addRoad_55 (by decide) ?_
    refine g_iadd X dX1_addRoad_56 ?_
    refine g_puti X (C := RX1) (T := TX1) (N := 12) (ci := 1) (k := 9) (ty0 := tyX1) iX1_addRoad_X1 tyX1_ok nmX1 rfl kX1_addRoad_38 (Nat.le_of_ble_eq_true rfl) rfl (by decide) rfl rfl (by decide +kernel) rfl dX1_addRoad_57 ?_
    refine g_nmI (fun I10 eI10 => ?_)
    have h := h I10 eI10
    exact g_vret X R dX1_addRoad_60 h

/-! X1_addCart.addCart(III)V -/
def rmX1_addCart : Room := { frames := 0, cells := 0, slots := 0, locals := 0 }
theorem yo_X1_addCart : yX1_addCart.cls = RX1 ∧ yX1_addCart.cls ≠ "java/lang/invoke/MethodHandle" ∧ yX1_addCart.cls ≠ "java/lang/invoke/VarHandle" ∧ (parseMethodDescriptor yX1_addCart.desc).map (fun d => d.parameters.length) = some 3 := by decide +kernel
theorem kX1_addCart_41 : Cond.fieldLink RX1 41 "SnowCourse$Country" (TX1 10).2.1 (TX1 10).2.2.1 ∈ wsX1_addCart := by decide +kernel
theorem iX1_addCart_X1 : ∀ w ∈ u_ws RX1 TX1 12, w ∈ wsX1_addCart := by decide +kernel
theorem kX1_addCart_25 : Cond.fieldLink RX1 25 "SnowCourse$Country" (TX1 5).2.1 (TX1 5).2.2.1 ∈ wsX1_addCart := by decide +kernel
theorem kX1_addCart_28 : Cond.fieldLink RX1 28 "SnowCourse$Country" (TX1 6).2.1 (TX1 6).2.2.1 ∈ wsX1_addCart := by decide +kernel
theorem kX1_addCart_31 : Cond.fieldLink RX1 31 "SnowCourse$Country" (TX1 7).2.1 (TX1 7).2.2.1 ∈ wsX1_addCart := by decide +kernel
def vc_X1_addCart (p1 : Int32) (p2 : Int32) (p3 : Int32) (I : MI) (J : MJ) (Q : MI → MJ → Prop) : Prop := ((4 ≤ (I 5 10) → Q I J) ∧ (¬ 4 ≤ (I 5 10) → vp_in (I 5 10) 4 ∧ ∀ I3 : MI, I3 = wI I 11 (Int32.toNatClampNeg (I 5 10)) p1 → vp_in (I3 5 10) 4 ∧ ∀ I5 : MI, I5 = wI I3 12 (Int32.toNatClampNeg (I3 5 10)) p2 → vp_in (I5 5 10) 4 ∧ ∀ I7 : MI, I7 = wI I5 13 (Int32.toNatClampNeg (I5 5 10)) p3 → ∀ I8 : MI, I8 = wI I7 5 10 ((I7 5 10) + 1) → Q I8 J))
set_option maxRecDepth 100000 in
set_option maxHeartbeats 4000000 in
theorem c_X1_addCart (l : Launch) (E : ET)  (p1 : Int32) (p2 : Int32) (p3 : Int32) : CV l yX1_addCart wsX1_addCart rmX1_addCart E [.ref (ea E 5), .int p1, .int p2, .int p3] (vc_X1_addCart p1 p2 p3) := by
  refine CV.of (cc := cX1_addCart) (maxL := 4) (own := RX1) (by decide) rfl rfl (Nat.le_of_ble_eq_true rfl) ?_
  intro Z I J Q hE hl X R h
  subst hE
  subst hl
  show GW Z 4 I J 0 [(0, .ref (ea (zE Z) 5)), (1, .int p1), (2, .int p2), (3, .int p3)] []
  refine g_aload_n X dX1_addCart_0 rfl 0 rfl ?_
  refine g_geti X (C := RX1) (T := TX1) (N := 12) (ci := 1) (k := 10) iX1_addCart_X1 rfl kX1_addCart_41 (Nat.le_of_ble_eq_true rfl) rfl (by decide) rfl rfl dX1_addCart_1 ?_
  refine g_iconst X (v := 4) dX1_addCart_4 (by decide) ?_
  refine g_icmp_ge X (tgt := 48) dX1_addCart_5 (by decide) (fun c1 => ?_) (fun c1 => ?_)
  · have h := h.1 c1
    exact g_vret X R dX1_addCart_48 h
  · have h := h.2 c1
    refine g_aload_n X dX1_addCart_8 rfl 0 rfl ?_
    refine g_getr X (C := RX1) (T := TX1) (N := 12) (ci := 1) (k := 5) iX1_addCart_X1 rfl kX1_addCart_25 (Nat.le_of_ble_eq_true rfl) rfl (by decide) rfl rfl dX1_addCart_9 ?_
    refine g_aload_n X dX1_addCart_12 rfl 0 rfl ?_
    refine g_geti X (C := RX1) (T := TX1) (N := 12) (ci := 1) (k := 10) iX1_addCart_X1 rfl kX1_addCart_41 (Nat.le_of_ble_eq_true rfl) rfl (by decide) rfl rfl dX1_addCart_13 ?_
    refine g_iload_n X dX1_addCart_16 rfl 1 rfl ?_
    obtain ⟨b2, h⟩ := h
    refine g_iast X (Nat.le_of_ble_eq_true rfl) rfl b2 dX1_addCart_17 ?_
    refine g_nmI (fun I3 eI3 => ?_)
    have h := h I3 eI3
    refine g_aload_n X dX1_addCart_18 rfl 0 rfl ?_
    refine g_getr X (C := RX1) (T := TX1) (N := 12) (ci := 1) (k := 6) iX1_addCart_X1 rfl kX1_addCart_28 (Nat.le_of_ble_eq_true rfl) rfl (by decide) rfl rfl dX1_addCart_19 ?_
    refine g_aload_n X dX1_addCart_22 rfl 0 rfl ?_
    refine g_geti X (C := RX1) (T := TX1) (N := 12) (ci := 1) (k := 10) iX1_addCart_X1 rfl kX1_addCart_41 (Nat.le_of_ble_eq_true rfl) rfl (by decide) rfl rfl dX1_addCart_23 ?_
    refine g_iload_n X dX1_addCart_26 rfl 2 rfl ?_
    obtain ⟨b4, h⟩ := h
    refine g_iast X (Nat.le_of_ble_eq_true rfl) rfl b4 dX1_addCart_27 ?_
    refine g_nmI (fun I5 eI5 => ?_)
    have h := h I5 eI5
    refine g_aload_n X dX1_addCart_28 rfl 0 rfl ?_
    refine g_getr X (C := RX1) (T := TX1) (N := 12) (ci := 1) (k := 7) iX1_addCart_X1 rfl kX1_addCart_31 (Nat.le_of_ble_eq_true rfl) rfl (by decide) rfl rfl dX1_addCart_29 ?_
    refine g_aload_n X dX1_addCart_32 rfl 0 rfl ?_
    refine g_geti X (C := RX1) (T := TX1) (N := 12) (ci := 1) (k := 10) iX1_addCart_X1 rfl kX1_addCart_41 (Nat.le_of_ble_eq_true rfl) rfl (by decide) rfl rfl dX1_addCart_33 ?_
    refine g_iload_n X dX1_addCart_36 rfl 3 rfl ?_
    obtain ⟨b6, h⟩ := h
    refine g_iast X (Nat.le_of_ble_eq_true rfl) rfl b6 dX1_addCart_37 ?_
    refine g_nmI (fun I7 eI7 => ?_)
    have h := h I7 eI7
    refine g_aload_n X dX1_addCart_38 rfl 0 rfl ?_
    refine g_dup X dX1_addCart_39 rfl ?_
    refine g_geti X (C := RX1) (T := TX1) (N := 12) (ci := 1) (k := 10) iX1_addCart_X1 rfl kX1_addCart_41 (Nat.le_of_ble_eq_true rfl) rfl (by decide) rfl rfl dX1_addCart_40 ?_
    refine g_iconst X (v := 1) dX1_addCart_43 (by decide) ?_
    refine g_iadd X dX1_addCart_44 ?_
    refine g_puti X (C := RX1) (T := TX1) (N := 12) (ci := 1) (k := 10) (ty0 := tyX1) iX1_addCart_X1 tyX1_ok nmX1 rfl kX1_addCart_41 (Nat.le_of_ble_eq_true rfl) rfl (by decide) rfl rfl (by decide +kernel) rfl dX1_addCart_45 ?_
    refine g_nmI (fun I8 eI8 => ?_)
    have h := h I8 eI8
    exact g_vret X R dX1_addCart_48 h

/-! X1_hasPlace.hasPlace(I)Z -/
def rmX1_hasPlace : Room := { frames := 0, cells := 0, slots := 0, locals := 0 }
theorem yo_X1_hasPlace : yX1_hasPlace.cls = RX1 ∧ yX1_hasPlace.cls ≠ "java/lang/invoke/MethodHandle" ∧ yX1_hasPlace.cls ≠ "java/lang/invoke/VarHandle" ∧ (parseMethodDescriptor yX1_hasPlace.desc).map (fun d => d.parameters.length) = some 1 := by decide +kernel
theorem kX1_hasPlace_34 : Cond.fieldLink RX1 34 "SnowCourse$Country" (TX1 8).2.1 (TX1 8).2.2.1 ∈ wsX1_hasPlace := by decide +kernel
theorem iX1_hasPlace_X1 : ∀ w ∈ u_ws RX1 TX1 12, w ∈ wsX1_hasPlace := by decide +kernel
def vc_X1_hasPlace (p1 : Int32) (I : MI) (J : MJ) (Q : Int32 → MI → MJ → Prop) : Prop := ((p1 < 0 → Q 0 I J) ∧ (¬ p1 < 0 → (((I 5 8) ≤ p1 → Q 0 I J) ∧ (¬ (I 5 8) ≤ p1 → Q 1 I J))))
set_option maxRecDepth 100000 in
set_option maxHeartbeats 4000000 in
theorem c_X1_hasPlace (l : Launch) (E : ET)  (p1 : Int32) : CI l yX1_hasPlace wsX1_hasPlace rmX1_hasPlace E [.ref (ea E 5), .int p1] (vc_X1_hasPlace p1) := by
  refine CI.of (cc := cX1_hasPlace) (maxL := 2) (own := RX1) (by decide) rfl rfl (Nat.le_of_ble_eq_true rfl) ?_
  intro Z I J Q hE hl X R h
  subst hE
  subst hl
  show GW Z 2 I J 0 [(0, .ref (ea (zE Z) 5)), (1, .int p1)] []
  refine g_iload_n X dX1_hasPlace_0 rfl 1 rfl ?_
  refine g_if_lt X (tgt := 16) dX1_hasPlace_1 (by decide) (fun c1 => ?_) (fun c1 => ?_)
  · have h := h.1 c1
    refine g_iconst X (v := 0) dX1_hasPlace_16 (by decide) ?_
    exact g_zret X R (by decide) dX1_hasPlace_17 h
  · have h := h.2 c1
    refine g_iload_n X dX1_hasPlace_4 rfl 1 rfl ?_
    refine g_aload_n X dX1_hasPlace_5 rfl 0 rfl ?_
    refine g_geti X (C := RX1) (T := TX1) (N := 12) (ci := 1) (k := 8) iX1_hasPlace_X1 rfl kX1_hasPlace_34 (Nat.le_of_ble_eq_true rfl) rfl (by decide) rfl rfl dX1_hasPlace_6 ?_
    refine g_icmp_ge X (tgt := 16) dX1_hasPlace_9 (by decide) (fun c2 => ?_) (fun c2 => ?_)
    · have h := h.1 c2
      refine g_iconst X (v := 0) dX1_hasPlace_16 (by decide) ?_
      exact g_zret X R (by decide) dX1_hasPlace_17 h
    · have h := h.2 c2
      refine g_iconst X (v := 1) dX1_hasPlace_12 (by decide) ?_
      refine g_goto X (tgt := 17) dX1_hasPlace_13 (by decide) ?_
      exact g_zret X R (by decide) dX1_hasPlace_17 h

/-! X1_hasRoad.hasRoad(I)Z -/
def rmX1_hasRoad : Room := { frames := 0, cells := 0, slots := 0, locals := 0 }
theorem yo_X1_hasRoad : yX1_hasRoad.cls = RX1 ∧ yX1_hasRoad.cls ≠ "java/lang/invoke/MethodHandle" ∧ yX1_hasRoad.cls ≠ "java/lang/invoke/VarHandle" ∧ (parseMethodDescriptor yX1_hasRoad.desc).map (fun d => d.parameters.length) = some 1 := by decide +kernel
theorem kX1_hasRoad_38 : Cond.fieldLink RX1 38 "SnowCourse$Country" (TX1 9).2.1 (TX1 9).2.2.1 ∈ wsX1_hasRoad := by decide +kernel
theorem iX1_hasRoad_X1 : ∀ w ∈ u_ws RX1 TX1 12, w ∈ wsX1_hasRoad := by decide +kernel
def vc_X1_hasRoad (p1 : Int32) (I : MI) (J : MJ) (Q : Int32 → MI → MJ → Prop) : Prop := ((p1 < 0 → Q 0 I J) ∧ (¬ p1 < 0 → (((I 5 9) ≤ p1 → Q 0 I J) ∧ (¬ (I 5 9) ≤ p1 → Q 1 I J))))
set_option maxRecDepth 100000 in
set_option maxHeartbeats 4000000 in
theorem c_X1_hasRoad (l : Launch) (E : ET)  (p1 : Int32) : CI l yX1_hasRoad wsX1_hasRoad rmX1_hasRoad E [.ref (ea E 5), .int p1] (vc_X1_hasRoad p1) := by
  refine CI.of (cc := cX1_hasRoad) (maxL := 2) (own := RX1) (by decide) rfl rfl (Nat.le_of_ble_eq_true rfl) ?_
  intro Z I J Q hE hl X R h
  subst hE
  subst hl
  show GW Z 2 I J 0 [(0, .ref (ea (zE Z) 5)), (1, .int p1)] []
  refine g_iload_n X dX1_hasRoad_0 rfl 1 rfl ?_
  refine g_if_lt X (tgt := 16) dX1_hasRoad_1 (by decide) (fun c1 => ?_) (fun c1 => ?_)
  · have h := h.1 c1
    refine g_iconst X (v := 0) dX1_hasRoad_16 (by decide) ?_
    exact g_zret X R (by decide) dX1_hasRoad_17 h
  · have h := h.2 c1
    refine g_iload_n X dX1_hasRoad_4 rfl 1 rfl ?_
    refine g_aload_n X dX1_hasRoad_5 rfl 0 rfl ?_
    refine g_geti X (C := RX1) (T := TX1) (N := 12) (ci := 1) (k := 9) iX1_hasRoad_X1 rfl kX1_hasRoad_38 (Nat.le_of_ble_eq_true rfl) rfl (by decide) rfl rfl dX1_hasRoad_6 ?_
    refine g_icmp_ge X (tgt := 16) dX1_hasRoad_9 (by decide) (fun c2 => ?_) (fun c2 => ?_)
    · have h := h.1 c2
      refine g_iconst X (v := 0) dX1_hasRoad_16 (by decide) ?_
      exact g_zret X R (by decide) dX1_hasRoad_17 h
    · have h := h.2 c2
      refine g_iconst X (v := 1) dX1_hasRoad_12 (by decide) ?_
      refine g_goto X (tgt := 17) dX1_hasRoad_13 (by decide) ?_
      exact g_zret X R (by decide) dX1_hasRoad_17 h

/-! X1_hasCart.hasCart(I)Z -/
def rmX1_hasCart : Room := { frames := 0, cells := 0, slots := 0, locals := 0 }
theorem yo_X1_hasCart : yX1_hasCart.cls = RX1 ∧ yX1_hasCart.cls ≠ "java/lang/invoke/MethodHandle" ∧ yX1_hasCart.cls ≠ "java/lang/invoke/VarHandle" ∧ (parseMethodDescriptor yX1_hasCart.desc).map (fun d => d.parameters.length) = some 1 := by decide +kernel
theorem kX1_hasCart_41 : Cond.fieldLink RX1 41 "SnowCourse$Country" (TX1 10).2.1 (TX1 10).2.2.1 ∈ wsX1_hasCart := by decide +kernel
theorem iX1_hasCart_X1 : ∀ w ∈ u_ws RX1 TX1 12, w ∈ wsX1_hasCart := by decide +kernel
def vc_X1_hasCart (p1 : Int32) (I : MI) (J : MJ) (Q : Int32 → MI → MJ → Prop) : Prop := ((p1 < 0 → Q 0 I J) ∧ (¬ p1 < 0 → (((I 5 10) ≤ p1 → Q 0 I J) ∧ (¬ (I 5 10) ≤ p1 → Q 1 I J))))
set_option maxRecDepth 100000 in
set_option maxHeartbeats 4000000 in
theorem c_X1_hasCart (l : Launch) (E : ET)  (p1 : Int32) : CI l yX1_hasCart wsX1_hasCart rmX1_hasCart E [.ref (ea E 5), .int p1] (vc_X1_hasCart p1) := by
  refine CI.of (cc := cX1_hasCart) (maxL := 2) (own := RX1) (by decide) rfl rfl (Nat.le_of_ble_eq_true rfl) ?_
  intro Z I J Q hE hl X R h
  subst hE
  subst hl
  show GW Z 2 I J 0 [(0, .ref (ea (zE Z) 5)), (1, .int p1)] []
  refine g_iload_n X dX1_hasCart_0 rfl 1 rfl ?_
  refine g_if_lt X (tgt := 16) dX1_hasCart_1 (by decide) (fun c1 => ?_) (fun c1 => ?_)
  · have h := h.1 c1
    refine g_iconst X (v := 0) dX1_hasCart_16 (by decide) ?_
    exact g_zret X R (by decide) dX1_hasCart_17 h
  · have h := h.2 c1
    refine g_iload_n X dX1_hasCart_4 rfl 1 rfl ?_
    refine g_aload_n X dX1_hasCart_5 rfl 0 rfl ?_
    refine g_geti X (C := RX1) (T := TX1) (N := 12) (ci := 1) (k := 10) iX1_hasCart_X1 rfl kX1_hasCart_41 (Nat.le_of_ble_eq_true rfl) rfl (by decide) rfl rfl dX1_hasCart_6 ?_
    refine g_icmp_ge X (tgt := 16) dX1_hasCart_9 (by decide) (fun c2 => ?_) (fun c2 => ?_)
    · have h := h.1 c2
      refine g_iconst X (v := 0) dX1_hasCart_16 (by decide) ?_
      exact g_zret X R (by decide) dX1_hasCart_17 h
    · have h := h.2 c2
      refine g_iconst X (v := 1) dX1_hasCart_12 (by decide) ?_
      refine g_goto X (tgt := 17) dX1_hasCart_13 (by decide) ?_
      exact g_zret X R (by decide) dX1_hasCart_17 h

/-! X1_cartIs.cartIs(II)Z -/
def rmX1_cartIs : Room := { frames := 0, cells := 0, slots := 0, locals := 0 }
theorem yo_X1_cartIs : yX1_cartIs.cls = RX1 ∧ yX1_cartIs.cls ≠ "java/lang/invoke/MethodHandle" ∧ yX1_cartIs.cls ≠ "java/lang/invoke/VarHandle" ∧ (parseMethodDescriptor yX1_cartIs.desc).map (fun d => d.parameters.length) = some 2 := by decide +kernel
theorem kX1_cartIs_25 : Cond.fieldLink RX1 25 "SnowCourse$Country" (TX1 5).2.1 (TX1 5).2.2.1 ∈ wsX1_cartIs := by decide +kernel
theorem iX1_cartIs_X1 : ∀ w ∈ u_ws RX1 TX1 12, w ∈ wsX1_cartIs := by decide +kernel
def vc_X1_cartIs (p1 : Int32) (p2 : Int32) (I : MI) (J : MJ) (Q : Int32 → MI → MJ → Prop) : Prop := vp_in p1 4 ∧ ((((I 11 (Int32.toNatClampNeg p1)) + 1) < p2 → Q 0 I J) ∧ (¬ ((I 11 (Int32.toNatClampNeg p1)) + 1) < p2 → Q 1 I J))
set_option maxRecDepth 100000 in
set_option maxHeartbeats 4000000 in
theorem c_X1_cartIs (l : Launch) (E : ET)  (p1 : Int32) (p2 : Int32) : CI l yX1_cartIs wsX1_cartIs rmX1_cartIs E [.ref (ea E 5), .int p1, .int p2] (vc_X1_cartIs p1 p2) := by
  refine CI.of (cc := cX1_cartIs) (maxL := 3) (own := RX1) (by decide) rfl rfl (Nat.le_of_ble_eq_true rfl) ?_
  intro Z I J Q hE hl X R h
  subst hE
  subst hl
  show GW Z 3 I J 0 [(0, .ref (ea (zE Z) 5)), (1, .int p1), (2, .int p2)] []
  refine g_iload_n X dX1_cartIs_0 rfl 2 rfl ?_
  refine g_aload_n X dX1_cartIs_1 rfl 0 rfl ?_
  refine g_getr X (C := RX1) (T := TX1) (N := 12) (ci := 1) (k := 5) iX1_cartIs_X1 rfl kX1_cartIs_25 (Nat.le_of_ble_eq_true rfl) rfl (by decide) rfl rfl dX1_cartIs_2 ?_
  refine g_iload_n X dX1_cartIs_5 rfl 1 rfl ?_
  obtain ⟨b1, h⟩ := h
  refine g_iald X (Nat.le_of_ble_eq_true rfl) rfl b1 dX1_cartIs_6 ?_
  refine g_iconst X (v := 1) dX1_cartIs_7 (by decide) ?_
  refine g_iadd X dX1_cartIs_8 ?_
  refine g_icmp_gt X (tgt := 16) dX1_cartIs_9 (by decide) (fun c2 => ?_) (fun c2 => ?_)
  · have h := h.1 c2
    refine g_iconst X (v := 0) dX1_cartIs_16 (by decide) ?_
    exact g_zret X R (by decide) dX1_cartIs_17 h
  · have h := h.2 c2
    refine g_iconst X (v := 1) dX1_cartIs_12 (by decide) ?_
    refine g_goto X (tgt := 17) dX1_cartIs_13 (by decide) ?_
    exact g_zret X R (by decide) dX1_cartIs_17 h

/-! X1_roadIs.roadIs(II)Z -/
def rmX1_roadIs : Room := { frames := 0, cells := 0, slots := 0, locals := 0 }
theorem yo_X1_roadIs : yX1_roadIs.cls = RX1 ∧ yX1_roadIs.cls ≠ "java/lang/invoke/MethodHandle" ∧ yX1_roadIs.cls ≠ "java/lang/invoke/VarHandle" ∧ (parseMethodDescriptor yX1_roadIs.desc).map (fun d => d.parameters.length) = some 2 := by decide +kernel
theorem kX1_roadIs_13 : Cond.fieldLink RX1 13 "SnowCourse$Country" (TX1 1).2.1 (TX1 1).2.2.1 ∈ wsX1_roadIs := by decide +kernel
theorem iX1_roadIs_X1 : ∀ w ∈ u_ws RX1 TX1 12, w ∈ wsX1_roadIs := by decide +kernel
def vc_X1_roadIs (p1 : Int32) (p2 : Int32) (I : MI) (J : MJ) (Q : Int32 → MI → MJ → Prop) : Prop := vp_in p1 9 ∧ ∀ x2 : Int32, x2 = I 7 (Int32.toNatClampNeg p1) → ((p2 = 0 → Q 1 I J) ∧ (¬ p2 = 0 → ((p2 = (x2 + 1) → Q 1 I J) ∧ (¬ p2 = (x2 + 1) → ((¬ p2 = 1 → Q 0 I J) ∧ (p2 = 1 → ((¬ x2 = 2 → Q 0 I J) ∧ (x2 = 2 → Q 1 I J))))))))
set_option maxRecDepth 100000 in
set_option maxHeartbeats 4000000 in
theorem c_X1_roadIs (l : Launch) (E : ET)  (p1 : Int32) (p2 : Int32) : CI l yX1_roadIs wsX1_roadIs rmX1_roadIs E [.ref (ea E 5), .int p1, .int p2] (vc_X1_roadIs p1 p2) := by
  refine CI.of (cc := cX1_roadIs) (maxL := 4) (own := RX1) (by decide) rfl rfl (Nat.le_of_ble_eq_true rfl) ?_
  intro Z I J Q hE hl X R h
  subst hE
  subst hl
  show GW Z 4 I J 0 [(0, .ref (ea (zE Z) 5)), (1, .int p1), (2, .int p2)] []
  refine g_aload_n X dX1_roadIs_0 rfl 0 rfl ?_
  refine g_getr X (C := RX1) (T := TX1) (N := 12) (ci := 1) (k := 1) iX1_roadIs_X1 rfl kX1_roadIs_13 (Nat.le_of_ble_eq_true rfl) rfl (by decide) rfl rfl dX1_roadIs_1 ?_
  refine g_iload_n X dX1_roadIs_4 rfl 1 rfl ?_
  obtain ⟨b1, h⟩ := h
  refine g_iald X (Nat.le_of_ble_eq_true rfl) rfl b1 dX1_roadIs_5 ?_
  refine g_topi (fun x2 ex2 => ?_)
  have h := h x2 ex2
  refine g_istore_n X (lv' := [(3, .int x2), (0, .ref (ea (zE Z) 5)), (1, .int p1), (2, .int p2)]) dX1_roadIs_6 rfl (by decide) rfl ?_
  refine g_iload_n X dX1_roadIs_7 rfl 3 rfl ?_
  refine g_if_eq X (tgt := 28) dX1_roadIs_8 (by decide) (fun c3 => ?_) (fun c3 => ?_)
  · have h := h.1 c3
    refine g_iconst X (v := 1) dX1_roadIs_28 (by decide) ?_
    refine g_goto X (tgt := 33) dX1_roadIs_29 (by decide) ?_
    exact g_zret X R (by decide) dX1_roadIs_33 h
  · have h := h.2 c3
    refine g_iload_n X dX1_roadIs_11 rfl 3 rfl ?_
    refine g_iload_n X dX1_roadIs_12 rfl 0 rfl ?_
    refine g_iconst X (v := 1) dX1_roadIs_13 (by decide) ?_
    refine g_iadd X dX1_roadIs_14 ?_
    refine g_icmp_eq X (tgt := 28) dX1_roadIs_15 (by decide) (fun c4 => ?_) (fun c4 => ?_)
    · have h := h.1 c4
      refine g_iconst X (v := 1) dX1_roadIs_28 (by decide) ?_
      refine g_goto X (tgt := 33) dX1_roadIs_29 (by decide) ?_
      exact g_zret X R (by decide) dX1_roadIs_33 h
    · have h := h.2 c4
      refine g_iload_n X dX1_roadIs_18 rfl 3 rfl ?_
      refine g_iconst X (v := 1) dX1_roadIs_19 (by decide) ?_
      refine g_icmp_ne X (tgt := 32) dX1_roadIs_20 (by decide) (fun c5 => ?_) (fun c5 => ?_)
      · have h := h.1 c5
        refine g_iconst X (v := 0) dX1_roadIs_32 (by decide) ?_
        exact g_zret X R (by decide) dX1_roadIs_33 h
      · have h := h.2 c5
        refine g_iload_n X dX1_roadIs_23 rfl 0 rfl ?_
        refine g_iconst X (v := 2) dX1_roadIs_24 (by decide) ?_
        refine g_icmp_ne X (tgt := 32) dX1_roadIs_25 (by decide) (fun c6 => ?_) (fun c6 => ?_)
        · have h := h.1 c6
          refine g_iconst X (v := 0) dX1_roadIs_32 (by decide) ?_
          exact g_zret X R (by decide) dX1_roadIs_33 h
        · have h := h.2 c6
          refine g_iconst X (v := 1) dX1_roadIs_28 (by decide) ?_
          refine g_goto X (tgt := 33) dX1_roadIs_29 (by decide) ?_
          exact g_zret X R (by decide) dX1_roadIs_33 h

/-! X1_touches.touches(II)Z -/
def rmX1_touches : Room := { frames := 0, cells := 0, slots := 0, locals := 0 }
theorem yo_X1_touches : yX1_touches.cls = RX1 ∧ yX1_touches.cls ≠ "java/lang/invoke/MethodHandle" ∧ yX1_touches.cls ≠ "java/lang/invoke/VarHandle" ∧ (parseMethodDescriptor yX1_touches.desc).map (fun d => d.parameters.length) = some 2 := by decide +kernel
theorem kX1_touches_16 : Cond.fieldLink RX1 16 "SnowCourse$Country" (TX1 2).2.1 (TX1 2).2.2.1 ∈ wsX1_touches := by decide +kernel
theorem iX1_touches_X1 : ∀ w ∈ u_ws RX1 TX1 12, w ∈ wsX1_touches := by decide +kernel
theorem kX1_touches_19 : Cond.fieldLink RX1 19 "SnowCourse$Country" (TX1 3).2.1 (TX1 3).2.2.1 ∈ wsX1_touches := by decide +kernel
def vc_X1_touches (p1 : Int32) (p2 : Int32) (I : MI) (J : MJ) (Q : Int32 → MI → MJ → Prop) : Prop := vp_in p1 9 ∧ (((I 8 (Int32.toNatClampNeg p1)) = p2 → Q 1 I J) ∧ (¬ (I 8 (Int32.toNatClampNeg p1)) = p2 → vp_in p1 9 ∧ ((¬ (I 9 (Int32.toNatClampNeg p1)) = p2 → Q 0 I J) ∧ ((I 9 (Int32.toNatClampNeg p1)) = p2 → Q 1 I J))))
set_option maxRecDepth 100000 in
set_option maxHeartbeats 4000000 in
theorem c_X1_touches (l : Launch) (E : ET)  (p1 : Int32) (p2 : Int32) : CI l yX1_touches wsX1_touches rmX1_touches E [.ref (ea E 5), .int p1, .int p2] (vc_X1_touches p1 p2) := by
  refine CI.of (cc := cX1_touches) (maxL := 3) (own := RX1) (by decide) rfl rfl (Nat.le_of_ble_eq_true rfl) ?_
  intro Z I J Q hE hl X R h
  subst hE
  subst hl
  show GW Z 3 I J 0 [(0, .ref (ea (zE Z) 5)), (1, .int p1), (2, .int p2)] []
  refine g_aload_n X dX1_touches_0 rfl 0 rfl ?_
  refine g_getr X (C := RX1) (T := TX1) (N := 12) (ci := 1) (k := 2) iX1_touches_X1 rfl kX1_touches_16 (Nat.le_of_ble_eq_true rfl) rfl (by decide) rfl rfl dX1_touches_1 ?_
  refine g_iload_n X dX1_touches_4 rfl 1 rfl ?_
  obtain ⟨b1, h⟩ := h
  refine g_iald X (Nat.le_of_ble_eq_true rfl) rfl b1 dX1_touches_5 ?_
  refine g_iload_n X dX1_touches_6 rfl 2 rfl ?_
  refine g_icmp_eq X (tgt := 20) dX1_touches_7 (by decide) (fun c2 => ?_) (fun c2 => ?_)
  · have h := h.1 c2
    refine g_iconst X (v := 1) dX1_touches_20 (by decide) ?_
    refine g_goto X (tgt := 25) dX1_touches_21 (by decide) ?_
    exact g_zret X R (by decide) dX1_touches_25 h
  · have h := h.2 c2
    refine g_aload_n X dX1_touches_10 rfl 0 rfl ?_
    refine g_getr X (C := RX1) (T := TX1) (N := 12) (ci := 1) (k := 3) iX1_touches_X1 rfl kX1_touches_19 (Nat.le_of_ble_eq_true rfl) rfl (by decide) rfl rfl dX1_touches_11 ?_
    refine g_iload_n X dX1_touches_14 rfl 1 rfl ?_
    obtain ⟨b3, h⟩ := h
    refine g_iald X (Nat.le_of_ble_eq_true rfl) rfl b3 dX1_touches_15 ?_
    refine g_iload_n X dX1_touches_16 rfl 2 rfl ?_
    refine g_icmp_ne X (tgt := 24) dX1_touches_17 (by decide) (fun c4 => ?_) (fun c4 => ?_)
    · have h := h.1 c4
      refine g_iconst X (v := 0) dX1_touches_24 (by decide) ?_
      exact g_zret X R (by decide) dX1_touches_25 h
    · have h := h.2 c4
      refine g_iconst X (v := 1) dX1_touches_20 (by decide) ?_
      refine g_goto X (tgt := 25) dX1_touches_21 (by decide) ?_
      exact g_zret X R (by decide) dX1_touches_25 h

/-! X1_farEnd.farEnd(II)I -/
def rmX1_farEnd : Room := { frames := 0, cells := 0, slots := 0, locals := 0 }
theorem yo_X1_farEnd : yX1_farEnd.cls = RX1 ∧ yX1_farEnd.cls ≠ "java/lang/invoke/MethodHandle" ∧ yX1_farEnd.cls ≠ "java/lang/invoke/VarHandle" ∧ (parseMethodDescriptor yX1_farEnd.desc).map (fun d => d.parameters.length) = some 2 := by decide +kernel
theorem kX1_farEnd_16 : Cond.fieldLink RX1 16 "SnowCourse$Country" (TX1 2).2.1 (TX1 2).2.2.1 ∈ wsX1_farEnd := by decide +kernel
theorem iX1_farEnd_X1 : ∀ w ∈ u_ws RX1 TX1 12, w ∈ wsX1_farEnd := by decide +kernel
theorem kX1_farEnd_19 : Cond.fieldLink RX1 19 "SnowCourse$Country" (TX1 3).2.1 (TX1 3).2.2.1 ∈ wsX1_farEnd := by decide +kernel
def vc_X1_farEnd (p1 : Int32) (p2 : Int32) (I : MI) (J : MJ) (Q : Int32 → MI → MJ → Prop) : Prop := vp_in p1 9 ∧ ((¬ (I 8 (Int32.toNatClampNeg p1)) = p2 → vp_in p1 9 ∧ Q (I 8 (Int32.toNatClampNeg p1)) I J) ∧ ((I 8 (Int32.toNatClampNeg p1)) = p2 → vp_in p1 9 ∧ Q (I 9 (Int32.toNatClampNeg p1)) I J))
set_option maxRecDepth 100000 in
set_option maxHeartbeats 4000000 in
theorem c_X1_farEnd (l : Launch) (E : ET)  (p1 : Int32) (p2 : Int32) : CI l yX1_farEnd wsX1_farEnd rmX1_farEnd E [.ref (ea E 5), .int p1, .int p2] (vc_X1_farEnd p1 p2) := by
  refine CI.of (cc := cX1_farEnd) (maxL := 3) (own := RX1) (by decide) rfl rfl (Nat.le_of_ble_eq_true rfl) ?_
  intro Z I J Q hE hl X R h
  subst hE
  subst hl
  show GW Z 3 I J 0 [(0, .ref (ea (zE Z) 5)), (1, .int p1), (2, .int p2)] []
  refine g_aload_n X dX1_farEnd_0 rfl 0 rfl ?_
  refine g_getr X (C := RX1) (T := TX1) (N := 12) (ci := 1) (k := 2) iX1_farEnd_X1 rfl kX1_farEnd_16 (Nat.le_of_ble_eq_true rfl) rfl (by decide) rfl rfl dX1_farEnd_1 ?_
  refine g_iload_n X dX1_farEnd_4 rfl 1 rfl ?_
  obtain ⟨b1, h⟩ := h
  refine g_iald X (Nat.le_of_ble_eq_true rfl) rfl b1 dX1_farEnd_5 ?_
  refine g_iload_n X dX1_farEnd_6 rfl 2 rfl ?_
  refine g_icmp_ne X (tgt := 19) dX1_farEnd_7 (by decide) (fun c2 => ?_) (fun c2 => ?_)
  · have h := h.1 c2
    refine g_aload_n X dX1_farEnd_19 rfl 0 rfl ?_
    refine g_getr X (C := RX1) (T := TX1) (N := 12) (ci := 1) (k := 2) iX1_farEnd_X1 rfl kX1_farEnd_16 (Nat.le_of_ble_eq_true rfl) rfl (by decide) rfl rfl dX1_farEnd_20 ?_
    refine g_iload_n X dX1_farEnd_23 rfl 1 rfl ?_
    obtain ⟨b3, h⟩ := h
    refine g_iald X (Nat.le_of_ble_eq_true rfl) rfl b3 dX1_farEnd_24 ?_
    exact g_iret X R dX1_farEnd_25 h
  · have h := h.2 c2
    refine g_aload_n X dX1_farEnd_10 rfl 0 rfl ?_
    refine g_getr X (C := RX1) (T := TX1) (N := 12) (ci := 1) (k := 3) iX1_farEnd_X1 rfl kX1_farEnd_19 (Nat.le_of_ble_eq_true rfl) rfl (by decide) rfl rfl dX1_farEnd_11 ?_
    refine g_iload_n X dX1_farEnd_14 rfl 1 rfl ?_
    obtain ⟨b4, h⟩ := h
    refine g_iald X (Nat.le_of_ble_eq_true rfl) rfl b4 dX1_farEnd_15 ?_
    refine g_goto X (tgt := 25) dX1_farEnd_16 (by decide) ?_
    exact g_iret X R dX1_farEnd_25 h

/-! X1_links.links(III)Z -/
def rmX1_links : Room := { frames := 1, cells := 0, slots := 0, locals := 22 }
theorem yo_X1_links : yX1_links.cls = RX1 ∧ yX1_links.cls ≠ "java/lang/invoke/MethodHandle" ∧ yX1_links.cls ≠ "java/lang/invoke/VarHandle" ∧ (parseMethodDescriptor yX1_links.desc).map (fun d => d.parameters.length) = some 3 := by decide +kernel
def vc_X1_links (p1 : Int32) (p2 : Int32) (p3 : Int32) (I : MI) (J : MJ) (Q : Int32 → MI → MJ → Prop) : Prop := vc_X1_touches p1 p2 I J (fun (r3 : Int32) (I1 : MI) (J2 : MJ) => ((r3 = 0 → Q 0 I1 J2) ∧ (¬ r3 = 0 → vc_X1_farEnd p1 p2 I1 J2 (fun (r7 : Int32) (I5 : MI) (J6 : MJ) => ((¬ r7 = p3 → Q 0 I5 J6) ∧ (r7 = p3 → Q 1 I5 J6))))))
set_option maxRecDepth 100000 in
set_option maxHeartbeats 4000000 in
theorem c_X1_links (l : Launch) (E : ET)  (p1 : Int32) (p2 : Int32) (p3 : Int32) : CI l yX1_links wsX1_links rmX1_links E [.ref (ea E 5), .int p1, .int p2, .int p3] (vc_X1_links p1 p2 p3) := by
  refine CI.of (cc := cX1_links) (maxL := 4) (own := RX1) (by decide) rfl rfl (Nat.le_of_ble_eq_true rfl) ?_
  intro Z I J Q hE hl X R h
  subst hE
  subst hl
  show GW Z 4 I J 0 [(0, .ref (ea (zE Z) 5)), (1, .int p1), (2, .int p2), (3, .int p3)] []
  refine g_aload_n X dX1_links_0 rfl 0 rfl ?_
  refine g_iload_n X dX1_links_1 rfl 1 rfl ?_
  refine g_iload_n X dX1_links_2 rfl 2 rfl ?_
  refine g_callVI X (As := [.int p1, .int p2]) (rest := []) (T := TX1) (N := 12) (c_X1_touches (zl Z) (zE Z) p1 p2) gX1_links_X1_touches yo_X1_touches rfl ⟨Nat.le_of_ble_eq_true rfl, Nat.le_of_ble_eq_true rfl⟩ (Nat.le_of_ble_eq_true rfl) rfl rfl rfl dX1_links_3 h (fun r3 I1 J2 h => ?_)
  refine g_if_eq X (tgt := 23) dX1_links_6 (by decide) (fun c4 => ?_) (fun c4 => ?_)
  · have h := h.1 c4
    refine g_iconst X (v := 0) dX1_links_23 (by decide) ?_
    exact g_zret X R (by decide) dX1_links_24 h
  · have h := h.2 c4
    refine g_aload_n X dX1_links_9 rfl 0 rfl ?_
    refine g_iload_n X dX1_links_10 rfl 1 rfl ?_
    refine g_iload_n X dX1_links_11 rfl 2 rfl ?_
    refine g_callVI X (As := [.int p1, .int p2]) (rest := []) (T := TX1) (N := 12) (c_X1_farEnd (zl Z) (zE Z) p1 p2) gX1_links_X1_farEnd yo_X1_farEnd rfl ⟨Nat.le_of_ble_eq_true rfl, Nat.le_of_ble_eq_true rfl⟩ (Nat.le_of_ble_eq_true rfl) rfl rfl rfl dX1_links_12 h (fun r7 I5 J6 h => ?_)
    refine g_iload_n X dX1_links_15 rfl 3 rfl ?_
    refine g_icmp_ne X (tgt := 23) dX1_links_16 (by decide) (fun c8 => ?_) (fun c8 => ?_)
    · have h := h.1 c8
      refine g_iconst X (v := 0) dX1_links_23 (by decide) ?_
      exact g_zret X R (by decide) dX1_links_24 h
    · have h := h.2 c8
      refine g_iconst X (v := 1) dX1_links_19 (by decide) ?_
      refine g_goto X (tgt := 24) dX1_links_20 (by decide) ?_
      exact g_zret X R (by decide) dX1_links_24 h

/-! X1_roadsAt.roadsAt(I)I -/
def rmX1_roadsAt : Room := { frames := 1, cells := 0, slots := 0, locals := 22 }
theorem yo_X1_roadsAt : yX1_roadsAt.cls = RX1 ∧ yX1_roadsAt.cls ≠ "java/lang/invoke/MethodHandle" ∧ yX1_roadsAt.cls ≠ "java/lang/invoke/VarHandle" ∧ (parseMethodDescriptor yX1_roadsAt.desc).map (fun d => d.parameters.length) = some 1 := by decide +kernel
theorem kX1_roadsAt_38 : Cond.fieldLink RX1 38 "SnowCourse$Country" (TX1 9).2.1 (TX1 9).2.2.1 ∈ wsX1_roadsAt := by decide +kernel
theorem iX1_roadsAt_X1 : ∀ w ∈ u_ws RX1 TX1 12, w ∈ wsX1_roadsAt := by decide +kernel
def vc_X1_roadsAt_L4s  (Q : Int32 → MI → MJ → Prop)  (k4 : Int32 → Int32 → Int32 → MI → MJ → Prop) (v1 : Int32) (v2 : Int32) (v3 : Int32) (I : MI) (J : MJ) : Prop := (((I 5 9) ≤ v3 → Q v2 I J) ∧ (¬ (I 5 9) ≤ v3 → vc_X1_touches v3 v1 I J (fun (r4 : Int32) (I2 : MI) (J3 : MJ) => ((r4 = 0 → ∀ x6 : Int32, x6 = v3 + 1 → k4 v1 v2 x6 I2 J3) ∧ (¬ r4 = 0 → ∀ x7 : Int32, x7 = v2 ||| (1 <<< (v3 &&& 31)) → ∀ x8 : Int32, x8 = v3 + 1 → k4 v1 x7 x8 I2 J3)))))
def vc_X1_roadsAt_L4  (Q : Int32 → MI → MJ → Prop)  (n : Nat) : Int32 → Int32 → Int32 → MI → MJ → Prop := Nat.rec (fun _ _ _ _ _ => False) (fun _ ih => vc_X1_roadsAt_L4s  Q  ih) n
set_option maxRecDepth 100000 in
set_option maxHeartbeats 4000000 in
theorem w_X1_roadsAt_L4s {Z : RT}  (X : Cx Z cX1_roadsAt 4 RX1 wsX1_roadsAt rmX1_roadsAt (some .int)) {Q : Int32 → MI → MJ → Prop} (R : RI Z Q)    {k4 : Int32 → Int32 → Int32 → MI → MJ → Prop} (hk4 : ∀ (v1 : Int32) (v2 : Int32) (v3 : Int32) (I : MI) (J : MJ), k4 v1 v2 v3 I J → GW Z 4 I J 4 [(0, .ref (ea (zE Z) 5)), (1, .int v1), (2, .int v2), (3, .int v3)] []) (v1 : Int32) (v2 : Int32) (v3 : Int32) (I : MI) (J : MJ) (h : vc_X1_roadsAt_L4s  Q  k4 v1 v2 v3 I J) : GW Z 4 I J 4 [(0, .ref (ea (zE Z) 5)), (1, .int v1), (2, .int v2), (3, .int v3)] [] := by
  refine g_iload_n X dX1_roadsAt_4 rfl 3 rfl ?_
  refine g_aload_n X dX1_roadsAt_5 rfl 0 rfl ?_
  refine g_geti X (C := RX1) (T := TX1) (N := 12) (ci := 1) (k := 9) iX1_roadsAt_X1 rfl kX1_roadsAt_38 (Nat.le_of_ble_eq_true rfl) rfl (by decide) rfl rfl dX1_roadsAt_6 ?_
  refine g_icmp_ge X (tgt := 33) dX1_roadsAt_9 (by decide) (fun c1 => ?_) (fun c1 => ?_)
  · have h := h.1 c1
    refine g_iload_n X dX1_roadsAt_33 rfl 2 rfl ?_
    exact g_iret X R dX1_roadsAt_34 h
  · have h := h.2 c1
    refine g_aload_n X dX1_roadsAt_12 rfl 0 rfl ?_
    refine g_iload_n X dX1_roadsAt_13 rfl 3 rfl ?_
    refine g_iload_n X dX1_roadsAt_14 rfl 1 rfl ?_
    refine g_callVI X (As := [.int v3, .int v1]) (rest := []) (T := TX1) (N := 12) (c_X1_touches (zl Z) (zE Z) v3 v1) gX1_roadsAt_X1_touches yo_X1_touches rfl ⟨Nat.le_of_ble_eq_true rfl, Nat.le_of_ble_eq_true rfl⟩ (Nat.le_of_ble_eq_true rfl) rfl rfl rfl dX1_roadsAt_15 h (fun r4 I2 J3 h => ?_)
    refine g_if_eq X (tgt := 27) dX1_roadsAt_18 (by decide) (fun c5 => ?_) (fun c5 => ?_)
    · have h := h.1 c5
      obtain ⟨x6, ex6⟩ : ∃ y : Int32, y = v3 + 1 := ⟨_, rfl⟩
      have h := h x6 ex6
      refine g_iinc X (q := 3) (v := x6) (lv' := [(3, .int x6), (0, .ref (ea (zE Z) 5)), (1, .int v1), (2, .int v2)]) dX1_roadsAt_27 rfl (by rw [ex6]; rfl) (by decide) rfl ?_
      refine g_goto X (tgt := 4) dX1_roadsAt_30 (by decide) ?_
      refine GW.sub (lv' := [(0, .ref (ea (zE Z) 5)), (1, .int v1), (2, .int v2), (3, .int x6)]) [1, 2, 3, 0] rfl ?_
      exact hk4 v1 v2 x6 I2 J3 h
    · have h := h.2 c5
      refine g_iload_n X dX1_roadsAt_21 rfl 2 rfl ?_
      refine g_iconst X (v := 1) dX1_roadsAt_22 (by decide) ?_
      refine g_iload_n X dX1_roadsAt_23 rfl 3 rfl ?_
      refine g_ishl X dX1_roadsAt_24 ?_
      refine g_ior X dX1_roadsAt_25 ?_
      refine g_topi (fun x7 ex7 => ?_)
      have h := h x7 ex7
      refine g_istore_n X (lv' := [(2, .int x7), (0, .ref (ea (zE Z) 5)), (1, .int v1), (3, .int v3)]) dX1_roadsAt_26 rfl (by decide) rfl ?_
      obtain ⟨x8, ex8⟩ : ∃ y : Int32, y = v3 + 1 := ⟨_, rfl⟩
      have h := h x8 ex8
      refine g_iinc X (q := 3) (v := x8) (lv' := [(3, .int x8), (2, .int x7), (0, .ref (ea (zE Z) 5)), (1, .int v1)]) dX1_roadsAt_27 rfl (by rw [ex8]; rfl) (by decide) rfl ?_
      refine g_goto X (tgt := 4) dX1_roadsAt_30 (by decide) ?_
      refine GW.sub (lv' := [(0, .ref (ea (zE Z) 5)), (1, .int v1), (2, .int x7), (3, .int x8)]) [2, 3, 1, 0] rfl ?_
      exact hk4 v1 x7 x8 I2 J3 h
theorem w_X1_roadsAt_L4 {Z : RT}  (X : Cx Z cX1_roadsAt 4 RX1 wsX1_roadsAt rmX1_roadsAt (some .int)) {Q : Int32 → MI → MJ → Prop} (R : RI Z Q)    : ∀ (n : Nat) (v1 : Int32) (v2 : Int32) (v3 : Int32) (I : MI) (J : MJ) (h : vc_X1_roadsAt_L4  Q  n v1 v2 v3 I J), GW Z 4 I J 4 [(0, .ref (ea (zE Z) 5)), (1, .int v1), (2, .int v2), (3, .int v3)] [] := by
  intro n
  induction n with
  | zero => intro v1 v2 v3 I J h; exact h.elim
  | succ n ih => intro v1 v2 v3 I J h; exact w_X1_roadsAt_L4s X R   ih v1 v2 v3 I J h
def vc_X1_roadsAt (p1 : Int32) (I : MI) (J : MJ) (Q : Int32 → MI → MJ → Prop) : Prop := (∃ n, vc_X1_roadsAt_L4  Q  n p1 0 0 I J)
set_option maxRecDepth 100000 in
set_option maxHeartbeats 4000000 in
theorem c_X1_roadsAt (l : Launch) (E : ET)  (p1 : Int32) : CI l yX1_roadsAt wsX1_roadsAt rmX1_roadsAt E [.ref (ea E 5), .int p1] (vc_X1_roadsAt p1) := by
  refine CI.of (cc := cX1_roadsAt) (maxL := 4) (own := RX1) (by decide) rfl rfl (Nat.le_of_ble_eq_true rfl) ?_
  intro Z I J Q hE hl X R h
  subst hE
  subst hl
  show GW Z 4 I J 0 [(0, .ref (ea (zE Z) 5)), (1, .int p1)] []
  refine g_iconst X (v := 0) dX1_roadsAt_0 (by decide) ?_
  refine g_istore_n X (lv' := [(2, .int 0), (0, .ref (ea (zE Z) 5)), (1, .int p1)]) dX1_roadsAt_1 rfl (by decide) rfl ?_
  refine g_iconst X (v := 0) dX1_roadsAt_2 (by decide) ?_
  refine g_istore_n X (lv' := [(3, .int 0), (2, .int 0), (0, .ref (ea (zE Z) 5)), (1, .int p1)]) dX1_roadsAt_3 rfl (by decide) rfl ?_
  refine GW.sub (lv' := [(0, .ref (ea (zE Z) 5)), (1, .int p1), (2, .int 0), (3, .int 0)]) [2, 3, 1, 0] rfl ?_
  obtain ⟨n, h⟩ := h
  exact w_X1_roadsAt_L4 X R   n p1 0 0 I J h

/-! X1_afterHourIn.afterHourIn(IIIII)I -/
def rmX1_afterHourIn : Room := { frames := 2, cells := 0, slots := 0, locals := 51 }
theorem yo_X1_afterHourIn : yX1_afterHourIn.cls = RX1 ∧ yX1_afterHourIn.cls ≠ "java/lang/invoke/MethodHandle" ∧ yX1_afterHourIn.cls ≠ "java/lang/invoke/VarHandle" ∧ (parseMethodDescriptor yX1_afterHourIn.desc).map (fun d => d.parameters.length) = some 5 := by decide +kernel
theorem kX1_afterHourIn_9 : Cond.fieldLink RX1 9 "SnowCourse$Country" (TX1 0).2.1 (TX1 0).2.2.1 ∈ wsX1_afterHourIn := by decide +kernel
theorem iX1_afterHourIn_X1 : ∀ w ∈ u_ws RX1 TX1 12, w ∈ wsX1_afterHourIn := by decide +kernel
theorem kX1_afterHourIn_44 : Cond.fieldLink RX1 44 "SnowCourse$Country" (TX1 11).2.1 (TX1 11).2.2.1 ∈ wsX1_afterHourIn := by decide +kernel
def vc_X1_afterHourIn (p1 : Int32) (p2 : Int32) (p3 : Int32) (p4 : Int32) (p5 : Int32) (I : MI) (J : MJ) (Q : Int32 → MI → MJ → Prop) : Prop := ((p2 = 0 → Q p2 I J) ∧ (¬ p2 = 0 → vp_in p1 7 ∧ ((¬ (I 6 (Int32.toNatClampNeg p1)) = 2 → vc_X3_heat (J 5 11) p3 p2 p4 p5 I J (fun (r6 : Int32) (I4 : MI) (J5 : MJ) => vc_X3_less p2 r6 I4 J5 (fun (r9 : Int32) (I7 : MI) (J8 : MJ) => Q r9 I7 J8))) ∧ ((I 6 (Int32.toNatClampNeg p1)) = 2 → Q p2 I J))))
set_option maxRecDepth 100000 in
set_option maxHeartbeats 4000000 in
theorem c_X1_afterHourIn (l : Launch) (E : ET)  (p1 : Int32) (p2 : Int32) (p3 : Int32) (p4 : Int32) (p5 : Int32) : CI l yX1_afterHourIn wsX1_afterHourIn rmX1_afterHourIn E [.ref (ea E 5), .int p1, .int p2, .int p3, .int p4, .int p5] (vc_X1_afterHourIn p1 p2 p3 p4 p5) := by
  refine CI.of (cc := cX1_afterHourIn) (maxL := 6) (own := RX1) (by decide) rfl rfl (Nat.le_of_ble_eq_true rfl) ?_
  intro Z I J Q hE hl X R h
  subst hE
  subst hl
  show GW Z 6 I J 0 [(0, .ref (ea (zE Z) 5)), (1, .int p1), (2, .int p2), (3, .int p3), (4, .int p4), (5, .int p5)] []
  refine g_iload_n X dX1_afterHourIn_0 rfl 2 rfl ?_
  refine g_if_eq X (tgt := 14) dX1_afterHourIn_1 (by decide) (fun c1 => ?_) (fun c1 => ?_)
  · have h := h.1 c1
    refine g_iload_n X dX1_afterHourIn_14 rfl 2 rfl ?_
    exact g_iret X R dX1_afterHourIn_15 h
  · have h := h.2 c1
    refine g_aload_n X dX1_afterHourIn_4 rfl 0 rfl ?_
    refine g_getr X (C := RX1) (T := TX1) (N := 12) (ci := 1) (k := 0) iX1_afterHourIn_X1 rfl kX1_afterHourIn_9 (Nat.le_of_ble_eq_true rfl) rfl (by decide) rfl rfl dX1_afterHourIn_5 ?_
    refine g_iload_n X dX1_afterHourIn_8 rfl 1 rfl ?_
    obtain ⟨b2, h⟩ := h
    refine g_iald X (Nat.le_of_ble_eq_true rfl) rfl b2 dX1_afterHourIn_9 ?_
    refine g_iconst X (v := 2) dX1_afterHourIn_10 (by decide) ?_
    refine g_icmp_ne X (tgt := 16) dX1_afterHourIn_11 (by decide) (fun c3 => ?_) (fun c3 => ?_)
    · have h := h.1 c3
      refine g_iload_n X dX1_afterHourIn_16 rfl 2 rfl ?_
      refine g_aload_n X dX1_afterHourIn_17 rfl 0 rfl ?_
      refine g_getl X (C := RX1) (T := TX1) (N := 12) (ci := 1) (k := 11) iX1_afterHourIn_X1 rfl kX1_afterHourIn_44 (Nat.le_of_ble_eq_true rfl) rfl (by decide) rfl rfl dX1_afterHourIn_18 ?_
      refine g_iload_n X dX1_afterHourIn_21 rfl 3 rfl ?_
      refine g_iload_n X dX1_afterHourIn_22 rfl 2 rfl ?_
      refine g_iload X dX1_afterHourIn_23 4 rfl ?_
      refine g_iload X dX1_afterHourIn_25 5 rfl ?_
      refine g_callSI X (As := [.long (J 5 11), .int p3, .int p2, .int p4, .int p5]) (rest := [.int p2]) (c_X3_heat (zl Z) (zE Z) (J 5 11) p3 p2 p4 p5) gX1_afterHourIn_X3_heat yo_X3_heat.2 rfl ⟨Nat.le_of_ble_eq_true rfl, Nat.le_of_ble_eq_true rfl⟩ rfl dX1_afterHourIn_27 h (fun r6 I4 J5 h => ?_)
      refine g_callSI X (As := [.int p2, .int r6]) (rest := []) (c_X3_less (zl Z) (zE Z) p2 r6) gX1_afterHourIn_X3_less yo_X3_less.2 rfl ⟨Nat.le_of_ble_eq_true rfl, Nat.le_of_ble_eq_true rfl⟩ rfl dX1_afterHourIn_30 h (fun r9 I7 J8 h => ?_)
      exact g_iret X R dX1_afterHourIn_33 h
    · have h := h.2 c3
      refine g_iload_n X dX1_afterHourIn_14 rfl 2 rfl ?_
      exact g_iret X R dX1_afterHourIn_15 h

/-! X1_afterRoad.afterRoad(IIIII)I -/
def rmX1_afterRoad : Room := { frames := 2, cells := 0, slots := 0, locals := 51 }
theorem yo_X1_afterRoad : yX1_afterRoad.cls = RX1 ∧ yX1_afterRoad.cls ≠ "java/lang/invoke/MethodHandle" ∧ yX1_afterRoad.cls ≠ "java/lang/invoke/VarHandle" ∧ (parseMethodDescriptor yX1_afterRoad.desc).map (fun d => d.parameters.length) = some 5 := by decide +kernel
theorem kX1_afterRoad_13 : Cond.fieldLink RX1 13 "SnowCourse$Country" (TX1 1).2.1 (TX1 1).2.2.1 ∈ wsX1_afterRoad := by decide +kernel
theorem iX1_afterRoad_X1 : ∀ w ∈ u_ws RX1 TX1 12, w ∈ wsX1_afterRoad := by decide +kernel
theorem kX1_afterRoad_22 : Cond.fieldLink RX1 22 "SnowCourse$Country" (TX1 4).2.1 (TX1 4).2.2.1 ∈ wsX1_afterRoad := by decide +kernel
theorem kX1_afterRoad_44 : Cond.fieldLink RX1 44 "SnowCourse$Country" (TX1 11).2.1 (TX1 11).2.2.1 ∈ wsX1_afterRoad := by decide +kernel
def vc_X1_afterRoad_B74  (Q : Int32 → MI → MJ → Prop) (k23 : Int32 → Int32 → Int32 → Int32 → Int32 → Int32 → Int32 → MI → MJ → Prop) (v1 : Int32) (v3 : Int32) (v4 : Int32) (v5 : Int32) (v6 : Int32) (v8 : Int32) (s0 : Int32) (s1 : Int32) (I : MI) (J : MJ) : Prop := vc_X3_less s0 s1 I J (fun (r3 : Int32) (I1 : MI) (J2 : MJ) => ∀ x4 : Int32, x4 = v8 + 1 → k23 v1 v3 v4 v5 v6 r3 x4 I1 J2)
set_option maxRecDepth 100000 in
set_option maxHeartbeats 4000000 in
theorem w_X1_afterRoad_B74 {Z : RT}  (X : Cx Z cX1_afterRoad 10 RX1 wsX1_afterRoad rmX1_afterRoad (some .int)) {Q : Int32 → MI → MJ → Prop} (R : RI Z Q)  {k23 : Int32 → Int32 → Int32 → Int32 → Int32 → Int32 → Int32 → MI → MJ → Prop} (hk23 : ∀ (v1 : Int32) (v3 : Int32) (v4 : Int32) (v5 : Int32) (v6 : Int32) (v7 : Int32) (v8 : Int32) (I : MI) (J : MJ), k23 v1 v3 v4 v5 v6 v7 v8 I J → GW Z 10 I J 23 [(0, .ref (ea (zE Z) 5)), (1, .int v1), (3, .int v3), (4, .int v4), (5, .int v5), (6, .int v6), (7, .int v7), (8, .int v8)] []) (v1 : Int32) (v3 : Int32) (v4 : Int32) (v5 : Int32) (v6 : Int32) (v8 : Int32) (s0 : Int32) (s1 : Int32) (I : MI) (J : MJ) (h : vc_X1_afterRoad_B74  Q k23 v1 v3 v4 v5 v6 v8 s0 s1 I J) : GW Z 10 I J 74 [(0, .ref (ea (zE Z) 5)), (1, .int v1), (3, .int v3), (4, .int v4), (5, .int v5), (6, .int v6), (8, .int v8)] [.int s1, .int s0] := by
  refine g_callSI X (As := [.int s0, .int s1]) (rest := []) (c_X3_less (zl Z) (zE Z) s0 s1) gX1_afterRoad_X3_less yo_X3_less.2 rfl ⟨Nat.le_of_ble_eq_true rfl, Nat.le_of_ble_eq_true rfl⟩ rfl dX1_afterRoad_74 h (fun r3 I1 J2 h => ?_)
  refine g_istore X (lv' := [(7, .int r3), (0, .ref (ea (zE Z) 5)), (1, .int v1), (3, .int v3), (4, .int v4), (5, .int v5), (6, .int v6), (8, .int v8)]) dX1_afterRoad_77 (by decide) rfl ?_
  obtain ⟨x4, ex4⟩ : ∃ y : Int32, y = v8 + 1 := ⟨_, rfl⟩
  have h := h x4 ex4
  refine g_iinc X (q := 7) (v := x4) (lv' := [(8, .int x4), (7, .int r3), (0, .ref (ea (zE Z) 5)), (1, .int v1), (3, .int v3), (4, .int v4), (5, .int v5), (6, .int v6)]) dX1_afterRoad_79 rfl (by rw [ex4]; rfl) (by decide) rfl ?_
  refine g_goto X (tgt := 23) dX1_afterRoad_82 (by decide) ?_
  refine GW.sub (lv' := [(0, .ref (ea (zE Z) 5)), (1, .int v1), (3, .int v3), (4, .int v4), (5, .int v5), (6, .int v6), (7, .int r3), (8, .int x4)]) [2, 3, 4, 5, 6, 7, 1, 0] rfl ?_
  exact hk23 v1 v3 v4 v5 v6 r3 x4 I1 J2 h
def vc_X1_afterRoad_B85  (Q : Int32 → MI → MJ → Prop)  (v1 : Int32) (v7 : Int32) (I : MI) (J : MJ) : Prop := vp_in v1 9 ∧ ((¬ (I 7 (Int32.toNatClampNeg v1)) = 2 → Q v7 I J) ∧ ((I 7 (Int32.toNatClampNeg v1)) = 2 → Q (v7 - (v7 / 10)) I J))
set_option maxRecDepth 100000 in
set_option maxHeartbeats 4000000 in
theorem w_X1_afterRoad_B85 {Z : RT}  (X : Cx Z cX1_afterRoad 10 RX1 wsX1_afterRoad rmX1_afterRoad (some .int)) {Q : Int32 → MI → MJ → Prop} (R : RI Z Q)    (v1 : Int32) (v7 : Int32) (I : MI) (J : MJ) (h : vc_X1_afterRoad_B85  Q  v1 v7 I J) : GW Z 10 I J 85 [(0, .ref (ea (zE Z) 5)), (1, .int v1), (7, .int v7)] [] := by
  refine g_aload_n X dX1_afterRoad_85 rfl 0 rfl ?_
  refine g_getr X (C := RX1) (T := TX1) (N := 12) (ci := 1) (k := 1) iX1_afterRoad_X1 rfl kX1_afterRoad_13 (Nat.le_of_ble_eq_true rfl) rfl (by decide) rfl rfl dX1_afterRoad_86 ?_
  refine g_iload_n X dX1_afterRoad_89 rfl 1 rfl ?_
  obtain ⟨b5, h⟩ := h
  refine g_iald X (Nat.le_of_ble_eq_true rfl) rfl b5 dX1_afterRoad_90 ?_
  refine g_iconst X (v := 2) dX1_afterRoad_91 (by decide) ?_
  refine g_icmp_ne X (tgt := 106) dX1_afterRoad_92 (by decide) (fun c6 => ?_) (fun c6 => ?_)
  · have h := h.1 c6
    refine g_iload X dX1_afterRoad_106 2 rfl ?_
    exact g_iret X R dX1_afterRoad_108 h
  · have h := h.2 c6
    refine g_iload X dX1_afterRoad_95 2 rfl ?_
    refine g_iload X dX1_afterRoad_97 2 rfl ?_
    refine g_bipush X (v := 10) dX1_afterRoad_99 (by decide) ?_
    refine g_idiv X dX1_afterRoad_101 (by decide) ?_
    refine g_isub X dX1_afterRoad_102 ?_
    refine g_goto X (tgt := 108) dX1_afterRoad_103 (by decide) ?_
    exact g_iret X R dX1_afterRoad_108 h
def vc_X1_afterRoad_L23s  (Q : Int32 → MI → MJ → Prop)  (k23 : Int32 → Int32 → Int32 → Int32 → Int32 → Int32 → Int32 → MI → MJ → Prop) (v1 : Int32) (v3 : Int32) (v4 : Int32) (v5 : Int32) (v6 : Int32) (v7 : Int32) (v8 : Int32) (I : MI) (J : MJ) : Prop := vp_in v1 9 ∧ (((I 10 (Int32.toNatClampNeg v1)) ≤ v8 → vc_X1_afterRoad_B85  Q  v1 v7 I J) ∧ (¬ (I 10 (Int32.toNatClampNeg v1)) ≤ v8 → ((v7 ≤ 0 → vc_X1_afterRoad_B85  Q  v1 v7 I J) ∧ (¬ v7 ≤ 0 → vc_X3_heat (J 5 11) (v3 + v8) v7 v4 v5 I J (fun (r12 : Int32) (I10 : MI) (J11 : MJ) => ((v6 = 0 → vc_X1_afterRoad_B74  Q k23 v1 v3 v4 v5 v6 v8 v7 r12 I10 J11) ∧ (¬ v6 = 0 → vc_X1_afterRoad_B74  Q k23 v1 v3 v4 v5 v6 v8 v7 (r12 / 2) I10 J11)))))))
def vc_X1_afterRoad_L23  (Q : Int32 → MI → MJ → Prop)  (n : Nat) : Int32 → Int32 → Int32 → Int32 → Int32 → Int32 → Int32 → MI → MJ → Prop := Nat.rec (fun _ _ _ _ _ _ _ _ _ => False) (fun _ ih => vc_X1_afterRoad_L23s  Q  ih) n
set_option maxRecDepth 100000 in
set_option maxHeartbeats 4000000 in
theorem w_X1_afterRoad_L23s {Z : RT}  (X : Cx Z cX1_afterRoad 10 RX1 wsX1_afterRoad rmX1_afterRoad (some .int)) {Q : Int32 → MI → MJ → Prop} (R : RI Z Q)    {k23 : Int32 → Int32 → Int32 → Int32 → Int32 → Int32 → Int32 → MI → MJ → Prop} (hk23 : ∀ (v1 : Int32) (v3 : Int32) (v4 : Int32) (v5 : Int32) (v6 : Int32) (v7 : Int32) (v8 : Int32) (I : MI) (J : MJ), k23 v1 v3 v4 v5 v6 v7 v8 I J → GW Z 10 I J 23 [(0, .ref (ea (zE Z) 5)), (1, .int v1), (3, .int v3), (4, .int v4), (5, .int v5), (6, .int v6), (7, .int v7), (8, .int v8)] []) (v1 : Int32) (v3 : Int32) (v4 : Int32) (v5 : Int32) (v6 : Int32) (v7 : Int32) (v8 : Int32) (I : MI) (J : MJ) (h : vc_X1_afterRoad_L23s  Q  k23 v1 v3 v4 v5 v6 v7 v8 I J) : GW Z 10 I J 23 [(0, .ref (ea (zE Z) 5)), (1, .int v1), (3, .int v3), (4, .int v4), (5, .int v5), (6, .int v6), (7, .int v7), (8, .int v8)] [] := by
  refine g_iload X dX1_afterRoad_23 7 rfl ?_
  refine g_aload_n X dX1_afterRoad_25 rfl 0 rfl ?_
  refine g_getr X (C := RX1) (T := TX1) (N := 12) (ci := 1) (k := 4) iX1_afterRoad_X1 rfl kX1_afterRoad_22 (Nat.le_of_ble_eq_true rfl) rfl (by decide) rfl rfl dX1_afterRoad_26 ?_
  refine g_iload_n X dX1_afterRoad_29 rfl 1 rfl ?_
  obtain ⟨b7, h⟩ := h
  refine g_iald X (Nat.le_of_ble_eq_true rfl) rfl b7 dX1_afterRoad_30 ?_
  refine g_icmp_ge X (tgt := 85) dX1_afterRoad_31 (by decide) (fun c8 => ?_) (fun c8 => ?_)
  · have h := h.1 c8
    refine GW.sub (lv' := [(0, .ref (ea (zE Z) 5)), (1, .int v1), (7, .int v7)]) [0, 1, 6] rfl ?_
    exact w_X1_afterRoad_B85 X R   v1 v7 I J h
  · have h := h.2 c8
    refine g_iload X dX1_afterRoad_34 6 rfl ?_
    refine g_if_le X (tgt := 85) dX1_afterRoad_36 (by decide) (fun c9 => ?_) (fun c9 => ?_)
    · have h := h.1 c9
      refine GW.sub (lv' := [(0, .ref (ea (zE Z) 5)), (1, .int v1), (7, .int v7)]) [0, 1, 6] rfl ?_
      exact w_X1_afterRoad_B85 X R   v1 v7 I J h
    · have h := h.2 c9
      refine g_aload_n X dX1_afterRoad_39 rfl 0 rfl ?_
      refine g_getl X (C := RX1) (T := TX1) (N := 12) (ci := 1) (k := 11) iX1_afterRoad_X1 rfl kX1_afterRoad_44 (Nat.le_of_ble_eq_true rfl) rfl (by decide) rfl rfl dX1_afterRoad_40 ?_
      refine g_iload_n X dX1_afterRoad_43 rfl 2 rfl ?_
      refine g_iload X dX1_afterRoad_44 7 rfl ?_
      refine g_iadd X dX1_afterRoad_46 ?_
      refine g_iload X dX1_afterRoad_47 6 rfl ?_
      refine g_iload X dX1_afterRoad_49 3 rfl ?_
      refine g_iload X dX1_afterRoad_51 4 rfl ?_
      refine g_callSI X (As := [.long (J 5 11), .int (v3 + v8), .int v7, .int v4, .int v5]) (rest := []) (c_X3_heat (zl Z) (zE Z) (J 5 11) (v3 + v8) v7 v4 v5) gX1_afterRoad_X3_heat yo_X3_heat.2 rfl ⟨Nat.le_of_ble_eq_true rfl, Nat.le_of_ble_eq_true rfl⟩ rfl dX1_afterRoad_53 h (fun r12 I10 J11 h => ?_)
      refine g_istore X (lv' := [(9, .int r12), (0, .ref (ea (zE Z) 5)), (1, .int v1), (3, .int v3), (4, .int v4), (5, .int v5), (6, .int v6), (7, .int v7), (8, .int v8)]) dX1_afterRoad_56 (by decide) rfl ?_
      refine g_iload X dX1_afterRoad_58 7 rfl ?_
      refine g_iload X dX1_afterRoad_60 6 rfl ?_
      refine g_if_eq X (tgt := 72) dX1_afterRoad_62 (by decide) (fun c13 => ?_) (fun c13 => ?_)
      · have h := h.1 c13
        refine g_iload X dX1_afterRoad_72 0 rfl ?_
        refine GW.sub (lv' := [(0, .ref (ea (zE Z) 5)), (1, .int v1), (3, .int v3), (4, .int v4), (5, .int v5), (6, .int v6), (8, .int v8)]) [1, 2, 3, 4, 5, 6, 8] rfl ?_
        exact w_X1_afterRoad_B74 X R  hk23 v1 v3 v4 v5 v6 v8 v7 r12 I10 J11 h
      · have h := h.2 c13
        refine g_iload X dX1_afterRoad_65 0 rfl ?_
        refine g_iconst X (v := 2) dX1_afterRoad_67 (by decide) ?_
        refine g_idiv X dX1_afterRoad_68 (by decide) ?_
        refine g_goto X (tgt := 74) dX1_afterRoad_69 (by decide) ?_
        refine GW.sub (lv' := [(0, .ref (ea (zE Z) 5)), (1, .int v1), (3, .int v3), (4, .int v4), (5, .int v5), (6, .int v6), (8, .int v8)]) [1, 2, 3, 4, 5, 6, 8] rfl ?_
        exact w_X1_afterRoad_B74 X R  hk23 v1 v3 v4 v5 v6 v8 v7 (r12 / 2) I10 J11 h
theorem w_X1_afterRoad_L23 {Z : RT}  (X : Cx Z cX1_afterRoad 10 RX1 wsX1_afterRoad rmX1_afterRoad (some .int)) {Q : Int32 → MI → MJ → Prop} (R : RI Z Q)    : ∀ (n : Nat) (v1 : Int32) (v3 : Int32) (v4 : Int32) (v5 : Int32) (v6 : Int32) (v7 : Int32) (v8 : Int32) (I : MI) (J : MJ) (h : vc_X1_afterRoad_L23  Q  n v1 v3 v4 v5 v6 v7 v8 I J), GW Z 10 I J 23 [(0, .ref (ea (zE Z) 5)), (1, .int v1), (3, .int v3), (4, .int v4), (5, .int v5), (6, .int v6), (7, .int v7), (8, .int v8)] [] := by
  intro n
  induction n with
  | zero => intro v1 v3 v4 v5 v6 v7 v8 I J h; exact h.elim
  | succ n ih => intro v1 v3 v4 v5 v6 v7 v8 I J h; exact w_X1_afterRoad_L23s X R   ih v1 v3 v4 v5 v6 v7 v8 I J h
def vc_X1_afterRoad_B15  (Q : Int32 → MI → MJ → Prop)  (v1 : Int32) (v2 : Int32) (v3 : Int32) (v4 : Int32) (v5 : Int32) (s0 : Int32) (I : MI) (J : MJ) : Prop := (∃ n, vc_X1_afterRoad_L23  Q  n v1 v3 v4 v5 s0 v2 0 I J)
set_option maxRecDepth 100000 in
set_option maxHeartbeats 4000000 in
theorem w_X1_afterRoad_B15 {Z : RT}  (X : Cx Z cX1_afterRoad 10 RX1 wsX1_afterRoad rmX1_afterRoad (some .int)) {Q : Int32 → MI → MJ → Prop} (R : RI Z Q)    (v1 : Int32) (v2 : Int32) (v3 : Int32) (v4 : Int32) (v5 : Int32) (s0 : Int32) (I : MI) (J : MJ) (h : vc_X1_afterRoad_B15  Q  v1 v2 v3 v4 v5 s0 I J) : GW Z 10 I J 15 [(0, .ref (ea (zE Z) 5)), (1, .int v1), (2, .int v2), (3, .int v3), (4, .int v4), (5, .int v5)] [.int s0] := by
  refine g_istore X (lv' := [(6, .int s0), (0, .ref (ea (zE Z) 5)), (1, .int v1), (2, .int v2), (3, .int v3), (4, .int v4), (5, .int v5)]) dX1_afterRoad_15 (by decide) rfl ?_
  refine g_iload_n X dX1_afterRoad_17 rfl 3 rfl ?_
  refine g_istore X (lv' := [(7, .int v2), (6, .int s0), (0, .ref (ea (zE Z) 5)), (1, .int v1), (2, .int v2), (3, .int v3), (4, .int v4), (5, .int v5)]) dX1_afterRoad_18 (by decide) rfl ?_
  refine g_iconst X (v := 0) dX1_afterRoad_20 (by decide) ?_
  refine g_istore X (lv' := [(8, .int 0), (7, .int v2), (6, .int s0), (0, .ref (ea (zE Z) 5)), (1, .int v1), (2, .int v2), (3, .int v3), (4, .int v4), (5, .int v5)]) dX1_afterRoad_21 (by decide) rfl ?_
  refine GW.sub (lv' := [(0, .ref (ea (zE Z) 5)), (1, .int v1), (3, .int v3), (4, .int v4), (5, .int v5), (6, .int s0), (7, .int v2), (8, .int 0)]) [3, 4, 6, 7, 8, 2, 1, 0] rfl ?_
  obtain ⟨n, h⟩ := h
  exact w_X1_afterRoad_L23 X R   n v1 v3 v4 v5 s0 v2 0 I J h
def vc_X1_afterRoad (p1 : Int32) (p2 : Int32) (p3 : Int32) (p4 : Int32) (p5 : Int32) (I : MI) (J : MJ) (Q : Int32 → MI → MJ → Prop) : Prop := vp_in p1 9 ∧ ((¬ (I 7 (Int32.toNatClampNeg p1)) = 1 → vc_X1_afterRoad_B15  Q  p1 p2 p3 p4 p5 0 I J) ∧ ((I 7 (Int32.toNatClampNeg p1)) = 1 → vc_X1_afterRoad_B15  Q  p1 p2 p3 p4 p5 1 I J))
set_option maxRecDepth 100000 in
set_option maxHeartbeats 4000000 in
theorem c_X1_afterRoad (l : Launch) (E : ET)  (p1 : Int32) (p2 : Int32) (p3 : Int32) (p4 : Int32) (p5 : Int32) : CI l yX1_afterRoad wsX1_afterRoad rmX1_afterRoad E [.ref (ea E 5), .int p1, .int p2, .int p3, .int p4, .int p5] (vc_X1_afterRoad p1 p2 p3 p4 p5) := by
  refine CI.of (cc := cX1_afterRoad) (maxL := 10) (own := RX1) (by decide) rfl rfl (Nat.le_of_ble_eq_true rfl) ?_
  intro Z I J Q hE hl X R h
  subst hE
  subst hl
  show GW Z 10 I J 0 [(0, .ref (ea (zE Z) 5)), (1, .int p1), (2, .int p2), (3, .int p3), (4, .int p4), (5, .int p5)] []
  refine g_aload_n X dX1_afterRoad_0 rfl 0 rfl ?_
  refine g_getr X (C := RX1) (T := TX1) (N := 12) (ci := 1) (k := 1) iX1_afterRoad_X1 rfl kX1_afterRoad_13 (Nat.le_of_ble_eq_true rfl) rfl (by decide) rfl rfl dX1_afterRoad_1 ?_
  refine g_iload_n X dX1_afterRoad_4 rfl 1 rfl ?_
  obtain ⟨b14, h⟩ := h
  refine g_iald X (Nat.le_of_ble_eq_true rfl) rfl b14 dX1_afterRoad_5 ?_
  refine g_iconst X (v := 1) dX1_afterRoad_6 (by decide) ?_
  refine g_icmp_ne X (tgt := 14) dX1_afterRoad_7 (by decide) (fun c15 => ?_) (fun c15 => ?_)
  · have h := h.1 c15
    refine g_iconst X (v := 0) dX1_afterRoad_14 (by decide) ?_
    refine GW.sub (lv' := [(0, .ref (ea (zE Z) 5)), (1, .int p1), (2, .int p2), (3, .int p3), (4, .int p4), (5, .int p5)]) [0, 1, 2, 3, 4, 5] rfl ?_
    exact w_X1_afterRoad_B15 X R   p1 p2 p3 p4 p5 0 I J h
  · have h := h.2 c15
    refine g_iconst X (v := 1) dX1_afterRoad_10 (by decide) ?_
    refine g_goto X (tgt := 15) dX1_afterRoad_11 (by decide) ?_
    refine GW.sub (lv' := [(0, .ref (ea (zE Z) 5)), (1, .int p1), (2, .int p2), (3, .int p3), (4, .int p4), (5, .int p5)]) [0, 1, 2, 3, 4, 5] rfl ?_
    exact w_X1_afterRoad_B15 X R   p1 p2 p3 p4 p5 1 I J h
