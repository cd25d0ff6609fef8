/-! X10_isIn.isIn(II)Z -/
def rmX10_isIn : Room := { frames := 0, cells := 0, slots := 0, locals := 0 }
theorem yo_X10_isIn : yX10_isIn.cls = RX10 ∧ yX10_isIn.cls ≠ "java/lang/invoke/MethodHandle" ∧ yX10_isIn.cls ≠ "java/lang/invoke/VarHandle" ∧ (parseMethodDescriptor yX10_isIn.desc).map (fun d => d.parameters.length) = some 2 := by decide +kernel
theorem kX10_isIn_19 : Cond.fieldLink RX10 19 "SnowCourse" (TX10 1).2.1 (TX10 1).2.2.1 ∈ wsX10_isIn := by decide +kernel
theorem iX10_isIn_X10 : ∀ w ∈ u_ws RX10 TX10 9, w ∈ wsX10_isIn := by decide +kernel
theorem kX10_isIn_97 : Cond.fieldLink RX10 97 "SnowCourse$Country" (TX1 0).2.1 (TX1 0).2.2.1 ∈ wsX10_isIn := by decide +kernel
theorem iX10_isIn_X1 : ∀ w ∈ u_ws RX1 TX1 12, w ∈ wsX10_isIn := by decide +kernel
theorem kX10_isIn_26 : Cond.fieldLink RX10 26 "SnowCourse" (TX10 2).2.1 (TX10 2).2.2.1 ∈ wsX10_isIn := by decide +kernel
theorem kX10_isIn_101 : Cond.fieldLink RX10 101 "SnowCourse$Chronicle" (TX0 0).2.1 (TX0 0).2.2.1 ∈ wsX10_isIn := by decide +kernel
theorem iX10_isIn_X0 : ∀ w ∈ u_ws RX0 TX0 6, w ∈ wsX10_isIn := by decide +kernel
theorem kX10_isIn_145 : Cond.fieldLink RX10 145 "SnowCourse$Standing" (TX7 0).2.1 (TX7 0).2.2.1 ∈ wsX10_isIn := by decide +kernel
theorem iX10_isIn_X7 : ∀ w ∈ u_ws RX7 TX7 5, w ∈ wsX10_isIn := by decide +kernel
def vc_X10_isIn (p1 : Int32) (p2 : Int32) (I : MI) (J : MJ) (Q : Int32 → MI → MJ → Prop) : Prop := vp_in p1 4 ∧ vp_in (I 33 (Int32.toNatClampNeg p1)) 7 ∧ ((¬ (I 6 (Int32.toNatClampNeg (I 33 (Int32.toNatClampNeg p1)))) = p2 → Q 0 I J) ∧ ((I 6 (Int32.toNatClampNeg (I 33 (Int32.toNatClampNeg p1)))) = p2 → Q 1 I J))
set_option maxRecDepth 100000 in
set_option maxHeartbeats 4000000 in
theorem c_X10_isIn (l : Launch) (E : ET)  (p1 : Int32) (p2 : Int32) : CI l yX10_isIn wsX10_isIn rmX10_isIn E [.ref (ea E 0), .int p1, .int p2] (vc_X10_isIn p1 p2) := by
  refine CI.of (cc := cX10_isIn) (maxL := 3) (own := RX10) (by decide) rfl rfl (Nat.le_of_ble_eq_true rfl) ?_
  intro Z I J Q hE hl X R h
  subst hE
  subst hl
  show GW Z 3 I J 0 [(0, .ref (ea (zE Z) 0)), (1, .int p1), (2, .int p2)] []
  refine g_aload_n X dX10_isIn_0 rfl 0 rfl ?_
  refine g_getr X (C := RX10) (T := TX10) (N := 9) (ci := 8) (k := 1) iX10_isIn_X10 rfl kX10_isIn_19 (Nat.le_of_ble_eq_true rfl) rfl (by decide) rfl rfl dX10_isIn_1 ?_
  refine g_getr X (C := RX1) (T := TX1) (N := 12) (ci := 1) (k := 0) iX10_isIn_X1 rfl kX10_isIn_97 (Nat.le_of_ble_eq_true rfl) rfl (by decide) rfl rfl dX10_isIn_4 ?_
  refine g_aload_n X dX10_isIn_7 rfl 0 rfl ?_
  refine g_getr X (C := RX10) (T := TX10) (N := 9) (ci := 8) (k := 2) iX10_isIn_X10 rfl kX10_isIn_26 (Nat.le_of_ble_eq_true rfl) rfl (by decide) rfl rfl dX10_isIn_8 ?_
  refine g_getr X (C := RX0) (T := TX0) (N := 6) (ci := 0) (k := 0) iX10_isIn_X0 rfl kX10_isIn_101 (Nat.le_of_ble_eq_true rfl) rfl (by decide) rfl rfl dX10_isIn_11 ?_
  refine g_getr X (C := RX7) (T := TX7) (N := 5) (ci := 5) (k := 0) iX10_isIn_X7 rfl kX10_isIn_145 (Nat.le_of_ble_eq_true rfl) rfl (by decide) rfl rfl dX10_isIn_14 ?_
  refine g_iload_n X dX10_isIn_17 rfl 1 rfl ?_
  obtain ⟨b1, h⟩ := h
  refine g_iald X (Nat.le_of_ble_eq_true rfl) rfl b1 dX10_isIn_18 ?_
  obtain ⟨b2, h⟩ := h
  refine g_iald X (Nat.le_of_ble_eq_true rfl) rfl b2 dX10_isIn_19 ?_
  refine g_iload_n X dX10_isIn_20 rfl 2 rfl ?_
  refine g_icmp_ne X (tgt := 28) dX10_isIn_21 (by decide) (fun c3 => ?_) (fun c3 => ?_)
  · have h := h.1 c3
    refine g_iconst X (v := 0) dX10_isIn_28 (by decide) ?_
    exact g_zret X R (by decide) dX10_isIn_29 h
  · have h := h.2 c3
    refine g_iconst X (v := 1) dX10_isIn_24 (by decide) ?_
    refine g_goto X (tgt := 29) dX10_isIn_25 (by decide) ?_
    exact g_zret X R (by decide) dX10_isIn_29 h

/-! X10_comesInTime.comesInTime(II)Z -/
def rmX10_comesInTime : Room := { frames := 0, cells := 0, slots := 0, locals := 0 }
theorem yo_X10_comesInTime : yX10_comesInTime.cls = RX10 ∧ yX10_comesInTime.cls ≠ "java/lang/invoke/MethodHandle" ∧ yX10_comesInTime.cls ≠ "java/lang/invoke/VarHandle" ∧ (parseMethodDescriptor yX10_comesInTime.desc).map (fun d => d.parameters.length) = some 2 := by decide +kernel
theorem kX10_comesInTime_26 : Cond.fieldLink RX10 26 "SnowCourse" (TX10 2).2.1 (TX10 2).2.2.1 ∈ wsX10_comesInTime := by decide +kernel
theorem iX10_comesInTime_X10 : ∀ w ∈ u_ws RX10 TX10 9, w ∈ wsX10_comesInTime := by decide +kernel
theorem kX10_comesInTime_101 : Cond.fieldLink RX10 101 "SnowCourse$Chronicle" (TX0 0).2.1 (TX0 0).2.2.1 ∈ wsX10_comesInTime := by decide +kernel
theorem iX10_comesInTime_X0 : ∀ w ∈ u_ws RX0 TX0 6, w ∈ wsX10_comesInTime := by decide +kernel
theorem kX10_comesInTime_148 : Cond.fieldLink RX10 148 "SnowCourse$Standing" (TX7 1).2.1 (TX7 1).2.2.1 ∈ wsX10_comesInTime := by decide +kernel
theorem iX10_comesInTime_X7 : ∀ w ∈ u_ws RX7 TX7 5, w ∈ wsX10_comesInTime := by decide +kernel
theorem kX10_comesInTime_19 : Cond.fieldLink RX10 19 "SnowCourse" (TX10 1).2.1 (TX10 1).2.2.1 ∈ wsX10_comesInTime := by decide +kernel
theorem kX10_comesInTime_133 : Cond.fieldLink RX10 133 "SnowCourse$Country" (TX1 4).2.1 (TX1 4).2.2.1 ∈ wsX10_comesInTime := by decide +kernel
theorem iX10_comesInTime_X1 : ∀ w ∈ u_ws RX1 TX1 12, w ∈ wsX10_comesInTime := by decide +kernel
def vc_X10_comesInTime (p1 : Int32) (p2 : Int32) (I : MI) (J : MJ) (Q : Int32 → MI → MJ → Prop) : Prop := vp_in p1 4 ∧ vp_in p2 9 ∧ ((48 < ((I 34 (Int32.toNatClampNeg p1)) + (I 10 (Int32.toNatClampNeg p2))) → Q 0 I J) ∧ (¬ 48 < ((I 34 (Int32.toNatClampNeg p1)) + (I 10 (Int32.toNatClampNeg p2))) → Q 1 I J))
set_option maxRecDepth 100000 in
set_option maxHeartbeats 4000000 in
theorem c_X10_comesInTime (l : Launch) (E : ET)  (p1 : Int32) (p2 : Int32) : CI l yX10_comesInTime wsX10_comesInTime rmX10_comesInTime E [.ref (ea E 0), .int p1, .int p2] (vc_X10_comesInTime p1 p2) := by
  refine CI.of (cc := cX10_comesInTime) (maxL := 3) (own := RX10) (by decide) rfl rfl (Nat.le_of_ble_eq_true rfl) ?_
  intro Z I J Q hE hl X R h
  subst hE
  subst hl
  show GW Z 3 I J 0 [(0, .ref (ea (zE Z) 0)), (1, .int p1), (2, .int p2)] []
  refine g_aload_n X dX10_comesInTime_0 rfl 0 rfl ?_
  refine g_getr X (C := RX10) (T := TX10) (N := 9) (ci := 8) (k := 2) iX10_comesInTime_X10 rfl kX10_comesInTime_26 (Nat.le_of_ble_eq_true rfl) rfl (by decide) rfl rfl dX10_comesInTime_1 ?_
  refine g_getr X (C := RX0) (T := TX0) (N := 6) (ci := 0) (k := 0) iX10_comesInTime_X0 rfl kX10_comesInTime_101 (Nat.le_of_ble_eq_true rfl) rfl (by decide) rfl rfl dX10_comesInTime_4 ?_
  refine g_getr X (C := RX7) (T := TX7) (N := 5) (ci := 5) (k := 1) iX10_comesInTime_X7 rfl kX10_comesInTime_148 (Nat.le_of_ble_eq_true rfl) rfl (by decide) rfl rfl dX10_comesInTime_7 ?_
  refine g_iload_n X dX10_comesInTime_10 rfl 1 rfl ?_
  obtain ⟨b1, h⟩ := h
  refine g_iald X (Nat.le_of_ble_eq_true rfl) rfl b1 dX10_comesInTime_11 ?_
  refine g_aload_n X dX10_comesInTime_12 rfl 0 rfl ?_
  refine g_getr X (C := RX10) (T := TX10) (N := 9) (ci := 8) (k := 1) iX10_comesInTime_X10 rfl kX10_comesInTime_19 (Nat.le_of_ble_eq_true rfl) rfl (by decide) rfl rfl dX10_comesInTime_13 ?_
  refine g_getr X (C := RX1) (T := TX1) (N := 12) (ci := 1) (k := 4) iX10_comesInTime_X1 rfl kX10_comesInTime_133 (Nat.le_of_ble_eq_true rfl) rfl (by decide) rfl rfl dX10_comesInTime_16 ?_
  refine g_iload_n X dX10_comesInTime_19 rfl 2 rfl ?_
  obtain ⟨b2, h⟩ := h
  refine g_iald X (Nat.le_of_ble_eq_true rfl) rfl b2 dX10_comesInTime_20 ?_
  refine g_iadd X dX10_comesInTime_21 ?_
  refine g_bipush X (v := 48) dX10_comesInTime_22 (by decide) ?_
  refine g_icmp_gt X (tgt := 31) dX10_comesInTime_24 (by decide) (fun c3 => ?_) (fun c3 => ?_)
  · have h := h.1 c3
    refine g_iconst X (v := 0) dX10_comesInTime_31 (by decide) ?_
    exact g_zret X R (by decide) dX10_comesInTime_32 h
  · have h := h.2 c3
    refine g_iconst X (v := 1) dX10_comesInTime_27 (by decide) ?_
    refine g_goto X (tgt := 32) dX10_comesInTime_28 (by decide) ?_
    exact g_zret X R (by decide) dX10_comesInTime_32 h

/-! X10_mayGo.mayGo(II)Z -/
def rmX10_mayGo : Room := { frames := 1, cells := 0, slots := 0, locals := 22 }
theorem yo_X10_mayGo : yX10_mayGo.cls = RX10 ∧ yX10_mayGo.cls ≠ "java/lang/invoke/MethodHandle" ∧ yX10_mayGo.cls ≠ "java/lang/invoke/VarHandle" ∧ (parseMethodDescriptor yX10_mayGo.desc).map (fun d => d.parameters.length) = some 2 := by decide +kernel
theorem kX10_mayGo_19 : Cond.fieldLink RX10 19 "SnowCourse" (TX10 1).2.1 (TX10 1).2.2.1 ∈ wsX10_mayGo := by decide +kernel
theorem iX10_mayGo_X10 : ∀ w ∈ u_ws RX10 TX10 9, w ∈ wsX10_mayGo := by decide +kernel
theorem kX10_mayGo_26 : Cond.fieldLink RX10 26 "SnowCourse" (TX10 2).2.1 (TX10 2).2.2.1 ∈ wsX10_mayGo := by decide +kernel
theorem kX10_mayGo_101 : Cond.fieldLink RX10 101 "SnowCourse$Chronicle" (TX0 0).2.1 (TX0 0).2.2.1 ∈ wsX10_mayGo := by decide +kernel
theorem iX10_mayGo_X0 : ∀ w ∈ u_ws RX0 TX0 6, w ∈ wsX10_mayGo := by decide +kernel
theorem kX10_mayGo_145 : Cond.fieldLink RX10 145 "SnowCourse$Standing" (TX7 0).2.1 (TX7 0).2.2.1 ∈ wsX10_mayGo := by decide +kernel
theorem iX10_mayGo_X7 : ∀ w ∈ u_ws RX7 TX7 5, w ∈ wsX10_mayGo := by decide +kernel
def vc_X10_mayGo (p1 : Int32) (p2 : Int32) (I : MI) (J : MJ) (Q : Int32 → MI → MJ → Prop) : Prop := vp_in p1 4 ∧ vc_X1_touches p2 (I 33 (Int32.toNatClampNeg p1)) I J (fun (r4 : Int32) (I2 : MI) (J3 : MJ) => ((r4 = 0 → Q 0 I2 J3) ∧ (¬ r4 = 0 → vc_X10_comesInTime p1 p2 I2 J3 (fun (r8 : Int32) (I6 : MI) (J7 : MJ) => ((r8 = 0 → Q 0 I6 J7) ∧ (¬ r8 = 0 → Q 1 I6 J7))))))
set_option maxRecDepth 100000 in
set_option maxHeartbeats 4000000 in
theorem c_X10_mayGo (l : Launch) (E : ET)  (p1 : Int32) (p2 : Int32) : CI l yX10_mayGo wsX10_mayGo rmX10_mayGo E [.ref (ea E 0), .int p1, .int p2] (vc_X10_mayGo p1 p2) := by
  refine CI.of (cc := cX10_mayGo) (maxL := 3) (own := RX10) (by decide) rfl rfl (Nat.le_of_ble_eq_true rfl) ?_
  intro Z I J Q hE hl X R h
  subst hE
  subst hl
  show GW Z 3 I J 0 [(0, .ref (ea (zE Z) 0)), (1, .int p1), (2, .int p2)] []
  refine g_aload_n X dX10_mayGo_0 rfl 0 rfl ?_
  refine g_getr X (C := RX10) (T := TX10) (N := 9) (ci := 8) (k := 1) iX10_mayGo_X10 rfl kX10_mayGo_19 (Nat.le_of_ble_eq_true rfl) rfl (by decide) rfl rfl dX10_mayGo_1 ?_
  refine g_iload_n X dX10_mayGo_4 rfl 2 rfl ?_
  refine g_aload_n X dX10_mayGo_5 rfl 0 rfl ?_
  refine g_getr X (C := RX10) (T := TX10) (N := 9) (ci := 8) (k := 2) iX10_mayGo_X10 rfl kX10_mayGo_26 (Nat.le_of_ble_eq_true rfl) rfl (by decide) rfl rfl dX10_mayGo_6 ?_
  refine g_getr X (C := RX0) (T := TX0) (N := 6) (ci := 0) (k := 0) iX10_mayGo_X0 rfl kX10_mayGo_101 (Nat.le_of_ble_eq_true rfl) rfl (by decide) rfl rfl dX10_mayGo_9 ?_
  refine g_getr X (C := RX7) (T := TX7) (N := 5) (ci := 5) (k := 0) iX10_mayGo_X7 rfl kX10_mayGo_145 (Nat.le_of_ble_eq_true rfl) rfl (by decide) rfl rfl dX10_mayGo_12 ?_
  refine g_iload_n X dX10_mayGo_15 rfl 1 rfl ?_
  obtain ⟨b1, h⟩ := h
  refine g_iald X (Nat.le_of_ble_eq_true rfl) rfl b1 dX10_mayGo_16 ?_
  refine g_callVI X (As := [.int p2, .int (I 33 (Int32.toNatClampNeg p1))]) (rest := []) (T := TX1) (N := 12) (c_X1_touches (zl Z) (zE Z) p2 (I 33 (Int32.toNatClampNeg p1))) gX10_mayGo_X1_touches yo_X1_touches rfl ⟨Nat.le_of_ble_eq_true rfl, Nat.le_of_ble_eq_true rfl⟩ (Nat.le_of_ble_eq_true rfl) rfl rfl rfl dX10_mayGo_17 h (fun r4 I2 J3 h => ?_)
  refine g_if_eq X (tgt := 36) dX10_mayGo_20 (by decide) (fun c5 => ?_) (fun c5 => ?_)
  · have h := h.1 c5
    refine g_iconst X (v := 0) dX10_mayGo_36 (by decide) ?_
    exact g_zret X R (by decide) dX10_mayGo_37 h
  · have h := h.2 c5
    refine g_aload_n X dX10_mayGo_23 rfl 0 rfl ?_
    refine g_iload_n X dX10_mayGo_24 rfl 1 rfl ?_
    refine g_iload_n X dX10_mayGo_25 rfl 2 rfl ?_
    refine g_callVI X (As := [.int p1, .int p2]) (rest := []) (T := TX10) (N := 9) (c_X10_comesInTime (zl Z) (zE Z) p1 p2) gX10_mayGo_X10_comesInTime yo_X10_comesInTime rfl ⟨Nat.le_of_ble_eq_true rfl, Nat.le_of_ble_eq_true rfl⟩ (Nat.le_of_ble_eq_true rfl) rfl rfl rfl dX10_mayGo_26 h (fun r8 I6 J7 h => ?_)
    refine g_if_eq X (tgt := 36) dX10_mayGo_29 (by decide) (fun c9 => ?_) (fun c9 => ?_)
    · have h := h.1 c9
      refine g_iconst X (v := 0) dX10_mayGo_36 (by decide) ?_
      exact g_zret X R (by decide) dX10_mayGo_37 h
    · have h := h.2 c9
      refine g_iconst X (v := 1) dX10_mayGo_32 (by decide) ?_
      refine g_goto X (tgt := 37) dX10_mayGo_33 (by decide) ?_
      exact g_zret X R (by decide) dX10_mayGo_37 h

/-! X10_afterGoing.afterGoing(II)I -/
def rmX10_afterGoing : Room := { frames := 3, cells := 0, slots := 0, locals := 80 }
theorem yo_X10_afterGoing : yX10_afterGoing.cls = RX10 ∧ yX10_afterGoing.cls ≠ "java/lang/invoke/MethodHandle" ∧ yX10_afterGoing.cls ≠ "java/lang/invoke/VarHandle" ∧ (parseMethodDescriptor yX10_afterGoing.desc).map (fun d => d.parameters.length) = some 2 := by decide +kernel
theorem kX10_afterGoing_26 : Cond.fieldLink RX10 26 "SnowCourse" (TX10 2).2.1 (TX10 2).2.2.1 ∈ wsX10_afterGoing := by decide +kernel
theorem iX10_afterGoing_X10 : ∀ w ∈ u_ws RX10 TX10 9, w ∈ wsX10_afterGoing := by decide +kernel
theorem kX10_afterGoing_101 : Cond.fieldLink RX10 101 "SnowCourse$Chronicle" (TX0 0).2.1 (TX0 0).2.2.1 ∈ wsX10_afterGoing := by decide +kernel
theorem iX10_afterGoing_X0 : ∀ w ∈ u_ws RX0 TX0 6, w ∈ wsX10_afterGoing := by decide +kernel
theorem kX10_afterGoing_19 : Cond.fieldLink RX10 19 "SnowCourse" (TX10 1).2.1 (TX10 1).2.2.1 ∈ wsX10_afterGoing := by decide +kernel
theorem kX10_afterGoing_151 : Cond.fieldLink RX10 151 "SnowCourse$Standing" (TX7 2).2.1 (TX7 2).2.2.1 ∈ wsX10_afterGoing := by decide +kernel
theorem iX10_afterGoing_X7 : ∀ w ∈ u_ws RX7 TX7 5, w ∈ wsX10_afterGoing := by decide +kernel
theorem kX10_afterGoing_148 : Cond.fieldLink RX10 148 "SnowCourse$Standing" (TX7 1).2.1 (TX7 1).2.2.1 ∈ wsX10_afterGoing := by decide +kernel
theorem kX10_afterGoing_139 : Cond.fieldLink RX10 139 "SnowCourse$Country" (TX1 5).2.1 (TX1 5).2.2.1 ∈ wsX10_afterGoing := by decide +kernel
theorem iX10_afterGoing_X1 : ∀ w ∈ u_ws RX1 TX1 12, w ∈ wsX10_afterGoing := by decide +kernel
theorem kX10_afterGoing_142 : Cond.fieldLink RX10 142 "SnowCourse$Country" (TX1 7).2.1 (TX1 7).2.2.1 ∈ wsX10_afterGoing := by decide +kernel
def vc_X10_afterGoing (p1 : Int32) (p2 : Int32) (I : MI) (J : MJ) (Q : Int32 → MI → MJ → Prop) : Prop := vp_in p1 4 ∧ vp_in p1 4 ∧ vp_in p1 4 ∧ vp_in p1 4 ∧ vc_X1_afterRoad p2 (I 35 (Int32.toNatClampNeg p1)) (I 34 (Int32.toNatClampNeg p1)) (I 11 (Int32.toNatClampNeg p1)) (I 13 (Int32.toNatClampNeg p1)) I J (fun (r7 : Int32) (I5 : MI) (J6 : MJ) => Q r7 I5 J6)
set_option maxRecDepth 100000 in
set_option maxHeartbeats 4000000 in
theorem c_X10_afterGoing (l : Launch) (E : ET)  (p1 : Int32) (p2 : Int32) : CI l yX10_afterGoing wsX10_afterGoing rmX10_afterGoing E [.ref (ea E 0), .int p1, .int p2] (vc_X10_afterGoing p1 p2) := by
  refine CI.of (cc := cX10_afterGoing) (maxL := 4) (own := RX10) (by decide) rfl rfl (Nat.le_of_ble_eq_true rfl) ?_
  intro Z I J Q hE hl X R h
  subst hE
  subst hl
  show GW Z 4 I J 0 [(0, .ref (ea (zE Z) 0)), (1, .int p1), (2, .int p2)] []
  refine g_aload_n X dX10_afterGoing_0 rfl 0 rfl ?_
  refine g_getr X (C := RX10) (T := TX10) (N := 9) (ci := 8) (k := 2) iX10_afterGoing_X10 rfl kX10_afterGoing_26 (Nat.le_of_ble_eq_true rfl) rfl (by decide) rfl rfl dX10_afterGoing_1 ?_
  refine g_getr X (C := RX0) (T := TX0) (N := 6) (ci := 0) (k := 0) iX10_afterGoing_X0 rfl kX10_afterGoing_101 (Nat.le_of_ble_eq_true rfl) rfl (by decide) rfl rfl dX10_afterGoing_4 ?_
  refine g_astore_n X (lv' := [(3, .ref (ea (zE Z) 32)), (0, .ref (ea (zE Z) 0)), (1, .int p1), (2, .int p2)]) dX10_afterGoing_7 rfl (by decide) rfl ?_
  refine g_aload_n X dX10_afterGoing_8 rfl 1 rfl ?_
  refine g_getr X (C := RX10) (T := TX10) (N := 9) (ci := 8) (k := 1) iX10_afterGoing_X10 rfl kX10_afterGoing_19 (Nat.le_of_ble_eq_true rfl) rfl (by decide) rfl rfl dX10_afterGoing_9 ?_
  refine g_iload_n X dX10_afterGoing_12 rfl 3 rfl ?_
  refine g_aload_n X dX10_afterGoing_13 rfl 0 rfl ?_
  refine g_getr X (C := RX7) (T := TX7) (N := 5) (ci := 5) (k := 2) iX10_afterGoing_X7 rfl kX10_afterGoing_151 (Nat.le_of_ble_eq_true rfl) rfl (by decide) rfl rfl dX10_afterGoing_14 ?_
  refine g_iload_n X dX10_afterGoing_17 rfl 2 rfl ?_
  obtain ⟨b1, h⟩ := h
  refine g_iald X (Nat.le_of_ble_eq_true rfl) rfl b1 dX10_afterGoing_18 ?_
  refine g_aload_n X dX10_afterGoing_19 rfl 0 rfl ?_
  refine g_getr X (C := RX7) (T := TX7) (N := 5) (ci := 5) (k := 1) iX10_afterGoing_X7 rfl kX10_afterGoing_148 (Nat.le_of_ble_eq_true rfl) rfl (by decide) rfl rfl dX10_afterGoing_20 ?_
  refine g_iload_n X dX10_afterGoing_23 rfl 2 rfl ?_
  obtain ⟨b2, h⟩ := h
  refine g_iald X (Nat.le_of_ble_eq_true rfl) rfl b2 dX10_afterGoing_24 ?_
  refine g_aload_n X dX10_afterGoing_25 rfl 1 rfl ?_
  refine g_getr X (C := RX10) (T := TX10) (N := 9) (ci := 8) (k := 1) iX10_afterGoing_X10 rfl kX10_afterGoing_19 (Nat.le_of_ble_eq_true rfl) rfl (by decide) rfl rfl dX10_afterGoing_26 ?_
  refine g_getr X (C := RX1) (T := TX1) (N := 12) (ci := 1) (k := 5) iX10_afterGoing_X1 rfl kX10_afterGoing_139 (Nat.le_of_ble_eq_true rfl) rfl (by decide) rfl rfl dX10_afterGoing_29 ?_
  refine g_iload_n X dX10_afterGoing_32 rfl 2 rfl ?_
  obtain ⟨b3, h⟩ := h
  refine g_iald X (Nat.le_of_ble_eq_true rfl) rfl b3 dX10_afterGoing_33 ?_
  refine g_aload_n X dX10_afterGoing_34 rfl 1 rfl ?_
  refine g_getr X (C := RX10) (T := TX10) (N := 9) (ci := 8) (k := 1) iX10_afterGoing_X10 rfl kX10_afterGoing_19 (Nat.le_of_ble_eq_true rfl) rfl (by decide) rfl rfl dX10_afterGoing_35 ?_
  refine g_getr X (C := RX1) (T := TX1) (N := 12) (ci := 1) (k := 7) iX10_afterGoing_X1 rfl kX10_afterGoing_142 (Nat.le_of_ble_eq_true rfl) rfl (by decide) rfl rfl dX10_afterGoing_38 ?_
  refine g_iload_n X dX10_afterGoing_41 rfl 2 rfl ?_
  obtain ⟨b4, h⟩ := h
  refine g_iald X (Nat.le_of_ble_eq_true rfl) rfl b4 dX10_afterGoing_42 ?_
  refine g_callVI X (As := [.int p2, .int (I 35 (Int32.toNatClampNeg p1)), .int (I 34 (Int32.toNatClampNeg p1)), .int (I 11 (Int32.toNatClampNeg p1)), .int (I 13 (Int32.toNatClampNeg p1))]) (rest := []) (T := TX1) (N := 12) (c_X1_afterRoad (zl Z) (zE Z) p2 (I 35 (Int32.toNatClampNeg p1)) (I 34 (Int32.toNatClampNeg p1)) (I 11 (Int32.toNatClampNeg p1)) (I 13 (Int32.toNatClampNeg p1))) gX10_afterGoing_X1_afterRoad yo_X1_afterRoad rfl ⟨Nat.le_of_ble_eq_true rfl, Nat.le_of_ble_eq_true rfl⟩ (Nat.le_of_ble_eq_true rfl) rfl rfl rfl dX10_afterGoing_43 h (fun r7 I5 J6 h => ?_)
  exact g_iret X R dX10_afterGoing_46 h

/-! X10_afterResting.afterResting(II)I -/
def rmX10_afterResting : Room := { frames := 3, cells := 0, slots := 0, locals := 76 }
theorem yo_X10_afterResting : yX10_afterResting.cls = RX10 ∧ yX10_afterResting.cls ≠ "java/lang/invoke/MethodHandle" ∧ yX10_afterResting.cls ≠ "java/lang/invoke/VarHandle" ∧ (parseMethodDescriptor yX10_afterResting.desc).map (fun d => d.parameters.length) = some 2 := by decide +kernel
theorem kX10_afterResting_19 : Cond.fieldLink RX10 19 "SnowCourse" (TX10 1).2.1 (TX10 1).2.2.1 ∈ wsX10_afterResting := by decide +kernel
theorem iX10_afterResting_X10 : ∀ w ∈ u_ws RX10 TX10 9, w ∈ wsX10_afterResting := by decide +kernel
theorem kX10_afterResting_145 : Cond.fieldLink RX10 145 "SnowCourse$Standing" (TX7 0).2.1 (TX7 0).2.2.1 ∈ wsX10_afterResting := by decide +kernel
theorem iX10_afterResting_X7 : ∀ w ∈ u_ws RX7 TX7 5, w ∈ wsX10_afterResting := by decide +kernel
theorem kX10_afterResting_148 : Cond.fieldLink RX10 148 "SnowCourse$Standing" (TX7 1).2.1 (TX7 1).2.2.1 ∈ wsX10_afterResting := by decide +kernel
theorem kX10_afterResting_139 : Cond.fieldLink RX10 139 "SnowCourse$Country" (TX1 5).2.1 (TX1 5).2.2.1 ∈ wsX10_afterResting := by decide +kernel
theorem iX10_afterResting_X1 : ∀ w ∈ u_ws RX1 TX1 12, w ∈ wsX10_afterResting := by decide +kernel
theorem kX10_afterResting_142 : Cond.fieldLink RX10 142 "SnowCourse$Country" (TX1 7).2.1 (TX1 7).2.2.1 ∈ wsX10_afterResting := by decide +kernel
theorem kX10_afterResting_26 : Cond.fieldLink RX10 26 "SnowCourse" (TX10 2).2.1 (TX10 2).2.2.1 ∈ wsX10_afterResting := by decide +kernel
theorem kX10_afterResting_101 : Cond.fieldLink RX10 101 "SnowCourse$Chronicle" (TX0 0).2.1 (TX0 0).2.2.1 ∈ wsX10_afterResting := by decide +kernel
theorem iX10_afterResting_X0 : ∀ w ∈ u_ws RX0 TX0 6, w ∈ wsX10_afterResting := by decide +kernel
theorem kX10_afterResting_151 : Cond.fieldLink RX10 151 "SnowCourse$Standing" (TX7 2).2.1 (TX7 2).2.2.1 ∈ wsX10_afterResting := by decide +kernel
def vc_X10_afterResting_L19s  (Q : Int32 → MI → MJ → Prop)  (k19 : Int32 → Int32 → Int32 → Int32 → MI → MJ → Prop) (v1 : Int32) (v2 : Int32) (v4 : Int32) (v5 : Int32) (I : MI) (J : MJ) : Prop := ((v2 ≤ v5 → Q v4 I J) ∧ (¬ v2 ≤ v5 → vp_in v1 4 ∧ vp_in v1 4 ∧ vp_in v1 4 ∧ vp_in v1 4 ∧ vc_X1_afterHourIn (I 33 (Int32.toNatClampNeg v1)) v4 ((I 34 (Int32.toNatClampNeg v1)) + v5) (I 11 (Int32.toNatClampNeg v1)) (I 13 (Int32.toNatClampNeg v1)) I J (fun (r8 : Int32) (I6 : MI) (J7 : MJ) => ∀ x9 : Int32, x9 = v5 + 1 → k19 v1 v2 r8 x9 I6 J7)))
def vc_X10_afterResting_L19  (Q : Int32 → MI → MJ → Prop)  (n : Nat) : Int32 → Int32 → Int32 → Int32 → MI → MJ → Prop := Nat.rec (fun _ _ _ _ _ _ => False) (fun _ ih => vc_X10_afterResting_L19s  Q  ih) n
set_option maxRecDepth 100000 in
set_option maxHeartbeats 4000000 in
theorem w_X10_afterResting_L19s {Z : RT}  (X : Cx Z cX10_afterResting 6 RX10 wsX10_afterResting rmX10_afterResting (some .int)) {Q : Int32 → MI → MJ → Prop} (R : RI Z Q)    {k19 : Int32 → Int32 → Int32 → Int32 → MI → MJ → Prop} (hk19 : ∀ (v1 : Int32) (v2 : Int32) (v4 : Int32) (v5 : Int32) (I : MI) (J : MJ), k19 v1 v2 v4 v5 I J → GW Z 6 I J 19 [(0, .ref (ea (zE Z) 0)), (1, .int v1), (2, .int v2), (3, .ref (ea (zE Z) 32)), (4, .int v4), (5, .int v5)] []) (v1 : Int32) (v2 : Int32) (v4 : Int32) (v5 : Int32) (I : MI) (J : MJ) (h : vc_X10_afterResting_L19s  Q  k19 v1 v2 v4 v5 I J) : GW Z 6 I J 19 [(0, .ref (ea (zE Z) 0)), (1, .int v1), (2, .int v2), (3, .ref (ea (zE Z) 32)), (4, .int v4), (5, .int v5)] [] := by
  refine g_iload X dX10_afterResting_19 5 rfl ?_
  refine g_iload_n X dX10_afterResting_21 rfl 2 rfl ?_
  refine g_icmp_ge X (tgt := 75) dX10_afterResting_22 (by decide) (fun c1 => ?_) (fun c1 => ?_)
  · have h := h.1 c1
    refine g_iload X dX10_afterResting_75 4 rfl ?_
    exact g_iret X R dX10_afterResting_77 h
  · have h := h.2 c1
    refine g_aload_n X dX10_afterResting_25 rfl 0 rfl ?_
    refine g_getr X (C := RX10) (T := TX10) (N := 9) (ci := 8) (k := 1) iX10_afterResting_X10 rfl kX10_afterResting_19 (Nat.le_of_ble_eq_true rfl) rfl (by decide) rfl rfl dX10_afterResting_26 ?_
    refine g_aload_n X dX10_afterResting_29 rfl 3 rfl ?_
    refine g_getr X (C := RX7) (T := TX7) (N := 5) (ci := 5) (k := 0) iX10_afterResting_X7 rfl kX10_afterResting_145 (Nat.le_of_ble_eq_true rfl) rfl (by decide) rfl rfl dX10_afterResting_30 ?_
    refine g_iload_n X dX10_afterResting_33 rfl 1 rfl ?_
    obtain ⟨b2, h⟩ := h
    refine g_iald X (Nat.le_of_ble_eq_true rfl) rfl b2 dX10_afterResting_34 ?_
    refine g_iload X dX10_afterResting_35 4 rfl ?_
    refine g_aload_n X dX10_afterResting_37 rfl 3 rfl ?_
    refine g_getr X (C := RX7) (T := TX7) (N := 5) (ci := 5) (k := 1) iX10_afterResting_X7 rfl kX10_afterResting_148 (Nat.le_of_ble_eq_true rfl) rfl (by decide) rfl rfl dX10_afterResting_38 ?_
    refine g_iload_n X dX10_afterResting_41 rfl 1 rfl ?_
    obtain ⟨b3, h⟩ := h
    refine g_iald X (Nat.le_of_ble_eq_true rfl) rfl b3 dX10_afterResting_42 ?_
    refine g_iload X dX10_afterResting_43 5 rfl ?_
    refine g_iadd X dX10_afterResting_45 ?_
    refine g_aload_n X dX10_afterResting_46 rfl 0 rfl ?_
    refine g_getr X (C := RX10) (T := TX10) (N := 9) (ci := 8) (k := 1) iX10_afterResting_X10 rfl kX10_afterResting_19 (Nat.le_of_ble_eq_true rfl) rfl (by decide) rfl rfl dX10_afterResting_47 ?_
    refine g_getr X (C := RX1) (T := TX1) (N := 12) (ci := 1) (k := 5) iX10_afterResting_X1 rfl kX10_afterResting_139 (Nat.le_of_ble_eq_true rfl) rfl (by decide) rfl rfl dX10_afterResting_50 ?_
    refine g_iload_n X dX10_afterResting_53 rfl 1 rfl ?_
    obtain ⟨b4, h⟩ := h
    refine g_iald X (Nat.le_of_ble_eq_true rfl) rfl b4 dX10_afterResting_54 ?_
    refine g_aload_n X dX10_afterResting_55 rfl 0 rfl ?_
    refine g_getr X (C := RX10) (T := TX10) (N := 9) (ci := 8) (k := 1) iX10_afterResting_X10 rfl kX10_afterResting_19 (Nat.le_of_ble_eq_true rfl) rfl (by decide) rfl rfl dX10_afterResting_56 ?_
    refine g_getr X (C := RX1) (T := TX1) (N := 12) (ci := 1) (k := 7) iX10_afterResting_X1 rfl kX10_afterResting_142 (Nat.le_of_ble_eq_true rfl) rfl (by decide) rfl rfl dX10_afterResting_59 ?_
    refine g_iload_n X dX10_afterResting_62 rfl 1 rfl ?_
    obtain ⟨b5, h⟩ := h
    refine g_iald X (Nat.le_of_ble_eq_true rfl) rfl b5 dX10_afterResting_63 ?_
    refine g_callVI X (As := [.int (I 33 (Int32.toNatClampNeg v1)), .int v4, .int ((I 34 (Int32.toNatClampNeg v1)) + v5), .int (I 11 (Int32.toNatClampNeg v1)), .int (I 13 (Int32.toNatClampNeg v1))]) (rest := []) (T := TX1) (N := 12) (c_X1_afterHourIn (zl Z) (zE Z) (I 33 (Int32.toNatClampNeg v1)) v4 ((I 34 (Int32.toNatClampNeg v1)) + v5) (I 11 (Int32.toNatClampNeg v1)) (I 13 (Int32.toNatClampNeg v1))) gX10_afterResting_X1_afterHourIn yo_X1_afterHourIn rfl ⟨Nat.le_of_ble_eq_true rfl, Nat.le_of_ble_eq_true rfl⟩ (Nat.le_of_ble_eq_true rfl) rfl rfl rfl dX10_afterResting_64 h (fun r8 I6 J7 h => ?_)
    refine g_istore X (lv' := [(4, .int r8), (0, .ref (ea (zE Z) 0)), (1, .int v1), (2, .int v2), (3, .ref (ea (zE Z) 32)), (5, .int v5)]) dX10_afterResting_67 (by decide) rfl ?_
    obtain ⟨x9, ex9⟩ : ∃ y : Int32, y = v5 + 1 := ⟨_, rfl⟩
    have h := h x9 ex9
    refine g_iinc X (q := 5) (v := x9) (lv' := [(5, .int x9), (4, .int r8), (0, .ref (ea (zE Z) 0)), (1, .int v1), (2, .int v2), (3, .ref (ea (zE Z) 32))]) dX10_afterResting_69 rfl (by rw [ex9]; rfl) (by decide) rfl ?_
    refine g_goto X (tgt := 19) dX10_afterResting_72 (by decide) ?_
    refine GW.sub (lv' := [(0, .ref (ea (zE Z) 0)), (1, .int v1), (2, .int v2), (3, .ref (ea (zE Z) 32)), (4, .int r8), (5, .int x9)]) [2, 3, 4, 5, 1, 0] rfl ?_
    exact hk19 v1 v2 r8 x9 I6 J7 h
theorem w_X10_afterResting_L19 {Z : RT}  (X : Cx Z cX10_afterResting 6 RX10 wsX10_afterResting rmX10_afterResting (some .int)) {Q : Int32 → MI → MJ → Prop} (R : RI Z Q)    : ∀ (n : Nat) (v1 : Int32) (v2 : Int32) (v4 : Int32) (v5 : Int32) (I : MI) (J : MJ) (h : vc_X10_afterResting_L19  Q  n v1 v2 v4 v5 I J), GW Z 6 I J 19 [(0, .ref (ea (zE Z) 0)), (1, .int v1), (2, .int v2), (3, .ref (ea (zE Z) 32)), (4, .int v4), (5, .int v5)] [] := by
  intro n
  induction n with
  | zero => intro v1 v2 v4 v5 I J h; exact h.elim
  | succ n ih => intro v1 v2 v4 v5 I J h; exact w_X10_afterResting_L19s X R   ih v1 v2 v4 v5 I J h
def vc_X10_afterResting (p1 : Int32) (p2 : Int32) (I : MI) (J : MJ) (Q : Int32 → MI → MJ → Prop) : Prop := vp_in p1 4 ∧ ∀ x11 : Int32, x11 = I 35 (Int32.toNatClampNeg p1) → (∃ n, vc_X10_afterResting_L19  Q  n p1 p2 x11 0 I J)
set_option maxRecDepth 100000 in
set_option maxHeartbeats 4000000 in
theorem c_X10_afterResting (l : Launch) (E : ET)  (p1 : Int32) (p2 : Int32) : CI l yX10_afterResting wsX10_afterResting rmX10_afterResting E [.ref (ea E 0), .int p1, .int p2] (vc_X10_afterResting p1 p2) := by
  refine CI.of (cc := cX10_afterResting) (maxL := 6) (own := RX10) (by decide) rfl rfl (Nat.le_of_ble_eq_true rfl) ?_
  intro Z I J Q hE hl X R h
  subst hE
  subst hl
  show GW Z 6 I J 0 [(0, .ref (ea (zE Z) 0)), (1, .int p1), (2, .int p2)] []
  refine g_aload_n X dX10_afterResting_0 rfl 0 rfl ?_
  refine g_getr X (C := RX10) (T := TX10) (N := 9) (ci := 8) (k := 2) iX10_afterResting_X10 rfl kX10_afterResting_26 (Nat.le_of_ble_eq_true rfl) rfl (by decide) rfl rfl dX10_afterResting_1 ?_
  refine g_getr X (C := RX0) (T := TX0) (N := 6) (ci := 0) (k := 0) iX10_afterResting_X0 rfl kX10_afterResting_101 (Nat.le_of_ble_eq_true rfl) rfl (by decide) rfl rfl dX10_afterResting_4 ?_
  refine g_astore_n X (lv' := [(3, .ref (ea (zE Z) 32)), (0, .ref (ea (zE Z) 0)), (1, .int p1), (2, .int p2)]) dX10_afterResting_7 rfl (by decide) rfl ?_
  refine g_aload_n X dX10_afterResting_8 rfl 0 rfl ?_
  refine g_getr X (C := RX7) (T := TX7) (N := 5) (ci := 5) (k := 2) iX10_afterResting_X7 rfl kX10_afterResting_151 (Nat.le_of_ble_eq_true rfl) rfl (by decide) rfl rfl dX10_afterResting_9 ?_
  refine g_iload_n X dX10_afterResting_12 rfl 2 rfl ?_
  obtain ⟨b10, h⟩ := h
  refine g_iald X (Nat.le_of_ble_eq_true rfl) rfl b10 dX10_afterResting_13 ?_
  refine g_topi (fun x11 ex11 => ?_)
  have h := h x11 ex11
  refine g_istore X (lv' := [(4, .int x11), (3, .ref (ea (zE Z) 32)), (0, .ref (ea (zE Z) 0)), (1, .int p1), (2, .int p2)]) dX10_afterResting_14 (by decide) rfl ?_
  refine g_iconst X (v := 0) dX10_afterResting_16 (by decide) ?_
  refine g_istore X (lv' := [(5, .int 0), (4, .int x11), (3, .ref (ea (zE Z) 32)), (0, .ref (ea (zE Z) 0)), (1, .int p1), (2, .int p2)]) dX10_afterResting_17 (by decide) rfl ?_
  refine GW.sub (lv' := [(0, .ref (ea (zE Z) 0)), (1, .int p1), (2, .int p2), (3, .ref (ea (zE Z) 32)), (4, .int x11), (5, .int 0)]) [3, 4, 5, 2, 1, 0] rfl ?_
  obtain ⟨n, h⟩ := h
  exact w_X10_afterResting_L19 X R   n p1 p2 x11 0 I J h

/-! X10_worthBy.worthBy(II)I -/
def rmX10_worthBy : Room := { frames := 4, cells := 0, slots := 0, locals := 103 }
theorem yo_X10_worthBy : yX10_worthBy.cls = RX10 ∧ yX10_worthBy.cls ≠ "java/lang/invoke/MethodHandle" ∧ yX10_worthBy.cls ≠ "java/lang/invoke/VarHandle" ∧ (parseMethodDescriptor yX10_worthBy.desc).map (fun d => d.parameters.length) = some 2 := by decide +kernel
theorem kX10_worthBy_26 : Cond.fieldLink RX10 26 "SnowCourse" (TX10 2).2.1 (TX10 2).2.2.1 ∈ wsX10_worthBy := by decide +kernel
theorem iX10_worthBy_X10 : ∀ w ∈ u_ws RX10 TX10 9, w ∈ wsX10_worthBy := by decide +kernel
theorem kX10_worthBy_101 : Cond.fieldLink RX10 101 "SnowCourse$Chronicle" (TX0 0).2.1 (TX0 0).2.2.1 ∈ wsX10_worthBy := by decide +kernel
theorem iX10_worthBy_X0 : ∀ w ∈ u_ws RX0 TX0 6, w ∈ wsX10_worthBy := by decide +kernel
theorem kX10_worthBy_148 : Cond.fieldLink RX10 148 "SnowCourse$Standing" (TX7 1).2.1 (TX7 1).2.2.1 ∈ wsX10_worthBy := by decide +kernel
theorem iX10_worthBy_X7 : ∀ w ∈ u_ws RX7 TX7 5, w ∈ wsX10_worthBy := by decide +kernel
theorem kX10_worthBy_19 : Cond.fieldLink RX10 19 "SnowCourse" (TX10 1).2.1 (TX10 1).2.2.1 ∈ wsX10_worthBy := by decide +kernel
theorem kX10_worthBy_133 : Cond.fieldLink RX10 133 "SnowCourse$Country" (TX1 4).2.1 (TX1 4).2.2.1 ∈ wsX10_worthBy := by decide +kernel
theorem iX10_worthBy_X1 : ∀ w ∈ u_ws RX1 TX1 12, w ∈ wsX10_worthBy := by decide +kernel
def vc_X10_worthBy (p1 : Int32) (p2 : Int32) (I : MI) (J : MJ) (Q : Int32 → MI → MJ → Prop) : Prop := vp_in p1 4 ∧ vp_in p2 9 ∧ ∀ x3 : Int32, x3 = (I 34 (Int32.toNatClampNeg p1)) + (I 10 (Int32.toNatClampNeg p2)) → vc_X10_afterGoing p1 p2 I J (fun (r6 : Int32) (I4 : MI) (J5 : MJ) => vc_X2_priceIn x3 I4 J5 (fun (r9 : Int32) (I7 : MI) (J8 : MJ) => Q (r6 * r9) I7 J8))
set_option maxRecDepth 100000 in
set_option maxHeartbeats 4000000 in
theorem c_X10_worthBy (l : Launch) (E : ET)  (p1 : Int32) (p2 : Int32) : CI l yX10_worthBy wsX10_worthBy rmX10_worthBy E [.ref (ea E 0), .int p1, .int p2] (vc_X10_worthBy p1 p2) := by
  refine CI.of (cc := cX10_worthBy) (maxL := 4) (own := RX10) (by decide) rfl rfl (Nat.le_of_ble_eq_true rfl) ?_
  intro Z I J Q hE hl X R h
  subst hE
  subst hl
  show GW Z 4 I J 0 [(0, .ref (ea (zE Z) 0)), (1, .int p1), (2, .int p2)] []
  refine g_aload_n X dX10_worthBy_0 rfl 0 rfl ?_
  refine g_getr X (C := RX10) (T := TX10) (N := 9) (ci := 8) (k := 2) iX10_worthBy_X10 rfl kX10_worthBy_26 (Nat.le_of_ble_eq_true rfl) rfl (by decide) rfl rfl dX10_worthBy_1 ?_
  refine g_getr X (C := RX0) (T := TX0) (N := 6) (ci := 0) (k := 0) iX10_worthBy_X0 rfl kX10_worthBy_101 (Nat.le_of_ble_eq_true rfl) rfl (by decide) rfl rfl dX10_worthBy_4 ?_
  refine g_getr X (C := RX7) (T := TX7) (N := 5) (ci := 5) (k := 1) iX10_worthBy_X7 rfl kX10_worthBy_148 (Nat.le_of_ble_eq_true rfl) rfl (by decide) rfl rfl dX10_worthBy_7 ?_
  refine g_iload_n X dX10_worthBy_10 rfl 1 rfl ?_
  obtain ⟨b1, h⟩ := h
  refine g_iald X (Nat.le_of_ble_eq_true rfl) rfl b1 dX10_worthBy_11 ?_
  refine g_aload_n X dX10_worthBy_12 rfl 0 rfl ?_
  refine g_getr X (C := RX10) (T := TX10) (N := 9) (ci := 8) (k := 1) iX10_worthBy_X10 rfl kX10_worthBy_19 (Nat.le_of_ble_eq_true rfl) rfl (by decide) rfl rfl dX10_worthBy_13 ?_
  refine g_getr X (C := RX1) (T := TX1) (N := 12) (ci := 1) (k := 4) iX10_worthBy_X1 rfl kX10_worthBy_133 (Nat.le_of_ble_eq_true rfl) rfl (by decide) rfl rfl dX10_worthBy_16 ?_
  refine g_iload_n X dX10_worthBy_19 rfl 2 rfl ?_
  obtain ⟨b2, h⟩ := h
  refine g_iald X (Nat.le_of_ble_eq_true rfl) rfl b2 dX10_worthBy_20 ?_
  refine g_iadd X dX10_worthBy_21 ?_
  refine g_topi (fun x3 ex3 => ?_)
  have h := h x3 ex3
  refine g_istore_n X (lv' := [(3, .int x3), (0, .ref (ea (zE Z) 0)), (1, .int p1), (2, .int p2)]) dX10_worthBy_22 rfl (by decide) rfl ?_
  refine g_aload_n X dX10_worthBy_23 rfl 1 rfl ?_
  refine g_iload_n X dX10_worthBy_24 rfl 2 rfl ?_
  refine g_iload_n X dX10_worthBy_25 rfl 3 rfl ?_
  refine g_callVI X (As := [.int p1, .int p2]) (rest := []) (T := TX10) (N := 9) (c_X10_afterGoing (zl Z) (zE Z) p1 p2) gX10_worthBy_X10_afterGoing yo_X10_afterGoing rfl ⟨Nat.le_of_ble_eq_true rfl, Nat.le_of_ble_eq_true rfl⟩ (Nat.le_of_ble_eq_true rfl) rfl rfl rfl dX10_worthBy_26 h (fun r6 I4 J5 h => ?_)
  refine g_iload_n X dX10_worthBy_29 rfl 0 rfl ?_
  refine g_callSI X (As := [.int x3]) (rest := [.int r6]) (c_X2_priceIn (zl Z) (zE Z) x3) gX10_worthBy_X2_priceIn yo_X2_priceIn.2 rfl ⟨Nat.le_of_ble_eq_true rfl, Nat.le_of_ble_eq_true rfl⟩ rfl dX10_worthBy_30 h (fun r9 I7 J8 h => ?_)
  refine g_imul X dX10_worthBy_33 ?_
  exact g_iret X R dX10_worthBy_34 h

/-! X10_spreadFrom.spreadFrom(LSnowCourse$Reach;II)V -/
def rmX10_spreadFrom : Room := { frames := 5, cells := 0, slots := 0, locals := 134 }
theorem yo_X10_spreadFrom : yX10_spreadFrom.cls = RX10 ∧ yX10_spreadFrom.cls ≠ "java/lang/invoke/MethodHandle" ∧ yX10_spreadFrom.cls ≠ "java/lang/invoke/VarHandle" ∧ (parseMethodDescriptor yX10_spreadFrom.desc).map (fun d => d.parameters.length) = some 3 := by decide +kernel
theorem kX10_spreadFrom_26 : Cond.fieldLink RX10 26 "SnowCourse" (TX10 2).2.1 (TX10 2).2.2.1 ∈ wsX10_spreadFrom := by decide +kernel
theorem iX10_spreadFrom_X10 : ∀ w ∈ u_ws RX10 TX10 9, w ∈ wsX10_spreadFrom := by decide +kernel
theorem kX10_spreadFrom_101 : Cond.fieldLink RX10 101 "SnowCourse$Chronicle" (TX0 0).2.1 (TX0 0).2.2.1 ∈ wsX10_spreadFrom := by decide +kernel
theorem iX10_spreadFrom_X0 : ∀ w ∈ u_ws RX0 TX0 6, w ∈ wsX10_spreadFrom := by decide +kernel
theorem kX10_spreadFrom_145 : Cond.fieldLink RX10 145 "SnowCourse$Standing" (TX7 0).2.1 (TX7 0).2.2.1 ∈ wsX10_spreadFrom := by decide +kernel
theorem iX10_spreadFrom_X7 : ∀ w ∈ u_ws RX7 TX7 5, w ∈ wsX10_spreadFrom := by decide +kernel
theorem kX10_spreadFrom_148 : Cond.fieldLink RX10 148 "SnowCourse$Standing" (TX7 1).2.1 (TX7 1).2.2.1 ∈ wsX10_spreadFrom := by decide +kernel
theorem kX10_spreadFrom_151 : Cond.fieldLink RX10 151 "SnowCourse$Standing" (TX7 2).2.1 (TX7 2).2.2.1 ∈ wsX10_spreadFrom := by decide +kernel
theorem kX10_spreadFrom_19 : Cond.fieldLink RX10 19 "SnowCourse" (TX10 1).2.1 (TX10 1).2.2.1 ∈ wsX10_spreadFrom := by decide +kernel
theorem kX10_spreadFrom_139 : Cond.fieldLink RX10 139 "SnowCourse$Country" (TX1 5).2.1 (TX1 5).2.2.1 ∈ wsX10_spreadFrom := by decide +kernel
theorem iX10_spreadFrom_X1 : ∀ w ∈ u_ws RX1 TX1 12, w ∈ wsX10_spreadFrom := by decide +kernel
def vc_X10_spreadFrom (a1 : Nat) (p2 : Int32) (p3 : Int32) (I : MI) (J : MJ) (Q : MI → MJ → Prop) : Prop := vc_X5_clear a1 I J (fun (I1 : MI) (J2 : MJ) => vp_in p2 4 ∧ vp_in p2 4 ∧ vp_in p2 4 ∧ vc_X5_mark a1 (I1 33 (Int32.toNatClampNeg p2)) (I1 34 (Int32.toNatClampNeg p2)) (I1 35 (Int32.toNatClampNeg p2)) I1 J2 (fun (I6 : MI) (J7 : MJ) => vp_in p2 4 ∧ vc_X5_spread a1 (I6 11 (Int32.toNatClampNeg p2)) p3 I6 J7 (fun (I9 : MI) (J10 : MJ) => Q I9 J10)))
set_option maxRecDepth 100000 in
set_option maxHeartbeats 4000000 in
theorem c_X10_spreadFrom (l : Launch) (E : ET) {a1 : Nat} (h1 : isRe a1) (p2 : Int32) (p3 : Int32) : CV l yX10_spreadFrom wsX10_spreadFrom rmX10_spreadFrom E [.ref (ea E 0), .ref (ea E a1), .int p2, .int p3] (vc_X10_spreadFrom a1 p2 p3) := by
  refine CV.of (cc := cX10_spreadFrom) (maxL := 5) (own := RX10) (by decide) rfl rfl (Nat.le_of_ble_eq_true rfl) ?_
  intro Z I J Q hE hl X R h
  subst hE
  subst hl
  show GW Z 5 I J 0 [(0, .ref (ea (zE Z) 0)), (1, .ref (ea (zE Z) a1)), (2, .int p2), (3, .int p3)] []
  refine g_aload_n X dX10_spreadFrom_0 rfl 0 rfl ?_
  refine g_getr X (C := RX10) (T := TX10) (N := 9) (ci := 8) (k := 2) iX10_spreadFrom_X10 rfl kX10_spreadFrom_26 (Nat.le_of_ble_eq_true rfl) rfl (by decide) rfl rfl dX10_spreadFrom_1 ?_
  refine g_getr X (C := RX0) (T := TX0) (N := 6) (ci := 0) (k := 0) iX10_spreadFrom_X0 rfl kX10_spreadFrom_101 (Nat.le_of_ble_eq_true rfl) rfl (by decide) rfl rfl dX10_spreadFrom_4 ?_
  refine g_astore X (lv' := [(4, .ref (ea (zE Z) 32)), (0, .ref (ea (zE Z) 0)), (1, .ref (ea (zE Z) a1)), (2, .int p2), (3, .int p3)]) dX10_spreadFrom_7 (by decide) rfl ?_
  refine g_aload_n X dX10_spreadFrom_9 rfl 2 rfl ?_
  refine g_callVV X (As := []) (rest := []) (T := TX5) (N := 1) (c_X5_clear (zl Z) (zE Z) (h1)) gX10_spreadFrom_X5_clear yo_X5_clear rfl ⟨Nat.le_of_ble_eq_true rfl, Nat.le_of_ble_eq_true rfl⟩ (h1).lt0 (h1).o rfl rfl dX10_spreadFrom_10 h (fun  I1 J2 h => ?_)
  refine g_aload_n X dX10_spreadFrom_13 rfl 2 rfl ?_
  refine g_aload X dX10_spreadFrom_14 0 rfl ?_
  refine g_getr X (C := RX7) (T := TX7) (N := 5) (ci := 5) (k := 0) iX10_spreadFrom_X7 rfl kX10_spreadFrom_145 (Nat.le_of_ble_eq_true rfl) rfl (by decide) rfl rfl dX10_spreadFrom_16 ?_
  refine g_iload_n X dX10_spreadFrom_19 rfl 3 rfl ?_
  obtain ⟨b3, h⟩ := h
  refine g_iald X (Nat.le_of_ble_eq_true rfl) rfl b3 dX10_spreadFrom_20 ?_
  refine g_aload X dX10_spreadFrom_21 0 rfl ?_
  refine g_getr X (C := RX7) (T := TX7) (N := 5) (ci := 5) (k := 1) iX10_spreadFrom_X7 rfl kX10_spreadFrom_148 (Nat.le_of_ble_eq_true rfl) rfl (by decide) rfl rfl dX10_spreadFrom_23 ?_
  refine g_iload_n X dX10_spreadFrom_26 rfl 3 rfl ?_
  obtain ⟨b4, h⟩ := h
  refine g_iald X (Nat.le_of_ble_eq_true rfl) rfl b4 dX10_spreadFrom_27 ?_
  refine g_aload X dX10_spreadFrom_28 0 rfl ?_
  refine g_getr X (C := RX7) (T := TX7) (N := 5) (ci := 5) (k := 2) iX10_spreadFrom_X7 rfl kX10_spreadFrom_151 (Nat.le_of_ble_eq_true rfl) rfl (by decide) rfl rfl dX10_spreadFrom_30 ?_
  refine g_iload_n X dX10_spreadFrom_33 rfl 3 rfl ?_
  obtain ⟨b5, h⟩ := h
  refine g_iald X (Nat.le_of_ble_eq_true rfl) rfl b5 dX10_spreadFrom_34 ?_
  refine g_callVV X (As := [.int (I1 33 (Int32.toNatClampNeg p2)), .int (I1 34 (Int32.toNatClampNeg p2)), .int (I1 35 (Int32.toNatClampNeg p2))]) (rest := []) (T := TX5) (N := 1) (c_X5_mark (zl Z) (zE Z) (h1) (I1 33 (Int32.toNatClampNeg p2)) (I1 34 (Int32.toNatClampNeg p2)) (I1 35 (Int32.toNatClampNeg p2))) gX10_spreadFrom_X5_mark yo_X5_mark rfl ⟨Nat.le_of_ble_eq_true rfl, Nat.le_of_ble_eq_true rfl⟩ (h1).lt0 (h1).o rfl rfl dX10_spreadFrom_35 h (fun  I6 J7 h => ?_)
  refine g_aload_n X dX10_spreadFrom_38 rfl 2 rfl ?_
  refine g_aload_n X dX10_spreadFrom_39 rfl 1 rfl ?_
  refine g_getr X (C := RX10) (T := TX10) (N := 9) (ci := 8) (k := 1) iX10_spreadFrom_X10 rfl kX10_spreadFrom_19 (Nat.le_of_ble_eq_true rfl) rfl (by decide) rfl rfl dX10_spreadFrom_40 ?_
  refine g_aload_n X dX10_spreadFrom_43 rfl 1 rfl ?_
  refine g_getr X (C := RX10) (T := TX10) (N := 9) (ci := 8) (k := 1) iX10_spreadFrom_X10 rfl kX10_spreadFrom_19 (Nat.le_of_ble_eq_true rfl) rfl (by decide) rfl rfl dX10_spreadFrom_44 ?_
  refine g_getr X (C := RX1) (T := TX1) (N := 12) (ci := 1) (k := 5) iX10_spreadFrom_X1 rfl kX10_spreadFrom_139 (Nat.le_of_ble_eq_true rfl) rfl (by decide) rfl rfl dX10_spreadFrom_47 ?_
  refine g_iload_n X dX10_spreadFrom_50 rfl 3 rfl ?_
  obtain ⟨b8, h⟩ := h
  refine g_iald X (Nat.le_of_ble_eq_true rfl) rfl b8 dX10_spreadFrom_51 ?_
  refine g_iload_n X dX10_spreadFrom_52 rfl 4 rfl ?_
  refine g_callVV X (As := [.ref (ea (zE Z) 5), .int (I6 11 (Int32.toNatClampNeg p2)), .int p3]) (rest := []) (T := TX5) (N := 1) (c_X5_spread (zl Z) (zE Z) (h1) (I6 11 (Int32.toNatClampNeg p2)) p3) gX10_spreadFrom_X5_spread yo_X5_spread rfl ⟨Nat.le_of_ble_eq_true rfl, Nat.le_of_ble_eq_true rfl⟩ (h1).lt0 (h1).o rfl rfl dX10_spreadFrom_53 h (fun  I9 J10 h => ?_)
  exact g_vret X R dX10_spreadFrom_56 h

/-! X10_write.write(I)I -/
def rmX10_write : Room := { frames := 1, cells := 0, slots := 0, locals := 22 }
theorem yo_X10_write : yX10_write.cls = RX10 ∧ yX10_write.cls ≠ "java/lang/invoke/MethodHandle" ∧ yX10_write.cls ≠ "java/lang/invoke/VarHandle" ∧ (parseMethodDescriptor yX10_write.desc).map (fun d => d.parameters.length) = some 1 := by decide +kernel
theorem kX10_write_10 : Cond.fieldLink RX10 10 "SnowCourse" (TX10 0).2.1 (TX10 0).2.2.1 ∈ wsX10_write := by decide +kernel
theorem iX10_write_X10 : ∀ w ∈ u_ws RX10 TX10 9, w ∈ wsX10_write := by decide +kernel
theorem kX10_write_72 : Cond.fieldLink RX10 72 "SnowCourse$Script" (TX6 1).2.1 (TX6 1).2.2.1 ∈ wsX10_write := by decide +kernel
theorem iX10_write_X6 : ∀ w ∈ u_ws RX6 TX6 10, w ∈ wsX10_write := by decide +kernel
def vc_X10_write (p1 : Int32) (I : MI) (J : MJ) (Q : Int32 → MI → MJ → Prop) : Prop := vc_X10_within p1 0 255 I J (fun (r3 : Int32) (I1 : MI) (J2 : MJ) => ((¬ r3 = 0 → vc_X6_append p1 I1 J2 (fun (r7 : Int32) (I5 : MI) (J6 : MJ) => ((r7 = 0 → Q (-5) I5 J6) ∧ (¬ r7 = 0 → Q (I5 1 1) I5 J6)))) ∧ (r3 = 0 → Q (-3) I1 J2)))
set_option maxRecDepth 100000 in
set_option maxHeartbeats 4000000 in
theorem c_X10_write (l : Launch) (E : ET)  (p1 : Int32) : CI l yX10_write wsX10_write rmX10_write E [.ref (ea E 0), .int p1] (vc_X10_write p1) := by
  refine CI.of (cc := cX10_write) (maxL := 2) (own := RX10) (by decide) rfl rfl (Nat.le_of_ble_eq_true rfl) ?_
  intro Z I J Q hE hl X R h
  subst hE
  subst hl
  show GW Z 2 I J 0 [(0, .ref (ea (zE Z) 0)), (1, .int p1)] []
  refine g_iload_n X dX10_write_0 rfl 1 rfl ?_
  refine g_iconst X (v := 0) dX10_write_1 (by decide) ?_
  refine g_sipush X (v := 255) dX10_write_2 (by decide) ?_
  refine g_callSI X (As := [.int p1, .int 0, .int 255]) (rest := []) (c_X10_within (zl Z) (zE Z) p1 0 255) gX10_write_X10_within yo_X10_within.2 rfl ⟨Nat.le_of_ble_eq_true rfl, Nat.le_of_ble_eq_true rfl⟩ rfl dX10_write_5 h (fun r3 I1 J2 h => ?_)
  refine g_if_ne X (tgt := 14) dX10_write_8 (by decide) (fun c4 => ?_) (fun c4 => ?_)
  · have h := h.1 c4
    refine g_aload_n X dX10_write_14 rfl 0 rfl ?_
    refine g_getr X (C := RX10) (T := TX10) (N := 9) (ci := 8) (k := 0) iX10_write_X10 rfl kX10_write_10 (Nat.le_of_ble_eq_true rfl) rfl (by decide) rfl rfl dX10_write_15 ?_
    refine g_iload_n X dX10_write_18 rfl 1 rfl ?_
    refine g_callVI X (As := [.int p1]) (rest := []) (T := TX6) (N := 10) (c_X6_append (zl Z) (zE Z) p1) gX10_write_X6_append yo_X6_append rfl ⟨Nat.le_of_ble_eq_true rfl, Nat.le_of_ble_eq_true rfl⟩ (Nat.le_of_ble_eq_true rfl) rfl rfl rfl dX10_write_19 h (fun r7 I5 J6 h => ?_)
    refine g_if_eq X (tgt := 35) dX10_write_22 (by decide) (fun c8 => ?_) (fun c8 => ?_)
    · have h := h.1 c8
      refine g_bipush X (v := (-5)) dX10_write_35 (by decide) ?_
      exact g_iret X R dX10_write_37 h
    · have h := h.2 c8
      refine g_aload_n X dX10_write_25 rfl 0 rfl ?_
      refine g_getr X (C := RX10) (T := TX10) (N := 9) (ci := 8) (k := 0) iX10_write_X10 rfl kX10_write_10 (Nat.le_of_ble_eq_true rfl) rfl (by decide) rfl rfl dX10_write_26 ?_
      refine g_geti X (C := RX6) (T := TX6) (N := 10) (ci := 4) (k := 1) iX10_write_X6 rfl kX10_write_72 (Nat.le_of_ble_eq_true rfl) rfl (by decide) rfl rfl dX10_write_29 ?_
      refine g_goto X (tgt := 37) dX10_write_32 (by decide) ?_
      exact g_iret X R dX10_write_37 h
  · have h := h.2 c4
    refine g_bipush X (v := (-3)) dX10_write_11 (by decide) ?_
    exact g_iret X R dX10_write_13 h

/-! X10_erase.erase()I -/
def rmX10_erase : Room := { frames := 0, cells := 0, slots := 0, locals := 0 }
theorem yo_X10_erase : yX10_erase.cls = RX10 ∧ yX10_erase.cls ≠ "java/lang/invoke/MethodHandle" ∧ yX10_erase.cls ≠ "java/lang/invoke/VarHandle" ∧ (parseMethodDescriptor yX10_erase.desc).map (fun d => d.parameters.length) = some 0 := by decide +kernel
theorem kX10_erase_10 : Cond.fieldLink RX10 10 "SnowCourse" (TX10 0).2.1 (TX10 0).2.2.1 ∈ wsX10_erase := by decide +kernel
theorem iX10_erase_X10 : ∀ w ∈ u_ws RX10 TX10 9, w ∈ wsX10_erase := by decide +kernel
theorem kX10_erase_72 : Cond.fieldLink RX10 72 "SnowCourse$Script" (TX6 1).2.1 (TX6 1).2.2.1 ∈ wsX10_erase := by decide +kernel
theorem iX10_erase_X6 : ∀ w ∈ u_ws RX6 TX6 10, w ∈ wsX10_erase := by decide +kernel
def vc_X10_erase  (I : MI) (J : MJ) (Q : Int32 → MI → MJ → Prop) : Prop := ∀ x1 : Int32, x1 = I 1 1 → ∀ I2 : MI, I2 = wI I 1 1 0 → Q x1 I2 J
set_option maxRecDepth 100000 in
set_option maxHeartbeats 4000000 in
theorem c_X10_erase (l : Launch) (E : ET)   : CI l yX10_erase wsX10_erase rmX10_erase E [.ref (ea E 0)] (vc_X10_erase ) := by
  refine CI.of (cc := cX10_erase) (maxL := 2) (own := RX10) (by decide) rfl rfl (Nat.le_of_ble_eq_true rfl) ?_
  intro Z I J Q hE hl X R h
  subst hE
  subst hl
  show GW Z 2 I J 0 [(0, .ref (ea (zE Z) 0))] []
  refine g_aload_n X dX10_erase_0 rfl 0 rfl ?_
  refine g_getr X (C := RX10) (T := TX10) (N := 9) (ci := 8) (k := 0) iX10_erase_X10 rfl kX10_erase_10 (Nat.le_of_ble_eq_true rfl) rfl (by decide) rfl rfl dX10_erase_1 ?_
  refine g_geti X (C := RX6) (T := TX6) (N := 10) (ci := 4) (k := 1) iX10_erase_X6 rfl kX10_erase_72 (Nat.le_of_ble_eq_true rfl) rfl (by decide) rfl rfl dX10_erase_4 ?_
  refine g_topi (fun x1 ex1 => ?_)
  have h := h x1 ex1
  refine g_istore_n X (lv' := [(1, .int x1), (0, .ref (ea (zE Z) 0))]) dX10_erase_7 rfl (by decide) rfl ?_
  refine g_aload_n X dX10_erase_8 rfl 1 rfl ?_
  refine g_getr X (C := RX10) (T := TX10) (N := 9) (ci := 8) (k := 0) iX10_erase_X10 rfl kX10_erase_10 (Nat.le_of_ble_eq_true rfl) rfl (by decide) rfl rfl dX10_erase_9 ?_
  refine g_iconst X (v := 0) dX10_erase_12 (by decide) ?_
  refine g_puti X (C := RX6) (T := TX6) (N := 10) (ci := 4) (k := 1) (ty0 := tyX6) iX10_erase_X6 tyX6_ok nmX6 rfl kX10_erase_72 (Nat.le_of_ble_eq_true rfl) rfl (by decide) rfl rfl (by decide +kernel) rfl dX10_erase_13 ?_
  refine g_nmI (fun I2 eI2 => ?_)
  have h := h I2 eI2
  refine g_iload_n X dX10_erase_16 rfl 0 rfl ?_
  exact g_iret X R dX10_erase_17 h

/-! X10_fault.fault()I -/
def rmX10_fault : Room := { frames := 9, cells := 0, slots := 0, locals := 205 }
theorem yo_X10_fault : yX10_fault.cls = RX10 ∧ yX10_fault.cls ≠ "java/lang/invoke/MethodHandle" ∧ yX10_fault.cls ≠ "java/lang/invoke/VarHandle" ∧ (parseMethodDescriptor yX10_fault.desc).map (fun d => d.parameters.length) = some 0 := by decide +kernel
theorem kX10_fault_10 : Cond.fieldLink RX10 10 "SnowCourse" (TX10 0).2.1 (TX10 0).2.2.1 ∈ wsX10_fault := by decide +kernel
theorem iX10_fault_X10 : ∀ w ∈ u_ws RX10 TX10 9, w ∈ wsX10_fault := by decide +kernel
theorem kX10_fault_19 : Cond.fieldLink RX10 19 "SnowCourse" (TX10 1).2.1 (TX10 1).2.2.1 ∈ wsX10_fault := by decide +kernel
def vc_X10_fault  (I : MI) (J : MJ) (Q : Int32 → MI → MJ → Prop) : Prop := vc_X6_readOver  I J (fun (r3 : Int32) (I1 : MI) (J2 : MJ) => Q r3 I1 J2)
set_option maxRecDepth 100000 in
set_option maxHeartbeats 4000000 in
theorem c_X10_fault (l : Launch) (E : ET)   : CI l yX10_fault wsX10_fault rmX10_fault E [.ref (ea E 0)] (vc_X10_fault ) := by
  refine CI.of (cc := cX10_fault) (maxL := 1) (own := RX10) (by decide) rfl rfl (Nat.le_of_ble_eq_true rfl) ?_
  intro Z I J Q hE hl X R h
  subst hE
  subst hl
  show GW Z 1 I J 0 [(0, .ref (ea (zE Z) 0))] []
  refine g_aload_n X dX10_fault_0 rfl 0 rfl ?_
  refine g_getr X (C := RX10) (T := TX10) (N := 9) (ci := 8) (k := 0) iX10_fault_X10 rfl kX10_fault_10 (Nat.le_of_ble_eq_true rfl) rfl (by decide) rfl rfl dX10_fault_1 ?_
  refine g_aload_n X dX10_fault_4 rfl 0 rfl ?_
  refine g_getr X (C := RX10) (T := TX10) (N := 9) (ci := 8) (k := 1) iX10_fault_X10 rfl kX10_fault_19 (Nat.le_of_ble_eq_true rfl) rfl (by decide) rfl rfl dX10_fault_5 ?_
  refine g_callVI X (As := [.ref (ea (zE Z) 5)]) (rest := []) (T := TX6) (N := 10) (c_X6_readOver (zl Z) (zE Z) ) gX10_fault_X6_readOver yo_X6_readOver rfl ⟨Nat.le_of_ble_eq_true rfl, Nat.le_of_ble_eq_true rfl⟩ (Nat.le_of_ble_eq_true rfl) rfl rfl rfl dX10_fault_8 h (fun r3 I1 J2 h => ?_)
  exact g_iret X R dX10_fault_11 h

/-! X10_land.land()I -/
def rmX10_land : Room := { frames := 9, cells := 0, slots := 0, locals := 205 }
theorem yo_X10_land : yX10_land.cls = RX10 ∧ yX10_land.cls ≠ "java/lang/invoke/MethodHandle" ∧ yX10_land.cls ≠ "java/lang/invoke/VarHandle" ∧ (parseMethodDescriptor yX10_land.desc).map (fun d => d.parameters.length) = some 0 := by decide +kernel
theorem kX10_land_10 : Cond.fieldLink RX10 10 "SnowCourse" (TX10 0).2.1 (TX10 0).2.2.1 ∈ wsX10_land := by decide +kernel
theorem iX10_land_X10 : ∀ w ∈ u_ws RX10 TX10 9, w ∈ wsX10_land := by decide +kernel
theorem kX10_land_19 : Cond.fieldLink RX10 19 "SnowCourse" (TX10 1).2.1 (TX10 1).2.2.1 ∈ wsX10_land := by decide +kernel
theorem kX10_land_80 : Cond.fieldLink RX10 80 "SnowCourse$Script" (TX6 4).2.1 (TX6 4).2.2.1 ∈ wsX10_land := by decide +kernel
theorem iX10_land_X6 : ∀ w ∈ u_ws RX6 TX6 10, w ∈ wsX10_land := by decide +kernel
theorem kX10_land_72 : Cond.fieldLink RX10 72 "SnowCourse$Script" (TX6 1).2.1 (TX6 1).2.2.1 ∈ wsX10_land := by decide +kernel
theorem kX10_land_26 : Cond.fieldLink RX10 26 "SnowCourse" (TX10 2).2.1 (TX10 2).2.2.1 ∈ wsX10_land := by decide +kernel
theorem kX10_land_33 : Cond.fieldLink RX10 33 "SnowCourse" (TX10 3).2.1 (TX10 3).2.2.1 ∈ wsX10_land := by decide +kernel
theorem kX10_land_90 : Cond.fieldLink RX10 90 "SnowCourse$Takers" (TX8 1).2.1 (TX8 1).2.2.1 ∈ wsX10_land := by decide +kernel
theorem iX10_land_X8 : ∀ w ∈ u_ws RX8 TX8 2, w ∈ wsX10_land := by decide +kernel
theorem kX10_land_40 : Cond.fieldLink RX10 40 "SnowCourse" (TX10 4).2.1 (TX10 4).2.2.1 ∈ wsX10_land := by decide +kernel
theorem kX10_land_93 : Cond.fieldLink RX10 93 "SnowCourse$PassRow" (TX4 1).2.1 (TX4 1).2.2.1 ∈ wsX10_land := by decide +kernel
theorem iX10_land_X4 : ∀ w ∈ u_ws RX4 TX4 4, w ∈ wsX10_land := by decide +kernel
def vc_X10_land  (I : MI) (J : MJ) (Q : Int32 → MI → MJ → Prop) : Prop := vc_X6_readOver  I J (fun (r3 : Int32) (I1 : MI) (J2 : MJ) => ((r3 = (-1) → ∀ x5 : Int32, x5 = I1 1 4 → vc_X6_tellTo  I1 J2 (fun (I6 : MI) (J7 : MJ) => ∀ I8 : MI, I8 = wI I6 1 1 0 → vc_X0_begin  I8 J7 (fun (I9 : MI) (J10 : MJ) => ∀ I11 : MI, I11 = wI I9 18 1 0 → ∀ I12 : MI, I12 = wI I11 20 1 0 → Q x5 I12 J10))) ∧ (¬ r3 = (-1) → Q (-4) I1 J2)))
set_option maxRecDepth 100000 in
set_option maxHeartbeats 4000000 in
theorem c_X10_land (l : Launch) (E : ET)   : CI l yX10_land wsX10_land rmX10_land E [.ref (ea E 0)] (vc_X10_land ) := by
  refine CI.of (cc := cX10_land) (maxL := 2) (own := RX10) (by decide) rfl rfl (Nat.le_of_ble_eq_true rfl) ?_
  intro Z I J Q hE hl X R h
  subst hE
  subst hl
  show GW Z 2 I J 0 [(0, .ref (ea (zE Z) 0))] []
  refine g_aload_n X dX10_land_0 rfl 0 rfl ?_
  refine g_getr X (C := RX10) (T := TX10) (N := 9) (ci := 8) (k := 0) iX10_land_X10 rfl kX10_land_10 (Nat.le_of_ble_eq_true rfl) rfl (by decide) rfl rfl dX10_land_1 ?_
  refine g_aload_n X dX10_land_4 rfl 0 rfl ?_
  refine g_getr X (C := RX10) (T := TX10) (N := 9) (ci := 8) (k := 1) iX10_land_X10 rfl kX10_land_19 (Nat.le_of_ble_eq_true rfl) rfl (by decide) rfl rfl dX10_land_5 ?_
  refine g_callVI X (As := [.ref (ea (zE Z) 5)]) (rest := []) (T := TX6) (N := 10) (c_X6_readOver (zl Z) (zE Z) ) gX10_land_X6_readOver yo_X6_readOver rfl ⟨Nat.le_of_ble_eq_true rfl, Nat.le_of_ble_eq_true rfl⟩ (Nat.le_of_ble_eq_true rfl) rfl rfl rfl dX10_land_8 h (fun r3 I1 J2 h => ?_)
  refine g_iconst X (v := (-1)) dX10_land_11 (by decide) ?_
  refine g_icmp_eq X (tgt := 18) dX10_land_12 (by decide) (fun c4 => ?_) (fun c4 => ?_)
  · have h := h.1 c4
    refine g_aload_n X dX10_land_18 rfl 0 rfl ?_
    refine g_getr X (C := RX10) (T := TX10) (N := 9) (ci := 8) (k := 0) iX10_land_X10 rfl kX10_land_10 (Nat.le_of_ble_eq_true rfl) rfl (by decide) rfl rfl dX10_land_19 ?_
    refine g_geti X (C := RX6) (T := TX6) (N := 10) (ci := 4) (k := 4) iX10_land_X6 rfl kX10_land_80 (Nat.le_of_ble_eq_true rfl) rfl (by decide) rfl rfl dX10_land_22 ?_
    refine g_topi (fun x5 ex5 => ?_)
    have h := h x5 ex5
    refine g_istore_n X (lv' := [(1, .int x5), (0, .ref (ea (zE Z) 0))]) dX10_land_25 rfl (by decide) rfl ?_
    refine g_aload_n X dX10_land_26 rfl 1 rfl ?_
    refine g_getr X (C := RX10) (T := TX10) (N := 9) (ci := 8) (k := 0) iX10_land_X10 rfl kX10_land_10 (Nat.le_of_ble_eq_true rfl) rfl (by decide) rfl rfl dX10_land_27 ?_
    refine g_aload_n X dX10_land_30 rfl 1 rfl ?_
    refine g_getr X (C := RX10) (T := TX10) (N := 9) (ci := 8) (k := 1) iX10_land_X10 rfl kX10_land_19 (Nat.le_of_ble_eq_true rfl) rfl (by decide) rfl rfl dX10_land_31 ?_
    refine g_callVV X (As := [.ref (ea (zE Z) 5)]) (rest := []) (T := TX6) (N := 10) (c_X6_tellTo (zl Z) (zE Z) ) gX10_land_X6_tellTo yo_X6_tellTo rfl ⟨Nat.le_of_ble_eq_true rfl, Nat.le_of_ble_eq_true rfl⟩ (Nat.le_of_ble_eq_true rfl) rfl rfl rfl dX10_land_34 h (fun  I6 J7 h => ?_)
    refine g_aload_n X dX10_land_37 rfl 1 rfl ?_
    refine g_getr X (C := RX10) (T := TX10) (N := 9) (ci := 8) (k := 0) iX10_land_X10 rfl kX10_land_10 (Nat.le_of_ble_eq_true rfl) rfl (by decide) rfl rfl dX10_land_38 ?_
    refine g_iconst X (v := 0) dX10_land_41 (by decide) ?_
    refine g_puti X (C := RX6) (T := TX6) (N := 10) (ci := 4) (k := 1) (ty0 := tyX6) iX10_land_X6 tyX6_ok nmX6 rfl kX10_land_72 (Nat.le_of_ble_eq_true rfl) rfl (by decide) rfl rfl (by decide +kernel) rfl dX10_land_42 ?_
    refine g_nmI (fun I8 eI8 => ?_)
    have h := h I8 eI8
    refine g_aload_n X dX10_land_45 rfl 1 rfl ?_
    refine g_getr X (C := RX10) (T := TX10) (N := 9) (ci := 8) (k := 2) iX10_land_X10 rfl kX10_land_26 (Nat.le_of_ble_eq_true rfl) rfl (by decide) rfl rfl dX10_land_46 ?_
    refine g_aload_n X dX10_land_49 rfl 1 rfl ?_
    refine g_getr X (C := RX10) (T := TX10) (N := 9) (ci := 8) (k := 1) iX10_land_X10 rfl kX10_land_19 (Nat.le_of_ble_eq_true rfl) rfl (by decide) rfl rfl dX10_land_50 ?_
    refine g_callVV X (As := [.ref (ea (zE Z) 5)]) (rest := []) (T := TX0) (N := 6) (c_X0_begin (zl Z) (zE Z) ) gX10_land_X0_begin yo_X0_begin rfl ⟨Nat.le_of_ble_eq_true rfl, Nat.le_of_ble_eq_true rfl⟩ (Nat.le_of_ble_eq_true rfl) rfl rfl rfl dX10_land_53 h (fun  I9 J10 h => ?_)
    refine g_aload_n X dX10_land_56 rfl 1 rfl ?_
    refine g_getr X (C := RX10) (T := TX10) (N := 9) (ci := 8) (k := 3) iX10_land_X10 rfl kX10_land_33 (Nat.le_of_ble_eq_true rfl) rfl (by decide) rfl rfl dX10_land_57 ?_
    refine g_iconst X (v := 0) dX10_land_60 (by decide) ?_
    refine g_puti X (C := RX8) (T := TX8) (N := 2) (ci := 6) (k := 1) (ty0 := tyX8) iX10_land_X8 tyX8_ok nmX8 rfl kX10_land_90 (Nat.le_of_ble_eq_true rfl) rfl (by decide) rfl rfl (by decide +kernel) rfl dX10_land_61 ?_
    refine g_nmI (fun I11 eI11 => ?_)
    have h := h I11 eI11
    refine g_aload_n X dX10_land_64 rfl 1 rfl ?_
    refine g_getr X (C := RX10) (T := TX10) (N := 9) (ci := 8) (k := 4) iX10_land_X10 rfl kX10_land_40 (Nat.le_of_ble_eq_true rfl) rfl (by decide) rfl rfl dX10_land_65 ?_
    refine g_iconst X (v := 0) dX10_land_68 (by decide) ?_
    refine g_puti X (C := RX4) (T := TX4) (N := 4) (ci := 2) (k := 1) (ty0 := tyX4) iX10_land_X4 tyX4_ok nmX4 rfl kX10_land_93 (Nat.le_of_ble_eq_true rfl) rfl (by decide) rfl rfl (by decide +kernel) rfl dX10_land_69 ?_
    refine g_nmI (fun I12 eI12 => ?_)
    have h := h I12 eI12
    refine g_iload_n X dX10_land_72 rfl 0 rfl ?_
    exact g_iret X R dX10_land_73 h
  · have h := h.2 c4
    refine g_bipush X (v := (-4)) dX10_land_15 (by decide) ?_
    exact g_iret X R dX10_land_17 h

/-! X10_place.place(II)I -/
def rmX10_place : Room := { frames := 2, cells := 0, slots := 0, locals := 45 }
theorem yo_X10_place : yX10_place.cls = RX10 ∧ yX10_place.cls ≠ "java/lang/invoke/MethodHandle" ∧ yX10_place.cls ≠ "java/lang/invoke/VarHandle" ∧ (parseMethodDescriptor yX10_place.desc).map (fun d => d.parameters.length) = some 2 := by decide +kernel
theorem kX10_place_19 : Cond.fieldLink RX10 19 "SnowCourse" (TX10 1).2.1 (TX10 1).2.2.1 ∈ wsX10_place := by decide +kernel
theorem iX10_place_X10 : ∀ w ∈ u_ws RX10 TX10 9, w ∈ wsX10_place := by decide +kernel
theorem kX10_place_97 : Cond.fieldLink RX10 97 "SnowCourse$Country" (TX1 0).2.1 (TX1 0).2.2.1 ∈ wsX10_place := by decide +kernel
theorem iX10_place_X1 : ∀ w ∈ u_ws RX1 TX1 12, w ∈ wsX10_place := by decide +kernel
theorem kX10_place_26 : Cond.fieldLink RX10 26 "SnowCourse" (TX10 2).2.1 (TX10 2).2.2.1 ∈ wsX10_place := by decide +kernel
theorem kX10_place_101 : Cond.fieldLink RX10 101 "SnowCourse$Chronicle" (TX0 0).2.1 (TX0 0).2.2.1 ∈ wsX10_place := by decide +kernel
theorem iX10_place_X0 : ∀ w ∈ u_ws RX0 TX0 6, w ∈ wsX10_place := by decide +kernel
theorem kX10_place_105 : Cond.fieldLink RX10 105 "SnowCourse$Standing" (TX7 3).2.1 (TX7 3).2.2.1 ∈ wsX10_place := by decide +kernel
theorem iX10_place_X7 : ∀ w ∈ u_ws RX7 TX7 5, w ∈ wsX10_place := by decide +kernel
theorem kX10_place_114 : Cond.fieldLink RX10 114 "SnowCourse$Country" (TX1 10).2.1 (TX1 10).2.2.1 ∈ wsX10_place := by decide +kernel
def vc_X10_place (p1 : Int32) (p2 : Int32) (I : MI) (J : MJ) (Q : Int32 → MI → MJ → Prop) : Prop := vc_X1_hasPlace p1 I J (fun (r3 : Int32) (I1 : MI) (J2 : MJ) => ((¬ r3 = 0 → ((p2 = 0 → vp_in p1 7 ∧ Q (I1 6 (Int32.toNatClampNeg p1)) I1 J2) ∧ (¬ p2 = 0 → ((p2 = 1 → vp_in p1 7 ∧ Q (I1 36 (Int32.toNatClampNeg p1)) I1 J2) ∧ (¬ p2 = 1 → ((p2 = 2 → vc_X1_roadsAt p1 I1 J2 (fun (r12 : Int32) (I10 : MI) (J11 : MJ) => Q r12 I10 J11)) ∧ (¬ p2 = 2 → ((p2 = 3 → vc_X7_cartsIn 32 p1 (I1 5 10) I1 J2 (fun (r16 : Int32) (I14 : MI) (J15 : MJ) => Q r16 I14 J15)) ∧ (¬ p2 = 3 → Q (-3) I1 J2))))))))) ∧ (r3 = 0 → Q (-2) I1 J2)))
set_option maxRecDepth 100000 in
set_option maxHeartbeats 4000000 in
theorem c_X10_place (l : Launch) (E : ET)  (p1 : Int32) (p2 : Int32) : CI l yX10_place wsX10_place rmX10_place E [.ref (ea E 0), .int p1, .int p2] (vc_X10_place p1 p2) := by
  refine CI.of (cc := cX10_place) (maxL := 3) (own := RX10) (by decide) rfl rfl (Nat.le_of_ble_eq_true rfl) ?_
  intro Z I J Q hE hl X R h
  subst hE
  subst hl
  show GW Z 3 I J 0 [(0, .ref (ea (zE Z) 0)), (1, .int p1), (2, .int p2)] []
  refine g_aload_n X dX10_place_0 rfl 0 rfl ?_
  refine g_getr X (C := RX10) (T := TX10) (N := 9) (ci := 8) (k := 1) iX10_place_X10 rfl kX10_place_19 (Nat.le_of_ble_eq_true rfl) rfl (by decide) rfl rfl dX10_place_1 ?_
  refine g_iload_n X dX10_place_4 rfl 1 rfl ?_
  refine g_callVI X (As := [.int p1]) (rest := []) (T := TX1) (N := 12) (c_X1_hasPlace (zl Z) (zE Z) p1) gX10_place_X1_hasPlace yo_X1_hasPlace rfl ⟨Nat.le_of_ble_eq_true rfl, Nat.le_of_ble_eq_true rfl⟩ (Nat.le_of_ble_eq_true rfl) rfl rfl rfl dX10_place_5 h (fun r3 I1 J2 h => ?_)
  refine g_if_ne X (tgt := 14) dX10_place_8 (by decide) (fun c4 => ?_) (fun c4 => ?_)
  · have h := h.1 c4
    refine g_iload_n X dX10_place_14 rfl 2 rfl ?_
    by_cases c5 : p2 = 0
    · have h := h.1 c5
      refine g_tin X (tgt := 44) dX10_place_15 c5 (by decide) (by decide) rfl (by decide) ?_
      refine g_aload_n X dX10_place_44 rfl 0 rfl ?_
      refine g_getr X (C := RX10) (T := TX10) (N := 9) (ci := 8) (k := 1) iX10_place_X10 rfl kX10_place_19 (Nat.le_of_ble_eq_true rfl) rfl (by decide) rfl rfl dX10_place_45 ?_
      refine g_getr X (C := RX1) (T := TX1) (N := 12) (ci := 1) (k := 0) iX10_place_X1 rfl kX10_place_97 (Nat.le_of_ble_eq_true rfl) rfl (by decide) rfl rfl dX10_place_48 ?_
      refine g_iload_n X dX10_place_51 rfl 1 rfl ?_
      obtain ⟨b6, h⟩ := h
      refine g_iald X (Nat.le_of_ble_eq_true rfl) rfl b6 dX10_place_52 ?_
      exact g_iret X R dX10_place_53 h
    have h := h.2 c5
    by_cases c7 : p2 = 1
    · have h := h.1 c7
      refine g_tin X (tgt := 54) dX10_place_15 c7 (by decide) (by decide) rfl (by decide) ?_
      refine g_aload_n X dX10_place_54 rfl 0 rfl ?_
      refine g_getr X (C := RX10) (T := TX10) (N := 9) (ci := 8) (k := 2) iX10_place_X10 rfl kX10_place_26 (Nat.le_of_ble_eq_true rfl) rfl (by decide) rfl rfl dX10_place_55 ?_
      refine g_getr X (C := RX0) (T := TX0) (N := 6) (ci := 0) (k := 0) iX10_place_X0 rfl kX10_place_101 (Nat.le_of_ble_eq_true rfl) rfl (by decide) rfl rfl dX10_place_58 ?_
      refine g_getr X (C := RX7) (T := TX7) (N := 5) (ci := 5) (k := 3) iX10_place_X7 rfl kX10_place_105 (Nat.le_of_ble_eq_true rfl) rfl (by decide) rfl rfl dX10_place_61 ?_
      refine g_iload_n X dX10_place_64 rfl 1 rfl ?_
      obtain ⟨b8, h⟩ := h
      refine g_iald X (Nat.le_of_ble_eq_true rfl) rfl b8 dX10_place_65 ?_
      exact g_iret X R dX10_place_66 h
    have h := h.2 c7
    by_cases c9 : p2 = 2
    · have h := h.1 c9
      refine g_tin X (tgt := 67) dX10_place_15 c9 (by decide) (by decide) rfl (by decide) ?_
      refine g_aload_n X dX10_place_67 rfl 0 rfl ?_
      refine g_getr X (C := RX10) (T := TX10) (N := 9) (ci := 8) (k := 1) iX10_place_X10 rfl kX10_place_19 (Nat.le_of_ble_eq_true rfl) rfl (by decide) rfl rfl dX10_place_68 ?_
      refine g_iload_n X dX10_place_71 rfl 1 rfl ?_
      refine g_callVI X (As := [.int p1]) (rest := []) (T := TX1) (N := 12) (c_X1_roadsAt (zl Z) (zE Z) p1) gX10_place_X1_roadsAt yo_X1_roadsAt rfl ⟨Nat.le_of_ble_eq_true rfl, Nat.le_of_ble_eq_true rfl⟩ (Nat.le_of_ble_eq_true rfl) rfl rfl rfl dX10_place_72 h (fun r12 I10 J11 h => ?_)
      exact g_iret X R dX10_place_75 h
    have h := h.2 c9
    by_cases c13 : p2 = 3
    · have h := h.1 c13
      refine g_tin X (tgt := 76) dX10_place_15 c13 (by decide) (by decide) rfl (by decide) ?_
      refine g_aload_n X dX10_place_76 rfl 0 rfl ?_
      refine g_getr X (C := RX10) (T := TX10) (N := 9) (ci := 8) (k := 2) iX10_place_X10 rfl kX10_place_26 (Nat.le_of_ble_eq_true rfl) rfl (by decide) rfl rfl dX10_place_77 ?_
      refine g_getr X (C := RX0) (T := TX0) (N := 6) (ci := 0) (k := 0) iX10_place_X0 rfl kX10_place_101 (Nat.le_of_ble_eq_true rfl) rfl (by decide) rfl rfl dX10_place_80 ?_
      refine g_iload_n X dX10_place_83 rfl 1 rfl ?_
      refine g_aload_n X dX10_place_84 rfl 0 rfl ?_
      refine g_getr X (C := RX10) (T := TX10) (N := 9) (ci := 8) (k := 1) iX10_place_X10 rfl kX10_place_19 (Nat.le_of_ble_eq_true rfl) rfl (by decide) rfl rfl dX10_place_85 ?_
      refine g_geti X (C := RX1) (T := TX1) (N := 12) (ci := 1) (k := 10) iX10_place_X1 rfl kX10_place_114 (Nat.le_of_ble_eq_true rfl) rfl (by decide) rfl rfl dX10_place_88 ?_
      refine g_callVI X (As := [.int p1, .int (I1 5 10)]) (rest := []) (T := TX7) (N := 5) (c_X7_cartsIn (zl Z) (zE Z) isSt_now p1 (I1 5 10)) gX10_place_X7_cartsIn yo_X7_cartsIn rfl ⟨Nat.le_of_ble_eq_true rfl, Nat.le_of_ble_eq_true rfl⟩ (Nat.le_of_ble_eq_true rfl) rfl rfl rfl dX10_place_91 h (fun r16 I14 J15 h => ?_)
      exact g_iret X R dX10_place_94 h
    have h := h.2 c13
    refine g_tout X (tgt := 95) dX10_place_15 (sw_out (hi := 3) (fun k hk => by match k, hk with | 0, _ => exact c5 | 1, _ => exact c7 | 2, _ => exact c9 | 3, _ => exact c13 | k + 4, hk => exact absurd hk (by omega)) (by decide)) (by decide) ?_
    refine g_bipush X (v := (-3)) dX10_place_95 (by decide) ?_
    exact g_iret X R dX10_place_97 h
  · have h := h.2 c4
    refine g_bipush X (v := (-2)) dX10_place_11 (by decide) ?_
    exact g_iret X R dX10_place_13 h

/-! X10_road.road(II)I -/
def rmX10_road : Room := { frames := 1, cells := 0, slots := 0, locals := 21 }
theorem yo_X10_road : yX10_road.cls = RX10 ∧ yX10_road.cls ≠ "java/lang/invoke/MethodHandle" ∧ yX10_road.cls ≠ "java/lang/invoke/VarHandle" ∧ (parseMethodDescriptor yX10_road.desc).map (fun d => d.parameters.length) = some 2 := by decide +kernel
theorem kX10_road_19 : Cond.fieldLink RX10 19 "SnowCourse" (TX10 1).2.1 (TX10 1).2.2.1 ∈ wsX10_road := by decide +kernel
theorem iX10_road_X10 : ∀ w ∈ u_ws RX10 TX10 9, w ∈ wsX10_road := by decide +kernel
theorem kX10_road_124 : Cond.fieldLink RX10 124 "SnowCourse$Country" (TX1 1).2.1 (TX1 1).2.2.1 ∈ wsX10_road := by decide +kernel
theorem iX10_road_X1 : ∀ w ∈ u_ws RX1 TX1 12, w ∈ wsX10_road := by decide +kernel
theorem kX10_road_127 : Cond.fieldLink RX10 127 "SnowCourse$Country" (TX1 2).2.1 (TX1 2).2.2.1 ∈ wsX10_road := by decide +kernel
theorem kX10_road_130 : Cond.fieldLink RX10 130 "SnowCourse$Country" (TX1 3).2.1 (TX1 3).2.2.1 ∈ wsX10_road := by decide +kernel
theorem kX10_road_133 : Cond.fieldLink RX10 133 "SnowCourse$Country" (TX1 4).2.1 (TX1 4).2.2.1 ∈ wsX10_road := by decide +kernel
def vc_X10_road (p1 : Int32) (p2 : Int32) (I : MI) (J : MJ) (Q : Int32 → MI → MJ → Prop) : Prop := vc_X1_hasRoad p1 I J (fun (r3 : Int32) (I1 : MI) (J2 : MJ) => ((¬ r3 = 0 → ((p2 = 0 → vp_in p1 9 ∧ Q (I1 7 (Int32.toNatClampNeg p1)) I1 J2) ∧ (¬ p2 = 0 → ((p2 = 1 → vp_in p1 9 ∧ Q (I1 8 (Int32.toNatClampNeg p1)) I1 J2) ∧ (¬ p2 = 1 → ((p2 = 2 → vp_in p1 9 ∧ Q (I1 9 (Int32.toNatClampNeg p1)) I1 J2) ∧ (¬ p2 = 2 → ((p2 = 3 → vp_in p1 9 ∧ Q (I1 10 (Int32.toNatClampNeg p1)) I1 J2) ∧ (¬ p2 = 3 → Q (-3) I1 J2))))))))) ∧ (r3 = 0 → Q (-2) I1 J2)))
set_option maxRecDepth 100000 in
set_option maxHeartbeats 4000000 in
theorem c_X10_road (l : Launch) (E : ET)  (p1 : Int32) (p2 : Int32) : CI l yX10_road wsX10_road rmX10_road E [.ref (ea E 0), .int p1, .int p2] (vc_X10_road p1 p2) := by
  refine CI.of (cc := cX10_road) (maxL := 3) (own := RX10) (by decide) rfl rfl (Nat.le_of_ble_eq_true rfl) ?_
  intro Z I J Q hE hl X R h
  subst hE
  subst hl
  show GW Z 3 I J 0 [(0, .ref (ea (zE Z) 0)), (1, .int p1), (2, .int p2)] []
  refine g_aload_n X dX10_road_0 rfl 0 rfl ?_
  refine g_getr X (C := RX10) (T := TX10) (N := 9) (ci := 8) (k := 1) iX10_road_X10 rfl kX10_road_19 (Nat.le_of_ble_eq_true rfl) rfl (by decide) rfl rfl dX10_road_1 ?_
  refine g_iload_n X dX10_road_4 rfl 1 rfl ?_
  refine g_callVI X (As := [.int p1]) (rest := []) (T := TX1) (N := 12) (c_X1_hasRoad (zl Z) (zE Z) p1) gX10_road_X1_hasRoad yo_X1_hasRoad rfl ⟨Nat.le_of_ble_eq_true rfl, Nat.le_of_ble_eq_true rfl⟩ (Nat.le_of_ble_eq_true rfl) rfl rfl rfl dX10_road_5 h (fun r3 I1 J2 h => ?_)
  refine g_if_ne X (tgt := 14) dX10_road_8 (by decide) (fun c4 => ?_) (fun c4 => ?_)
  · have h := h.1 c4
    refine g_iload_n X dX10_road_14 rfl 2 rfl ?_
    by_cases c5 : p2 = 0
    · have h := h.1 c5
      refine g_tin X (tgt := 44) dX10_road_15 c5 (by decide) (by decide) rfl (by decide) ?_
      refine g_aload_n X dX10_road_44 rfl 0 rfl ?_
      refine g_getr X (C := RX10) (T := TX10) (N := 9) (ci := 8) (k := 1) iX10_road_X10 rfl kX10_road_19 (Nat.le_of_ble_eq_true rfl) rfl (by decide) rfl rfl dX10_road_45 ?_
      refine g_getr X (C := RX1) (T := TX1) (N := 12) (ci := 1) (k := 1) iX10_road_X1 rfl kX10_road_124 (Nat.le_of_ble_eq_true rfl) rfl (by decide) rfl rfl dX10_road_48 ?_
      refine g_iload_n X dX10_road_51 rfl 1 rfl ?_
      obtain ⟨b6, h⟩ := h
      refine g_iald X (Nat.le_of_ble_eq_true rfl) rfl b6 dX10_road_52 ?_
      exact g_iret X R dX10_road_53 h
    have h := h.2 c5
    by_cases c7 : p2 = 1
    · have h := h.1 c7
      refine g_tin X (tgt := 54) dX10_road_15 c7 (by decide) (by decide) rfl (by decide) ?_
      refine g_aload_n X dX10_road_54 rfl 0 rfl ?_
      refine g_getr X (C := RX10) (T := TX10) (N := 9) (ci := 8) (k := 1) iX10_road_X10 rfl kX10_road_19 (Nat.le_of_ble_eq_true rfl) rfl (by decide) rfl rfl dX10_road_55 ?_
      refine g_getr X (C := RX1) (T := TX1) (N := 12) (ci := 1) (k := 2) iX10_road_X1 rfl kX10_road_127 (Nat.le_of_ble_eq_true rfl) rfl (by decide) rfl rfl dX10_road_58 ?_
      refine g_iload_n X dX10_road_61 rfl 1 rfl ?_
      obtain ⟨b8, h⟩ := h
      refine g_iald X (Nat.le_of_ble_eq_true rfl) rfl b8 dX10_road_62 ?_
      exact g_iret X R dX10_road_63 h
    have h := h.2 c7
    by_cases c9 : p2 = 2
    · have h := h.1 c9
      refine g_tin X (tgt := 64) dX10_road_15 c9 (by decide) (by decide) rfl (by decide) ?_
      refine g_aload_n X dX10_road_64 rfl 0 rfl ?_
      refine g_getr X (C := RX10) (T := TX10) (N := 9) (ci := 8) (k := 1) iX10_road_X10 rfl kX10_road_19 (Nat.le_of_ble_eq_true rfl) rfl (by decide) rfl rfl dX10_road_65 ?_
      refine g_getr X (C := RX1) (T := TX1) (N := 12) (ci := 1) (k := 3) iX10_road_X1 rfl kX10_road_130 (Nat.le_of_ble_eq_true rfl) rfl (by decide) rfl rfl dX10_road_68 ?_
      refine g_iload_n X dX10_road_71 rfl 1 rfl ?_
      obtain ⟨b10, h⟩ := h
      refine g_iald X (Nat.le_of_ble_eq_true rfl) rfl b10 dX10_road_72 ?_
      exact g_iret X R dX10_road_73 h
    have h := h.2 c9
    by_cases c11 : p2 = 3
    · have h := h.1 c11
      refine g_tin X (tgt := 74) dX10_road_15 c11 (by decide) (by decide) rfl (by decide) ?_
      refine g_aload_n X dX10_road_74 rfl 0 rfl ?_
      refine g_getr X (C := RX10) (T := TX10) (N := 9) (ci := 8) (k := 1) iX10_road_X10 rfl kX10_road_19 (Nat.le_of_ble_eq_true rfl) rfl (by decide) rfl rfl dX10_road_75 ?_
      refine g_getr X (C := RX1) (T := TX1) (N := 12) (ci := 1) (k := 4) iX10_road_X1 rfl kX10_road_133 (Nat.le_of_ble_eq_true rfl) rfl (by decide) rfl rfl dX10_road_78 ?_
      refine g_iload_n X dX10_road_81 rfl 1 rfl ?_
      obtain ⟨b12, h⟩ := h
      refine g_iald X (Nat.le_of_ble_eq_true rfl) rfl b12 dX10_road_82 ?_
      exact g_iret X R dX10_road_83 h
    have h := h.2 c11
    refine g_tout X (tgt := 84) dX10_road_15 (sw_out (hi := 3) (fun k hk => by match k, hk with | 0, _ => exact c5 | 1, _ => exact c7 | 2, _ => exact c9 | 3, _ => exact c11 | k + 4, hk => exact absurd hk (by omega)) (by decide)) (by decide) ?_
    refine g_bipush X (v := (-3)) dX10_road_84 (by decide) ?_
    exact g_iret X R dX10_road_86 h
  · have h := h.2 c4
    refine g_bipush X (v := (-2)) dX10_road_11 (by decide) ?_
    exact g_iret X R dX10_road_13 h

/-! X10_cart.cart(II)I -/
def rmX10_cart : Room := { frames := 1, cells := 0, slots := 0, locals := 21 }
theorem yo_X10_cart : yX10_cart.cls = RX10 ∧ yX10_cart.cls ≠ "java/lang/invoke/MethodHandle" ∧ yX10_cart.cls ≠ "java/lang/invoke/VarHandle" ∧ (parseMethodDescriptor yX10_cart.desc).map (fun d => d.parameters.length) = some 2 := by decide +kernel
theorem kX10_cart_19 : Cond.fieldLink RX10 19 "SnowCourse" (TX10 1).2.1 (TX10 1).2.2.1 ∈ wsX10_cart := by decide +kernel
theorem iX10_cart_X10 : ∀ w ∈ u_ws RX10 TX10 9, w ∈ wsX10_cart := by decide +kernel
theorem kX10_cart_139 : Cond.fieldLink RX10 139 "SnowCourse$Country" (TX1 5).2.1 (TX1 5).2.2.1 ∈ wsX10_cart := by decide +kernel
theorem iX10_cart_X1 : ∀ w ∈ u_ws RX1 TX1 12, w ∈ wsX10_cart := by decide +kernel
theorem kX10_cart_142 : Cond.fieldLink RX10 142 "SnowCourse$Country" (TX1 7).2.1 (TX1 7).2.2.1 ∈ wsX10_cart := by decide +kernel
theorem kX10_cart_26 : Cond.fieldLink RX10 26 "SnowCourse" (TX10 2).2.1 (TX10 2).2.2.1 ∈ wsX10_cart := by decide +kernel
theorem kX10_cart_101 : Cond.fieldLink RX10 101 "SnowCourse$Chronicle" (TX0 0).2.1 (TX0 0).2.2.1 ∈ wsX10_cart := by decide +kernel
theorem iX10_cart_X0 : ∀ w ∈ u_ws RX0 TX0 6, w ∈ wsX10_cart := by decide +kernel
theorem kX10_cart_145 : Cond.fieldLink RX10 145 "SnowCourse$Standing" (TX7 0).2.1 (TX7 0).2.2.1 ∈ wsX10_cart := by decide +kernel
theorem iX10_cart_X7 : ∀ w ∈ u_ws RX7 TX7 5, w ∈ wsX10_cart := by decide +kernel
theorem kX10_cart_148 : Cond.fieldLink RX10 148 "SnowCourse$Standing" (TX7 1).2.1 (TX7 1).2.2.1 ∈ wsX10_cart := by decide +kernel
theorem kX10_cart_151 : Cond.fieldLink RX10 151 "SnowCourse$Standing" (TX7 2).2.1 (TX7 2).2.2.1 ∈ wsX10_cart := by decide +kernel
def vc_X10_cart (p1 : Int32) (p2 : Int32) (I : MI) (J : MJ) (Q : Int32 → MI → MJ → Prop) : Prop := vc_X1_hasCart p1 I J (fun (r3 : Int32) (I1 : MI) (J2 : MJ) => ((¬ r3 = 0 → ((p2 = 0 → vp_in p1 4 ∧ Q (I1 11 (Int32.toNatClampNeg p1)) I1 J2) ∧ (¬ p2 = 0 → ((p2 = 1 → vp_in p1 4 ∧ Q (I1 13 (Int32.toNatClampNeg p1)) I1 J2) ∧ (¬ p2 = 1 → ((p2 = 2 → vp_in p1 4 ∧ Q (I1 33 (Int32.toNatClampNeg p1)) I1 J2) ∧ (¬ p2 = 2 → ((p2 = 3 → vp_in p1 4 ∧ Q (I1 34 (Int32.toNatClampNeg p1)) I1 J2) ∧ (¬ p2 = 3 → ((p2 = 4 → vp_in p1 4 ∧ Q (I1 35 (Int32.toNatClampNeg p1)) I1 J2) ∧ (¬ p2 = 4 → Q (-3) I1 J2))))))))))) ∧ (r3 = 0 → Q (-2) I1 J2)))
set_option maxRecDepth 100000 in
set_option maxHeartbeats 4000000 in
theorem c_X10_cart (l : Launch) (E : ET)  (p1 : Int32) (p2 : Int32) : CI l yX10_cart wsX10_cart rmX10_cart E [.ref (ea E 0), .int p1, .int p2] (vc_X10_cart p1 p2) := by
  refine CI.of (cc := cX10_cart) (maxL := 3) (own := RX10) (by decide) rfl rfl (Nat.le_of_ble_eq_true rfl) ?_
  intro Z I J Q hE hl X R h
  subst hE
  subst hl
  show GW Z 3 I J 0 [(0, .ref (ea (zE Z) 0)), (1, .int p1), (2, .int p2)] []
  refine g_aload_n X dX10_cart_0 rfl 0 rfl ?_
  refine g_getr X (C := RX10) (T := TX10) (N := 9) (ci := 8) (k := 1) iX10_cart_X10 rfl kX10_cart_19 (Nat.le_of_ble_eq_true rfl) rfl (by decide) rfl rfl dX10_cart_1 ?_
  refine g_iload_n X dX10_cart_4 rfl 1 rfl ?_
  refine g_callVI X (As := [.int p1]) (rest := []) (T := TX1) (N := 12) (c_X1_hasCart (zl Z) (zE Z) p1) gX10_cart_X1_hasCart yo_X1_hasCart rfl ⟨Nat.le_of_ble_eq_true rfl, Nat.le_of_ble_eq_true rfl⟩ (Nat.le_of_ble_eq_true rfl) rfl rfl rfl dX10_cart_5 h (fun r3 I1 J2 h => ?_)
  refine g_if_ne X (tgt := 14) dX10_cart_8 (by decide) (fun c4 => ?_) (fun c4 => ?_)
  · have h := h.1 c4
    refine g_iload_n X dX10_cart_14 rfl 2 rfl ?_
    by_cases c5 : p2 = 0
    · have h := h.1 c5
      refine g_tin X (tgt := 48) dX10_cart_15 c5 (by decide) (by decide) rfl (by decide) ?_
      refine g_aload_n X dX10_cart_48 rfl 0 rfl ?_
      refine g_getr X (C := RX10) (T := TX10) (N := 9) (ci := 8) (k := 1) iX10_cart_X10 rfl kX10_cart_19 (Nat.le_of_ble_eq_true rfl) rfl (by decide) rfl rfl dX10_cart_49 ?_
      refine g_getr X (C := RX1) (T := TX1) (N := 12) (ci := 1) (k := 5) iX10_cart_X1 rfl kX10_cart_139 (Nat.le_of_ble_eq_true rfl) rfl (by decide) rfl rfl dX10_cart_52 ?_
      refine g_iload_n X dX10_cart_55 rfl 1 rfl ?_
      obtain ⟨b6, h⟩ := h
      refine g_iald X (Nat.le_of_ble_eq_true rfl) rfl b6 dX10_cart_56 ?_
      exact g_iret X R dX10_cart_57 h
    have h := h.2 c5
    by_cases c7 : p2 = 1
    · have h := h.1 c7
      refine g_tin X (tgt := 58) dX10_cart_15 c7 (by decide) (by decide) rfl (by decide) ?_
      refine g_aload_n X dX10_cart_58 rfl 0 rfl ?_
      refine g_getr X (C := RX10) (T := TX10) (N := 9) (ci := 8) (k := 1) iX10_cart_X10 rfl kX10_cart_19 (Nat.le_of_ble_eq_true rfl) rfl (by decide) rfl rfl dX10_cart_59 ?_
      refine g_getr X (C := RX1) (T := TX1) (N := 12) (ci := 1) (k := 7) iX10_cart_X1 rfl kX10_cart_142 (Nat.le_of_ble_eq_true rfl) rfl (by decide) rfl rfl dX10_cart_62 ?_
      refine g_iload_n X dX10_cart_65 rfl 1 rfl ?_
      obtain ⟨b8, h⟩ := h
      refine g_iald X (Nat.le_of_ble_eq_true rfl) rfl b8 dX10_cart_66 ?_
      exact g_iret X R dX10_cart_67 h
    have h := h.2 c7
    by_cases c9 : p2 = 2
    · have h := h.1 c9
      refine g_tin X (tgt := 68) dX10_cart_15 c9 (by decide) (by decide) rfl (by decide) ?_
      refine g_aload_n X dX10_cart_68 rfl 0 rfl ?_
      refine g_getr X (C := RX10) (T := TX10) (N := 9) (ci := 8) (k := 2) iX10_cart_X10 rfl kX10_cart_26 (Nat.le_of_ble_eq_true rfl) rfl (by decide) rfl rfl dX10_cart_69 ?_
      refine g_getr X (C := RX0) (T := TX0) (N := 6) (ci := 0) (k := 0) iX10_cart_X0 rfl kX10_cart_101 (Nat.le_of_ble_eq_true rfl) rfl (by decide) rfl rfl dX10_cart_72 ?_
      refine g_getr X (C := RX7) (T := TX7) (N := 5) (ci := 5) (k := 0) iX10_cart_X7 rfl kX10_cart_145 (Nat.le_of_ble_eq_true rfl) rfl (by decide) rfl rfl dX10_cart_75 ?_
      refine g_iload_n X dX10_cart_78 rfl 1 rfl ?_
      obtain ⟨b10, h⟩ := h
      refine g_iald X (Nat.le_of_ble_eq_true rfl) rfl b10 dX10_cart_79 ?_
      exact g_iret X R dX10_cart_80 h
    have h := h.2 c9
    by_cases c11 : p2 = 3
    · have h := h.1 c11
      refine g_tin X (tgt := 81) dX10_cart_15 c11 (by decide) (by decide) rfl (by decide) ?_
      refine g_aload_n X dX10_cart_81 rfl 0 rfl ?_
      refine g_getr X (C := RX10) (T := TX10) (N := 9) (ci := 8) (k := 2) iX10_cart_X10 rfl kX10_cart_26 (Nat.le_of_ble_eq_true rfl) rfl (by decide) rfl rfl dX10_cart_82 ?_
      refine g_getr X (C := RX0) (T := TX0) (N := 6) (ci := 0) (k := 0) iX10_cart_X0 rfl kX10_cart_101 (Nat.le_of_ble_eq_true rfl) rfl (by decide) rfl rfl dX10_cart_85 ?_
      refine g_getr X (C := RX7) (T := TX7) (N := 5) (ci := 5) (k := 1) iX10_cart_X7 rfl kX10_cart_148 (Nat.le_of_ble_eq_true rfl) rfl (by decide) rfl rfl dX10_cart_88 ?_
      refine g_iload_n X dX10_cart_91 rfl 1 rfl ?_
      obtain ⟨b12, h⟩ := h
      refine g_iald X (Nat.le_of_ble_eq_true rfl) rfl b12 dX10_cart_92 ?_
      exact g_iret X R dX10_cart_93 h
    have h := h.2 c11
    by_cases c13 : p2 = 4
    · have h := h.1 c13
      refine g_tin X (tgt := 94) dX10_cart_15 c13 (by decide) (by decide) rfl (by decide) ?_
      refine g_aload_n X dX10_cart_94 rfl 0 rfl ?_
      refine g_getr X (C := RX10) (T := TX10) (N := 9) (ci := 8) (k := 2) iX10_cart_X10 rfl kX10_cart_26 (Nat.le_of_ble_eq_true rfl) rfl (by decide) rfl rfl dX10_cart_95 ?_
      refine g_getr X (C := RX0) (T := TX0) (N := 6) (ci := 0) (k := 0) iX10_cart_X0 rfl kX10_cart_101 (Nat.le_of_ble_eq_true rfl) rfl (by decide) rfl rfl dX10_cart_98 ?_
      refine g_getr X (C := RX7) (T := TX7) (N := 5) (ci := 5) (k := 2) iX10_cart_X7 rfl kX10_cart_151 (Nat.le_of_ble_eq_true rfl) rfl (by decide) rfl rfl dX10_cart_101 ?_
      refine g_iload_n X dX10_cart_104 rfl 1 rfl ?_
      obtain ⟨b14, h⟩ := h
      refine g_iald X (Nat.le_of_ble_eq_true rfl) rfl b14 dX10_cart_105 ?_
      exact g_iret X R dX10_cart_106 h
    have h := h.2 c13
    refine g_tout X (tgt := 107) dX10_cart_15 (sw_out (hi := 4) (fun k hk => by match k, hk with | 0, _ => exact c5 | 1, _ => exact c7 | 2, _ => exact c9 | 3, _ => exact c11 | 4, _ => exact c13 | k + 5, hk => exact absurd hk (by omega)) (by decide)) (by decide) ?_
    refine g_bipush X (v := (-3)) dX10_cart_107 (by decide) ?_
    exact g_iret X R dX10_cart_109 h
  · have h := h.2 c4
    refine g_bipush X (v := (-2)) dX10_cart_11 (by decide) ?_
    exact g_iret X R dX10_cart_13 h

/-! X10_as.as(II)I -/
def rmX10_as : Room := { frames := 4, cells := 0, slots := 0, locals := 101 }
theorem yo_X10_as : yX10_as.cls = RX10 ∧ yX10_as.cls ≠ "java/lang/invoke/MethodHandle" ∧ yX10_as.cls ≠ "java/lang/invoke/VarHandle" ∧ (parseMethodDescriptor yX10_as.desc).map (fun d => d.parameters.length) = some 2 := by decide +kernel
theorem kX10_as_19 : Cond.fieldLink RX10 19 "SnowCourse" (TX10 1).2.1 (TX10 1).2.2.1 ∈ wsX10_as := by decide +kernel
theorem iX10_as_X10 : ∀ w ∈ u_ws RX10 TX10 9, w ∈ wsX10_as := by decide +kernel
theorem kX10_as_26 : Cond.fieldLink RX10 26 "SnowCourse" (TX10 2).2.1 (TX10 2).2.2.1 ∈ wsX10_as := by decide +kernel
theorem kX10_as_101 : Cond.fieldLink RX10 101 "SnowCourse$Chronicle" (TX0 0).2.1 (TX0 0).2.2.1 ∈ wsX10_as := by decide +kernel
theorem iX10_as_X0 : ∀ w ∈ u_ws RX0 TX0 6, w ∈ wsX10_as := by decide +kernel
theorem kX10_as_151 : Cond.fieldLink RX10 151 "SnowCourse$Standing" (TX7 2).2.1 (TX7 2).2.2.1 ∈ wsX10_as := by decide +kernel
theorem iX10_as_X7 : ∀ w ∈ u_ws RX7 TX7 5, w ∈ wsX10_as := by decide +kernel
def vc_X10_as (p1 : Int32) (p2 : Int32) (I : MI) (J : MJ) (Q : Int32 → MI → MJ → Prop) : Prop := vc_X1_hasCart p1 I J (fun (r3 : Int32) (I1 : MI) (J2 : MJ) => ((¬ r3 = 0 → vc_X10_within p2 0 3 I1 J2 (fun (r7 : Int32) (I5 : MI) (J6 : MJ) => ((¬ r7 = 0 → vc_X1_cartIs p1 p2 I5 J6 (fun (r11 : Int32) (I9 : MI) (J10 : MJ) => ((¬ r11 = 0 → vp_in p1 4 ∧ ∀ x14 : Int32, x14 = I9 35 (Int32.toNatClampNeg p1) → vc_X10_afterResting p1 1 I9 J10 (fun (r17 : Int32) (I15 : MI) (J16 : MJ) => Q (x14 - r17) I15 J16)) ∧ (r11 = 0 → Q (-4) I9 J10)))) ∧ (r7 = 0 → Q (-3) I5 J6)))) ∧ (r3 = 0 → Q (-2) I1 J2)))
set_option maxRecDepth 100000 in
set_option maxHeartbeats 4000000 in
theorem c_X10_as (l : Launch) (E : ET)  (p1 : Int32) (p2 : Int32) : CI l yX10_as wsX10_as rmX10_as E [.ref (ea E 0), .int p1, .int p2] (vc_X10_as p1 p2) := by
  refine CI.of (cc := cX10_as) (maxL := 4) (own := RX10) (by decide) rfl rfl (Nat.le_of_ble_eq_true rfl) ?_
  intro Z I J Q hE hl X R h
  subst hE
  subst hl
  show GW Z 4 I J 0 [(0, .ref (ea (zE Z) 0)), (1, .int p1), (2, .int p2)] []
  refine g_aload_n X dX10_as_0 rfl 0 rfl ?_
  refine g_getr X (C := RX10) (T := TX10) (N := 9) (ci := 8) (k := 1) iX10_as_X10 rfl kX10_as_19 (Nat.le_of_ble_eq_true rfl) rfl (by decide) rfl rfl dX10_as_1 ?_
  refine g_iload_n X dX10_as_4 rfl 1 rfl ?_
  refine g_callVI X (As := [.int p1]) (rest := []) (T := TX1) (N := 12) (c_X1_hasCart (zl Z) (zE Z) p1) gX10_as_X1_hasCart yo_X1_hasCart rfl ⟨Nat.le_of_ble_eq_true rfl, Nat.le_of_ble_eq_true rfl⟩ (Nat.le_of_ble_eq_true rfl) rfl rfl rfl dX10_as_5 h (fun r3 I1 J2 h => ?_)
  refine g_if_ne X (tgt := 14) dX10_as_8 (by decide) (fun c4 => ?_) (fun c4 => ?_)
  · have h := h.1 c4
    refine g_iload_n X dX10_as_14 rfl 2 rfl ?_
    refine g_iconst X (v := 0) dX10_as_15 (by decide) ?_
    refine g_iconst X (v := 3) dX10_as_16 (by decide) ?_
    refine g_callSI X (As := [.int p2, .int 0, .int 3]) (rest := []) (c_X10_within (zl Z) (zE Z) p2 0 3) gX10_as_X10_within yo_X10_within.2 rfl ⟨Nat.le_of_ble_eq_true rfl, Nat.le_of_ble_eq_true rfl⟩ rfl dX10_as_17 h (fun r7 I5 J6 h => ?_)
    refine g_if_ne X (tgt := 26) dX10_as_20 (by decide) (fun c8 => ?_) (fun c8 => ?_)
    · have h := h.1 c8
      refine g_aload_n X dX10_as_26 rfl 0 rfl ?_
      refine g_getr X (C := RX10) (T := TX10) (N := 9) (ci := 8) (k := 1) iX10_as_X10 rfl kX10_as_19 (Nat.le_of_ble_eq_true rfl) rfl (by decide) rfl rfl dX10_as_27 ?_
      refine g_iload_n X dX10_as_30 rfl 1 rfl ?_
      refine g_iload_n X dX10_as_31 rfl 2 rfl ?_
      refine g_callVI X (As := [.int p1, .int p2]) (rest := []) (T := TX1) (N := 12) (c_X1_cartIs (zl Z) (zE Z) p1 p2) gX10_as_X1_cartIs yo_X1_cartIs rfl ⟨Nat.le_of_ble_eq_true rfl, Nat.le_of_ble_eq_true rfl⟩ (Nat.le_of_ble_eq_true rfl) rfl rfl rfl dX10_as_32 h (fun r11 I9 J10 h => ?_)
      refine g_if_ne X (tgt := 41) dX10_as_35 (by decide) (fun c12 => ?_) (fun c12 => ?_)
      · have h := h.1 c12
        refine g_aload_n X dX10_as_41 rfl 0 rfl ?_
        refine g_getr X (C := RX10) (T := TX10) (N := 9) (ci := 8) (k := 2) iX10_as_X10 rfl kX10_as_26 (Nat.le_of_ble_eq_true rfl) rfl (by decide) rfl rfl dX10_as_42 ?_
        refine g_getr X (C := RX0) (T := TX0) (N := 6) (ci := 0) (k := 0) iX10_as_X0 rfl kX10_as_101 (Nat.le_of_ble_eq_true rfl) rfl (by decide) rfl rfl dX10_as_45 ?_
        refine g_getr X (C := RX7) (T := TX7) (N := 5) (ci := 5) (k := 2) iX10_as_X7 rfl kX10_as_151 (Nat.le_of_ble_eq_true rfl) rfl (by decide) rfl rfl dX10_as_48 ?_
        refine g_iload_n X dX10_as_51 rfl 1 rfl ?_
        obtain ⟨b13, h⟩ := h
        refine g_iald X (Nat.le_of_ble_eq_true rfl) rfl b13 dX10_as_52 ?_
        refine g_topi (fun x14 ex14 => ?_)
        have h := h x14 ex14
        refine g_istore_n X (lv' := [(3, .int x14), (0, .ref (ea (zE Z) 0)), (1, .int p1), (2, .int p2)]) dX10_as_53 rfl (by decide) rfl ?_
        refine g_iload_n X dX10_as_54 rfl 0 rfl ?_
        refine g_aload_n X dX10_as_55 rfl 1 rfl ?_
        refine g_iload_n X dX10_as_56 rfl 2 rfl ?_
        refine g_iconst X (v := 1) dX10_as_57 (by decide) ?_
        refine g_callVI X (As := [.int p1, .int 1]) (rest := [.int x14]) (T := TX10) (N := 9) (c_X10_afterResting (zl Z) (zE Z) p1 1) gX10_as_X10_afterResting yo_X10_afterResting rfl ⟨Nat.le_of_ble_eq_true rfl, Nat.le_of_ble_eq_true rfl⟩ (Nat.le_of_ble_eq_true rfl) rfl rfl rfl dX10_as_58 h (fun r17 I15 J16 h => ?_)
        refine g_isub X dX10_as_61 ?_
        exact g_iret X R dX10_as_62 h
      · have h := h.2 c12
        refine g_bipush X (v := (-4)) dX10_as_38 (by decide) ?_
        exact g_iret X R dX10_as_40 h
    · have h := h.2 c8
      refine g_bipush X (v := (-3)) dX10_as_23 (by decide) ?_
      exact g_iret X R dX10_as_25 h
  · have h := h.2 c4
    refine g_bipush X (v := (-2)) dX10_as_11 (by decide) ?_
    exact g_iret X R dX10_as_13 h

/-! X10_roadAs.roadAs(II)I -/
def rmX10_roadAs : Room := { frames := 3, cells := 0, slots := 0, locals := 80 }
theorem yo_X10_roadAs : yX10_roadAs.cls = RX10 ∧ yX10_roadAs.cls ≠ "java/lang/invoke/MethodHandle" ∧ yX10_roadAs.cls ≠ "java/lang/invoke/VarHandle" ∧ (parseMethodDescriptor yX10_roadAs.desc).map (fun d => d.parameters.length) = some 2 := by decide +kernel
theorem kX10_roadAs_19 : Cond.fieldLink RX10 19 "SnowCourse" (TX10 1).2.1 (TX10 1).2.2.1 ∈ wsX10_roadAs := by decide +kernel
theorem iX10_roadAs_X10 : ∀ w ∈ u_ws RX10 TX10 9, w ∈ wsX10_roadAs := by decide +kernel
def vc_X10_roadAs (p1 : Int32) (p2 : Int32) (I : MI) (J : MJ) (Q : Int32 → MI → MJ → Prop) : Prop := vc_X1_hasRoad p1 I J (fun (r3 : Int32) (I1 : MI) (J2 : MJ) => ((¬ r3 = 0 → vc_X10_within p2 0 3 I1 J2 (fun (r7 : Int32) (I5 : MI) (J6 : MJ) => ((¬ r7 = 0 → vc_X1_roadIs p1 p2 I5 J6 (fun (r11 : Int32) (I9 : MI) (J10 : MJ) => ((¬ r11 = 0 → vc_X1_afterRoad p1 50 0 0 0 I9 J10 (fun (r15 : Int32) (I13 : MI) (J14 : MJ) => Q r15 I13 J14)) ∧ (r11 = 0 → Q (-4) I9 J10)))) ∧ (r7 = 0 → Q (-3) I5 J6)))) ∧ (r3 = 0 → Q (-2) I1 J2)))
set_option maxRecDepth 100000 in
set_option maxHeartbeats 4000000 in
theorem c_X10_roadAs (l : Launch) (E : ET)  (p1 : Int32) (p2 : Int32) : CI l yX10_roadAs wsX10_roadAs rmX10_roadAs E [.ref (ea E 0), .int p1, .int p2] (vc_X10_roadAs p1 p2) := by
  refine CI.of (cc := cX10_roadAs) (maxL := 3) (own := RX10) (by decide) rfl rfl (Nat.le_of_ble_eq_true rfl) ?_
  intro Z I J Q hE hl X R h
  subst hE
  subst hl
  show GW Z 3 I J 0 [(0, .ref (ea (zE Z) 0)), (1, .int p1), (2, .int p2)] []
  refine g_aload_n X dX10_roadAs_0 rfl 0 rfl ?_
  refine g_getr X (C := RX10) (T := TX10) (N := 9) (ci := 8) (k := 1) iX10_roadAs_X10 rfl kX10_roadAs_19 (Nat.le_of_ble_eq_true rfl) rfl (by decide) rfl rfl dX10_roadAs_1 ?_
  refine g_iload_n X dX10_roadAs_4 rfl 1 rfl ?_
  refine g_callVI X (As := [.int p1]) (rest := []) (T := TX1) (N := 12) (c_X1_hasRoad (zl Z) (zE Z) p1) gX10_roadAs_X1_hasRoad yo_X1_hasRoad rfl ⟨Nat.le_of_ble_eq_true rfl, Nat.le_of_ble_eq_true rfl⟩ (Nat.le_of_ble_eq_true rfl) rfl rfl rfl dX10_roadAs_5 h (fun r3 I1 J2 h => ?_)
  refine g_if_ne X (tgt := 14) dX10_roadAs_8 (by decide) (fun c4 => ?_) (fun c4 => ?_)
  · have h := h.1 c4
    refine g_iload_n X dX10_roadAs_14 rfl 2 rfl ?_
    refine g_iconst X (v := 0) dX10_roadAs_15 (by decide) ?_
    refine g_iconst X (v := 3) dX10_roadAs_16 (by decide) ?_
    refine g_callSI X (As := [.int p2, .int 0, .int 3]) (rest := []) (c_X10_within (zl Z) (zE Z) p2 0 3) gX10_roadAs_X10_within yo_X10_within.2 rfl ⟨Nat.le_of_ble_eq_true rfl, Nat.le_of_ble_eq_true rfl⟩ rfl dX10_roadAs_17 h (fun r7 I5 J6 h => ?_)
    refine g_if_ne X (tgt := 26) dX10_roadAs_20 (by decide) (fun c8 => ?_) (fun c8 => ?_)
    · have h := h.1 c8
      refine g_aload_n X dX10_roadAs_26 rfl 0 rfl ?_
      refine g_getr X (C := RX10) (T := TX10) (N := 9) (ci := 8) (k := 1) iX10_roadAs_X10 rfl kX10_roadAs_19 (Nat.le_of_ble_eq_true rfl) rfl (by decide) rfl rfl dX10_roadAs_27 ?_
      refine g_iload_n X dX10_roadAs_30 rfl 1 rfl ?_
      refine g_iload_n X dX10_roadAs_31 rfl 2 rfl ?_
      refine g_callVI X (As := [.int p1, .int p2]) (rest := []) (T := TX1) (N := 12) (c_X1_roadIs (zl Z) (zE Z) p1 p2) gX10_roadAs_X1_roadIs yo_X1_roadIs rfl ⟨Nat.le_of_ble_eq_true rfl, Nat.le_of_ble_eq_true rfl⟩ (Nat.le_of_ble_eq_true rfl) rfl rfl rfl dX10_roadAs_32 h (fun r11 I9 J10 h => ?_)
      refine g_if_ne X (tgt := 41) dX10_roadAs_35 (by decide) (fun c12 => ?_) (fun c12 => ?_)
      · have h := h.1 c12
        refine g_aload_n X dX10_roadAs_41 rfl 0 rfl ?_
        refine g_getr X (C := RX10) (T := TX10) (N := 9) (ci := 8) (k := 1) iX10_roadAs_X10 rfl kX10_roadAs_19 (Nat.le_of_ble_eq_true rfl) rfl (by decide) rfl rfl dX10_roadAs_42 ?_
        refine g_iload_n X dX10_roadAs_45 rfl 1 rfl ?_
        refine g_bipush X (v := 50) dX10_roadAs_46 (by decide) ?_
        refine g_iconst X (v := 0) dX10_roadAs_48 (by decide) ?_
        refine g_iconst X (v := 0) dX10_roadAs_49 (by decide) ?_
        refine g_iconst X (v := 0) dX10_roadAs_50 (by decide) ?_
        refine g_callVI X (As := [.int p1, .int 50, .int 0, .int 0, .int 0]) (rest := []) (T := TX1) (N := 12) (c_X1_afterRoad (zl Z) (zE Z) p1 50 0 0 0) gX10_roadAs_X1_afterRoad yo_X1_afterRoad rfl ⟨Nat.le_of_ble_eq_true rfl, Nat.le_of_ble_eq_true rfl⟩ (Nat.le_of_ble_eq_true rfl) rfl rfl rfl dX10_roadAs_51 h (fun r15 I13 J14 h => ?_)
        exact g_iret X R dX10_roadAs_54 h
      · have h := h.2 c12
        refine g_bipush X (v := (-4)) dX10_roadAs_38 (by decide) ?_
        exact g_iret X R dX10_roadAs_40 h
    · have h := h.2 c8
      refine g_bipush X (v := (-3)) dX10_roadAs_23 (by decide) ?_
      exact g_iret X R dX10_roadAs_25 h
  · have h := h.2 c4
    refine g_bipush X (v := (-2)) dX10_roadAs_11 (by decide) ?_
    exact g_iret X R dX10_roadAs_13 h

/-! X10_price.price(I)I -/
def rmX10_price : Room := { frames := 1, cells := 0, slots := 0, locals := 22 }
theorem yo_X10_price : yX10_price.cls = RX10 ∧ yX10_price.cls ≠ "java/lang/invoke/MethodHandle" ∧ yX10_price.cls ≠ "java/lang/invoke/VarHandle" ∧ (parseMethodDescriptor yX10_price.desc).map (fun d => d.parameters.length) = some 1 := by decide +kernel
def vc_X10_price (p1 : Int32) (I : MI) (J : MJ) (Q : Int32 → MI → MJ → Prop) : Prop := vc_X10_within p1 0 48 I J (fun (r3 : Int32) (I1 : MI) (J2 : MJ) => ((r3 = 0 → Q (-3) I1 J2) ∧ (¬ r3 = 0 → vc_X2_priceIn p1 I1 J2 (fun (r7 : Int32) (I5 : MI) (J6 : MJ) => Q r7 I5 J6))))
set_option maxRecDepth 100000 in
set_option maxHeartbeats 4000000 in
theorem c_X10_price (l : Launch) (E : ET)  (p1 : Int32) : CI l yX10_price wsX10_price rmX10_price E [.ref (ea E 0), .int p1] (vc_X10_price p1) := by
  refine CI.of (cc := cX10_price) (maxL := 2) (own := RX10) (by decide) rfl rfl (Nat.le_of_ble_eq_true rfl) ?_
  intro Z I J Q hE hl X R h
  subst hE
  subst hl
  show GW Z 2 I J 0 [(0, .ref (ea (zE Z) 0)), (1, .int p1)] []
  refine g_iload_n X dX10_price_0 rfl 1 rfl ?_
  refine g_iconst X (v := 0) dX10_price_1 (by decide) ?_
  refine g_bipush X (v := 48) dX10_price_2 (by decide) ?_
  refine g_callSI X (As := [.int p1, .int 0, .int 48]) (rest := []) (c_X10_within (zl Z) (zE Z) p1 0 48) gX10_price_X10_within yo_X10_within.2 rfl ⟨Nat.le_of_ble_eq_true rfl, Nat.le_of_ble_eq_true rfl⟩ rfl dX10_price_4 h (fun r3 I1 J2 h => ?_)
  refine g_if_eq X (tgt := 17) dX10_price_7 (by decide) (fun c4 => ?_) (fun c4 => ?_)
  · have h := h.1 c4
    refine g_bipush X (v := (-3)) dX10_price_17 (by decide) ?_
    exact g_iret X R dX10_price_19 h
  · have h := h.2 c4
    refine g_iload_n X dX10_price_10 rfl 1 rfl ?_
    refine g_callSI X (As := [.int p1]) (rest := []) (c_X2_priceIn (zl Z) (zE Z) p1) gX10_price_X2_priceIn yo_X2_priceIn.2 rfl ⟨Nat.le_of_ble_eq_true rfl, Nat.le_of_ble_eq_true rfl⟩ rfl dX10_price_11 h (fun r7 I5 J6 h => ?_)
    refine g_goto X (tgt := 19) dX10_price_14 (by decide) ?_
    exact g_iret X R dX10_price_19 h
