/-! X10_write.write(I)I -/
def rmX10_write : Room := { frames := 1, cells := 0, slots := 0, locals := 22 }
theorem yo_X10_write : yX10_write.cls = RX10 ∧ yX10_write.cls ≠ "java/lang/invoke/MethodHandle" ∧ yX10_write.cls ≠ "java/lang/invoke/VarHandle" ∧ (parseMethodDescriptor yX10_write.desc).map (fun d => d.parameters.length) = some 1 := by decide +kernel
theorem kX10_write_10 : Cond.fieldLink RX10 10 "SnowCourse" (TX10 0).2.1 (TX10 0).2.2.1 ∈ wsX10_write := by decide +kernel
theorem iX10_write_X10 : ∀ w ∈ u_ws RX10 TX10 9, w ∈ wsX10_write := by decide +kernel
theorem kX10_write_72 : Cond.fieldLink RX10 72 "SnowCourse$Script" (TX6 1).2.1 (TX6 1).2.2.1 ∈ wsX10_write := by decide +kernel
theorem iX10_write_X6 : ∀ w ∈ u_ws RX6 TX6 10, w ∈ wsX10_write := by decide +kernel
def vc_X10_write (p1 : Int32) (I : MI) (J : MJ) (Q : Int32 → MI → MJ → Prop) : Prop := vc_X10_within p1 0 255 I J (fun (r3 : Int32) (I1 : MI) (J2 : MJ) => ((¬ r3 = 0 → vc_X6_append p1 I1 J2 (fun (r7 : Int32) (I5 : MI) (J6 : MJ) => ((r7 = 0 → Q (-5) I5 J6) ∧ (¬ r7 = 0 → Q (I5 1 1) I5 J6)))) ∧ (r3 = 0 → Q (-3) I1 J2)))
set_option maxRecDepth 100000 in
set_option maxHeartbeats 4000000 in
theorem c_X10_write (l : Launch) (E : ET)  (p1 : Int32) : CI l yX10_write wsX10_write rmX10_write E [.ref (ea E 0), .int p1] (vc_X10_write p1) := by
  refine CI.of (cc := cX10_write) (maxL := 2) (own := RX10) (by decide) rfl rfl (Nat.le_of_ble_eq_true rfl) ?_
  intro Z I J Q hE hl X R h
  subst hE
  subst hl
  show GW Z 2 I J 0 [(0, .ref (ea (zE Z) 0)), (1, .int p1)] []
  refine g_iload_n X dX10_write_0 rfl 1 rfl ?_
  refine g_iconst X (v := 0) dX10_write_1 (by decide) ?_
  refine g_sipush X (v := 255) dX10_write_2 (by decide) ?_
  refine g_callSI X (As := [.int p1, .int 0, .int 255]) (rest := []) (c_X10_within (zl Z) (zE Z) p1 0 255) gX10_write_X10_within yo_X10_within.2 rfl ⟨Nat.le_of_ble_eq_true rfl, Nat.le_of_ble_eq_true rfl⟩ rfl dX10_write_5 h (fun r3 I1 J2 h => ?_)
  refine g_if_ne X (tgt := 14) dX10_write_8 (by decide) (fun c4 => ?_) (fun c4 => ?_)
  · have h := h.1 c4
    refine g_aload_n X dX10_write_14 rfl 0 rfl ?_
    refine g_getr X (C := RX10) (T := TX10) (N := 9) (ci := 8) (k := 0) iX10_write_X10 rfl kX10_write_10 (Nat.le_of_ble_eq_true rfl) rfl (by decide) rfl rfl dX10_write_15 ?_
    refine g_iload_n X dX10_write_18 rfl 1 rfl ?_
    refine g_callVI X (As := [.int p1]) (rest := []) (T := TX6) (N := 10) (c_X6_append (zl Z) (zE Z) p1) gX10_write_X6_append yo_X6_append rfl ⟨Nat.le_of_ble_eq_true rfl, Nat.le_of_ble_eq_true rfl⟩ (Nat.le_of_ble_eq_true rfl) rfl rfl rfl dX10_write_19 h (fun r7 I5 J6 h => ?_)
    refine g_if_eq X (tgt := 35) dX10_write_22 (by decide) (fun c8 => ?_) (fun c8 => ?_)
    · have h := h.1 c8
      refine g_bipush X (v := (-5)) dX10_write_35 (by decide) ?_
      exact g_iret X R dX10_write_37 h
    · have h := h.2 c8
      refine g_aload_n X dX10_write_25 rfl 0 rfl ?_
      refine g_getr X (C := RX10) (T := TX10) (N := 9) (ci := 8) (k := 0) iX10_write_X10 rfl kX10_write_10 (Nat.le_of_ble_eq_true rfl) rfl (by decide) rfl rfl dX10_write_26 ?_
      refine g_geti X (C := RX6) (T := TX6) (N := 10) (ci := 4) (k := 1) iX10_write_X6 rfl kX10_write_72 (Nat.le_of_ble_eq_true rfl) rfl (by decide) rfl rfl dX10_write_29 ?_
      refine g_goto X (tgt := 37) dX10_write_32 (by decide) ?_
      exact g_iret X R dX10_write_37 h
  · have h := h.2 c4
    refine g_bipush X (v := (-3)) dX10_write_11 (by decide) ?_
    exact g_iret X R dX10_write_13 h

/-! X10_erase.erase()I -/
def rmX10_erase : Room := { frames := 0, cells := 0, slots := 0, locals := 0 }
theorem yo_X10_erase : yX10_erase.cls = RX10 ∧ yX10_erase.cls ≠ "java/lang/invoke/MethodHandle" ∧ yX10_erase.cls ≠ "java/lang/invoke/VarHandle" ∧ (parseMethodDescriptor yX10_erase.desc).map (fun d => d.parameters.length) = some 0 := by decide +kernel
theorem kX10_erase_10 : Cond.fieldLink RX10 10 "SnowCourse" (TX10 0).2.1 (TX10 0).2.2.1 ∈ wsX10_erase := by decide +kernel
theorem iX10_erase_X10 : ∀ w ∈ u_ws RX10 TX10 9, w ∈ wsX10_erase := by decide +kernel
theorem kX10_erase_72 : Cond.fieldLink RX10 72 "SnowCourse$Script" (TX6 1).2.1 (TX6 1).2.2.1 ∈ wsX10_erase := by decide +kernel
theorem iX10_erase_X6 : ∀ w ∈ u_ws RX6 TX6 10, w ∈ wsX10_erase := by decide +kernel
def vc_X10_erase  (I : MI) (J : MJ) (Q : Int32 → MI → MJ → Prop) : Prop := ∀ x1 : Int32, x1 = I 1 1 → ∀ I2 : MI, I2 = wI I 1 1 0 → Q x1 I2 J
set_option maxRecDepth 100000 in
set_option maxHeartbeats 4000000 in
theorem c_X10_erase (l : Launch) (E : ET)   : CI l yX10_erase wsX10_erase rmX10_erase E [.ref (ea E 0)] (vc_X10_erase ) := by
  refine CI.of (cc := cX10_erase) (maxL := 2) (own := RX10) (by decide) rfl rfl (Nat.le_of_ble_eq_true rfl) ?_
  intro Z I J Q hE hl X R h
  subst hE
  subst hl
  show GW Z 2 I J 0 [(0, .ref (ea (zE Z) 0))] []
  refine g_aload_n X dX10_erase_0 rfl 0 rfl ?_
  refine g_getr X (C := RX10) (T := TX10) (N := 9) (ci := 8) (k := 0) iX10_erase_X10 rfl kX10_erase_10 (Nat.le_of_ble_eq_true rfl) rfl (by decide) rfl rfl dX10_erase_1 ?_
  refine g_geti X (C := RX6) (T := TX6) (N := 10) (ci := 4) (k := 1) iX10_erase_X6 rfl kX10_erase_72 (Nat.le_of_ble_eq_true rfl) rfl (by decide) rfl rfl dX10_erase_4 ?_
  refine g_topi (fun x1 ex1 => ?_)
  have h := h x1 ex1
  refine g_istore_n X (lv' := [(1, .int x1), (0, .ref (ea (zE Z) 0))]) dX10_erase_7 rfl (by decide) rfl ?_
  refine g_aload_n X dX10_erase_8 rfl 1 rfl ?_
  refine g_getr X (C := RX10) (T := TX10) (N := 9) (ci := 8) (k := 0) iX10_erase_X10 rfl kX10_erase_10 (Nat.le_of_ble_eq_true rfl) rfl (by decide) rfl rfl dX10_erase_9 ?_
  refine g_iconst X (v := 0) dX10_erase_12 (by decide) ?_
  refine g_puti X (C := RX6) (T := TX6) (N := 10) (ci := 4) (k := 1) (ty0 := tyX6) iX10_erase_X6 tyX6_ok nmX6 rfl kX10_erase_72 (Nat.le_of_ble_eq_true rfl) rfl (by decide) rfl rfl (by decide +kernel) rfl dX10_erase_13 ?_
  refine g_nmI (fun I2 eI2 => ?_)
  have h := h I2 eI2
  refine g_iload_n X dX10_erase_16 rfl 0 rfl ?_
  exact g_iret X R dX10_erase_17 h

/-! X10_fault.fault()I -/
def rmX10_fault : Room := { frames := 9, cells := 0, slots := 0, locals := 205 }
theorem yo_X10_fault : yX10_fault.cls = RX10 ∧ yX10_fault.cls ≠ "java/lang/invoke/MethodHandle" ∧ yX10_fault.cls ≠ "java/lang/invoke/VarHandle" ∧ (parseMethodDescriptor yX10_fault.desc).map (fun d => d.parameters.length) = some 0 := by decide +kernel
theorem kX10_fault_10 : Cond.fieldLink RX10 10 "SnowCourse" (TX10 0).2.1 (TX10 0).2.2.1 ∈ wsX10_fault := by decide +kernel
theorem iX10_fault_X10 : ∀ w ∈ u_ws RX10 TX10 9, w ∈ wsX10_fault := by decide +kernel
theorem kX10_fault_19 : Cond.fieldLink RX10 19 "SnowCourse" (TX10 1).2.1 (TX10 1).2.2.1 ∈ wsX10_fault := by decide +kernel
def vc_X10_fault  (I : MI) (J : MJ) (Q : Int32 → MI → MJ → Prop) : Prop := vc_X6_readOver  I J (fun (r3 : Int32) (I1 : MI) (J2 : MJ) => Q r3 I1 J2)
set_option maxRecDepth 100000 in
set_option maxHeartbeats 4000000 in
theorem c_X10_fault (l : Launch) (E : ET)   : CI l yX10_fault wsX10_fault rmX10_fault E [.ref (ea E 0)] (vc_X10_fault ) := by
  refine CI.of (cc := cX10_fault) (maxL := 1) (own := RX10) (by decide) rfl rfl (Nat.le_of_ble_eq_true rfl) ?_
  intro Z I J Q hE hl X R h
  subst hE
  subst hl
  show GW Z 1 I J 0 [(0, .ref (ea (zE Z) 0))] []
  refine g_aload_n X dX10_fault_0 rfl 0 rfl ?_
  refine g_getr X (C := RX10) (T := TX10) (N := 9) (ci := 8) (k := 0) iX10_fault_X10 rfl kX10_fault_10 (Nat.le_of_ble_eq_true rfl) rfl (by decide) rfl rfl dX10_fault_1 ?_
  refine g_aload_n X dX10_fault_4 rfl 0 rfl ?_
  refine g_getr X (C := RX10) (T := TX10) (N := 9) (ci := 8) (k := 1) iX10_fault_X10 rfl kX10_fault_19 (Nat.le_of_ble_eq_true rfl) rfl (by decide) rfl rfl dX10_fault_5 ?_
  refine g_callVI X (As := [.ref (ea (zE Z) 5)]) (rest := []) (T := TX6) (N := 10) (c_X6_readOver (zl Z) (zE Z) ) gX10_fault_X6_readOver yo_X6_readOver rfl ⟨Nat.le_of_ble_eq_true rfl, Nat.le_of_ble_eq_true rfl⟩ (Nat.le_of_ble_eq_true rfl) rfl rfl rfl dX10_fault_8 h (fun r3 I1 J2 h => ?_)
  exact g_iret X R dX10_fault_11 h

/-! X10_land.land()I -/
def rmX10_land : Room := { frames := 9, cells := 0, slots := 0, locals := 205 }
theorem yo_X10_land : yX10_land.cls = RX10 ∧ yX10_land.cls ≠ "java/lang/invoke/MethodHandle" ∧ yX10_land.cls ≠ "java/lang/invoke/VarHandle" ∧ (parseMethodDescriptor yX10_land.desc).map (fun d => d.parameters.length) = some 0 := by decide +kernel
theorem kX10_land_10 : Cond.fieldLink RX10 10 "SnowCourse" (TX10 0).2.1 (TX10 0).2.2.1 ∈ wsX10_land := by decide +kernel
theorem iX10_land_X10 : ∀ w ∈ u_ws RX10 TX10 9, w ∈ wsX10_land := by decide +kernel
theorem kX10_land_19 : Cond.fieldLink RX10 19 "SnowCourse" (TX10 1).2.1 (TX10 1).2.2.1 ∈ wsX10_land := by decide +kernel
theorem kX10_land_80 : Cond.fieldLink RX10 80 "SnowCourse$Script" (TX6 4).2.1 (TX6 4).2.2.1 ∈ wsX10_land := by decide +kernel
theorem iX10_land_X6 : ∀ w ∈ u_ws RX6 TX6 10, w ∈ wsX10_land := by decide +kernel
theorem kX10_land_72 : Cond.fieldLink RX10 72 "SnowCourse$Script" (TX6 1).2.1 (TX6 1).2.2.1 ∈ wsX10_land := by decide +kernel
theorem kX10_land_26 : Cond.fieldLink RX10 26 "SnowCourse" (TX10 2).2.1 (TX10 2).2.2.1 ∈ wsX10_land := by decide +kernel
theorem kX10_land_33 : Cond.fieldLink RX10 33 "SnowCourse" (TX10 3).2.1 (TX10 3).2.2.1 ∈ wsX10_land := by decide +kernel
theorem kX10_land_90 : Cond.fieldLink RX10 90 "SnowCourse$Takers" (TX8 1).2.1 (TX8 1).2.2.1 ∈ wsX10_land := by decide +kernel
theorem iX10_land_X8 : ∀ w ∈ u_ws RX8 TX8 2, w ∈ wsX10_land := by decide +kernel
theorem kX10_land_40 : Cond.fieldLink RX10 40 "SnowCourse" (TX10 4).2.1 (TX10 4).2.2.1 ∈ wsX10_land := by decide +kernel
theorem kX10_land_93 : Cond.fieldLink RX10 93 "SnowCourse$PassRow" (TX4 1).2.1 (TX4 1).2.2.1 ∈ wsX10_land := by decide +kernel
theorem iX10_land_X4 : ∀ w ∈ u_ws RX4 TX4 4, w ∈ wsX10_land := by decide +kernel
def vc_X10_land  (I : MI) (J : MJ) (Q : Int32 → MI → MJ → Prop) : Prop := vc_X6_readOver  I J (fun (r3 : Int32) (I1 : MI) (J2 : MJ) => ((r3 = (-1) → ∀ x5 : Int32, x5 = I1 1 4 → vc_X6_tellTo  I1 J2 (fun (I6 : MI) (J7 : MJ) => ∀ I8 : MI, I8 = wI I6 1 1 0 → vc_X0_begin  I8 J7 (fun (I9 : MI) (J10 : MJ) => ∀ I11 : MI, I11 = wI I9 18 1 0 → ∀ I12 : MI, I12 = wI I11 20 1 0 → Q x5 I12 J10))) ∧ (¬ r3 = (-1) → Q (-4) I1 J2)))
set_option maxRecDepth 100000 in
set_option maxHeartbeats 4000000 in
theorem c_X10_land (l : Launch) (E : ET)   : CI l yX10_land wsX10_land rmX10_land E [.ref (ea E 0)] (vc_X10_land ) := by
  refine CI.of (cc := cX10_land) (maxL := 2) (own := RX10) (by decide) rfl rfl (Nat.le_of_ble_eq_true rfl) ?_
  intro Z I J Q hE hl X R h
  subst hE
  subst hl
  show GW Z 2 I J 0 [(0, .ref (ea (zE Z) 0))] []
  refine g_aload_n X dX10_land_0 rfl 0 rfl ?_
  refine g_getr X (C := RX10) (T := TX10) (N := 9) (ci := 8) (k := 0) iX10_land_X10 rfl kX10_land_10 (Nat.le_of_ble_eq_true rfl) rfl (by decide) rfl rfl dX10_land_1 ?_
  refine g_aload_n X dX10_land_4 rfl 0 rfl ?_
  refine g_getr X (C := RX10) (T := TX10) (N := 9) (ci := 8) (k := 1) iX10_land_X10 rfl kX10_land_19 (Nat.le_of_ble_eq_true rfl) rfl (by decide) rfl rfl dX10_land_5 ?_
  refine g_callVI X (As := [.ref (ea (zE Z) 5)]) (rest := []) (T := TX6) (N := 10) (c_X6_readOver (zl Z) (zE Z) ) gX10_land_X6_readOver yo_X6_readOver rfl ⟨Nat.le_of_ble_eq_true rfl, Nat.le_of_ble_eq_true rfl⟩ (Nat.le_of_ble_eq_true rfl) rfl rfl rfl dX10_land_8 h (fun r3 I1 J2 h => ?_)
  refine g_iconst X (v := (-1)) dX10_land_11 (by decide) ?_
  refine g_icmp_eq X (tgt := 18) dX10_land_12 (by decide) (fun c4 => ?_) (fun c4 => ?_)
  · have h := h.1 c4
    refine g_aload_n X dX10_land_18 rfl 0 rfl ?_
    refine g_getr X (C := RX10) (T := TX10) (N := 9) (ci := 8) (k := 0) iX10_land_X10 rfl kX10_land_10 (Nat.le_of_ble_eq_true rfl) rfl (by decide) rfl rfl dX10_land_19 ?_
    refine g_geti X (C := RX6) (T := TX6) (N := 10) (ci := 4) (k := 4) iX10_land_X6 rfl kX10_land_80 (Nat.le_of_ble_eq_true rfl) rfl (by decide) rfl rfl dX10_land_22 ?_
    refine g_topi (fun x5 ex5 => ?_)
    have h := h x5 ex5
    refine g_istore_n X (lv' := [(1, .int x5), (0, .ref (ea (zE Z) 0))]) dX10_land_25 rfl (by decide) rfl ?_
    refine g_aload_n X dX10_land_26 rfl 1 rfl ?_
    refine g_getr X (C := RX10) (T := TX10) (N := 9) (ci := 8) (k := 0) iX10_land_X10 rfl kX10_land_10 (Nat.le_of_ble_eq_true rfl) rfl (by decide) rfl rfl dX10_land_27 ?_
    refine g_aload_n X dX10_land_30 rfl 1 rfl ?_
    refine g_getr X (C := RX10) (T := TX10) (N := 9) (ci := 8) (k := 1) iX10_land_X10 rfl kX10_land_19 (Nat.le_of_ble_eq_true rfl) rfl (by decide) rfl rfl dX10_land_31 ?_
    refine g_callVV X (As := [.ref (ea (zE Z) 5)]) (rest := []) (T := TX6) (N := 10) (c_X6_tellTo (zl Z) (zE Z) ) gX10_land_X6_tellTo yo_X6_tellTo rfl ⟨Nat.le_of_ble_eq_true rfl, Nat.le_of_ble_eq_true rfl⟩ (Nat.le_of_ble_eq_true rfl) rfl rfl rfl dX10_land_34 h (fun  I6 J7 h => ?_)
    refine g_aload_n X dX10_land_37 rfl 1 rfl ?_
    refine g_getr X (C := RX10) (T := TX10) (N := 9) (ci := 8) (k := 0) iX10_land_X10 rfl kX10_land_10 (Nat.le_of_ble_eq_true rfl) rfl (by decide) rfl rfl dX10_land_38 ?_
    refine g_iconst X (v := 0) dX10_land_41 (by decide) ?_
    refine g_puti X (C := RX6) (T := TX6) (N := 10) (ci := 4) (k := 1) (ty0 := tyX6) iX10_land_X6 tyX6_ok nmX6 rfl kX10_land_72 (Nat.le_of_ble_eq_true rfl) rfl (by decide) rfl rfl (by decide +kernel) rfl dX10_land_42 ?_
    refine g_nmI (fun I8 eI8 => ?_)
    have h := h I8 eI8
    refine g_aload_n X dX10_land_45 rfl 1 rfl ?_
    refine g_getr X (C := RX10) (T := TX10) (N := 9) (ci := 8) (k := 2) iX10_land_X10 rfl kX10_land_26 (Nat.le_of_ble_eq_true rfl) rfl (by decide) rfl rfl dX10_land_46 ?_
    refine g_aload_n X dX10_land_49 rfl 1 rfl ?_
    refine g_getr X (C := RX10) (T := TX10) (N := 9) (ci := 8) (k := 1) iX10_land_X10 rfl kX10_land_19 (Nat.le_of_ble_eq_true rfl) rfl (by decide) rfl rfl dX10_land_50 ?_
    refine g_callVV X (As := [.ref (ea (zE Z) 5)]) (rest := []) (T := TX0) (N := 6) (c_X0_begin (zl Z) (zE Z) ) gX10_land_X0_begin yo_X0_begin rfl ⟨Nat.le_of_ble_eq_true rfl, Nat.le_of_ble_eq_true rfl⟩ (Nat.le_of_ble_eq_true rfl) rfl rfl rfl dX10_land_53 h (fun  I9 J10 h => ?_)
    refine g_aload_n X dX10_land_56 rfl 1 rfl ?_
    refine g_getr X (C := RX10) (T := TX10) (N := 9) (ci := 8) (k := 3) iX10_land_X10 rfl kX10_land_33 (Nat.le_of_ble_eq_true rfl) rfl (by decide) rfl rfl dX10_land_57 ?_
    refine g_iconst X (v := 0) dX10_land_60 (by decide) ?_
    refine g_puti X (C := RX8) (T := TX8) (N := 2) (ci := 6) (k := 1) (ty0 := tyX8) iX10_land_X8 tyX8_ok nmX8 rfl kX10_land_90 (Nat.le_of_ble_eq_true rfl) rfl (by decide) rfl rfl (by decide +kernel) rfl dX10_land_61 ?_
    refine g_nmI (fun I11 eI11 => ?_)
    have h := h I11 eI11
    refine g_aload_n X dX10_land_64 rfl 1 rfl ?_
    refine g_getr X (C := RX10) (T := TX10) (N := 9) (ci := 8) (k := 4) iX10_land_X10 rfl kX10_land_40 (Nat.le_of_ble_eq_true rfl) rfl (by decide) rfl rfl dX10_land_65 ?_
    refine g_iconst X (v := 0) dX10_land_68 (by decide) ?_
    refine g_puti X (C := RX4) (T := TX4) (N := 4) (ci := 2) (k := 1) (ty0 := tyX4) iX10_land_X4 tyX4_ok nmX4 rfl kX10_land_93 (Nat.le_of_ble_eq_true rfl) rfl (by decide) rfl rfl (by decide +kernel) rfl dX10_land_69 ?_
    refine g_nmI (fun I12 eI12 => ?_)
    have h := h I12 eI12
    refine g_iload_n X dX10_land_72 rfl 0 rfl ?_
    exact g_iret X R dX10_land_73 h
  · have h := h.2 c4
    refine g_bipush X (v := (-4)) dX10_land_15 (by decide) ?_
    exact g_iret X R dX10_land_17 h

/-! X10_road.road(II)I -/
def rmX10_road : Room := { frames := 1, cells := 0, slots := 0, locals := 21 }
theorem yo_X10_road : yX10_road.cls = RX10 ∧ yX10_road.cls ≠ "java/lang/invoke/MethodHandle" ∧ yX10_road.cls ≠ "java/lang/invoke/VarHandle" ∧ (parseMethodDescriptor yX10_road.desc).map (fun d => d.parameters.length) = some 2 := by decide +kernel
theorem kX10_road_19 : Cond.fieldLink RX10 19 "SnowCourse" (TX10 1).2.1 (TX10 1).2.2.1 ∈ wsX10_road := by decide +kernel
theorem iX10_road_X10 : ∀ w ∈ u_ws RX10 TX10 9, w ∈ wsX10_road := by decide +kernel
theorem kX10_road_124 : Cond.fieldLink RX10 124 "SnowCourse$Country" (TX1 1).2.1 (TX1 1).2.2.1 ∈ wsX10_road := by decide +kernel
theorem iX10_road_X1 : ∀ w ∈ u_ws RX1 TX1 12, w ∈ wsX10_road := by decide +kernel
theorem kX10_road_127 : Cond.fieldLink RX10 127 "SnowCourse$Country" (TX1 2).2.1 (TX1 2).2.2.1 ∈ wsX10_road := by decide +kernel
theorem kX10_road_130 : Cond.fieldLink RX10 130 "SnowCourse$Country" (TX1 3).2.1 (TX1 3).2.2.1 ∈ wsX10_road := by decide +kernel
theorem kX10_road_133 : Cond.fieldLink RX10 133 "SnowCourse$Country" (TX1 4).2.1 (TX1 4).2.2.1 ∈ wsX10_road := by decide +kernel
def vc_X10_road (p1 : Int32) (p2 : Int32) (I : MI) (J : MJ) (Q : Int32 → MI → MJ → Prop) : Prop := vc_X1_hasRoad p1 I J (fun (r3 : Int32) (I1 : MI) (J2 : MJ) => ((¬ r3 = 0 → ((p2 = 0 → vp_in p1 9 ∧ Q (I1 7 (Int32.toNatClampNeg p1)) I1 J2) ∧ (¬ p2 = 0 → ((p2 = 1 → vp_in p1 9 ∧ Q (I1 8 (Int32.toNatClampNeg p1)) I1 J2) ∧ (¬ p2 = 1 → ((p2 = 2 → vp_in p1 9 ∧ Q (I1 9 (Int32.toNatClampNeg p1)) I1 J2) ∧ (¬ p2 = 2 → ((p2 = 3 → vp_in p1 9 ∧ Q (I1 10 (Int32.toNatClampNeg p1)) I1 J2) ∧ (¬ p2 = 3 → Q (-3) I1 J2))))))))) ∧ (r3 = 0 → Q (-2) I1 J2)))
set_option maxRecDepth 100000 in
set_option maxHeartbeats 4000000 in
theorem c_X10_road (l : Launch) (E : ET)  (p1 : Int32) (p2 : Int32) : CI l yX10_road wsX10_road rmX10_road E [.ref (ea E 0), .int p1, .int p2] (vc_X10_road p1 p2) := by
  refine CI.of (cc := cX10_road) (maxL := 3) (own := RX10) (by decide) rfl rfl (Nat.le_of_ble_eq_true rfl) ?_
  intro Z I J Q hE hl X R h
  subst hE
  subst hl
  show GW Z 3 I J 0 [(0, .ref (ea (zE Z) 0)), (1, .int p1), (2, .int p2)] []
  refine g_aload_n X dX10_road_0 rfl 0 rfl ?_
  refine g_getr X (C := RX10) (T := TX10) (N := 9) (ci := 8) (k := 1) iX10_road_X10 rfl kX10_road_19 (Nat.le_of_ble_eq_true rfl) rfl (by decide) rfl rfl dX10_road_1 ?_
  refine g_iload_n X dX10_road_4 rfl 1 rfl ?_
  refine g_callVI X (As := [.int p1]) (rest := []) (T := TX1) (N := 12) (c_X1_hasRoad (zl Z) (zE Z) p1) gX10_road_X1_hasRoad yo_X1_hasRoad rfl ⟨Nat.le_of_ble_eq_true rfl, Nat.le_of_ble_eq_true rfl⟩ (Nat.le_of_ble_eq_true rfl) rfl rfl rfl dX10_road_5 h (fun r3 I1 J2 h => ?_)
  refine g_if_ne X (tgt := 14) dX10_road_8 (by decide) (fun c4 => ?_) (fun c4 => ?_)
  · have h := h.1 c4
    refine g_iload_n X dX10_road_14 rfl 2 rfl ?_
    by_cases c5 : p2 = 0
    · have h := h.1 c5
      refine g_tin X (tgt := 44) dX10_road_15 c5 (by decide) (by decide) rfl (by decide) ?_
      refine g_aload_n X dX10_road_44 rfl 0 rfl ?_
      refine g_getr X (C := RX10) (T := TX10) (N := 9) (ci := 8) (k := 1) iX10_road_X10 rfl kX10_road_19 (Nat.le_of_ble_eq_true rfl) rfl (by decide) rfl rfl dX10_road_45 ?_
      refine g_getr X (C := RX1) (T := TX1) (N := 12) (ci := 1) (k := 1) iX10_road_X1 rfl kX10_road_124 (Nat.le_of_ble_eq_true rfl) rfl (by decide) rfl rfl dX10_road_48 ?_
      refine g_iload_n X dX10_road_51 rfl 1 rfl ?_
      obtain ⟨b6, h⟩ := h
      refine g_iald X (Nat.le_of_ble_eq_true rfl) rfl b6 dX10_road_52 ?_
      exact g_iret X R dX10_road_53 h
    have h := h.2 c5
    by_cases c7 : p2 = 1
    · have h := h.1 c7
      refine g_tin X (tgt := 54) dX10_road_15 c7 (by decide) (by decide) rfl (by decide) ?_
      refine g_aload_n X dX10_road_54 rfl 0 rfl ?_
      refine g_getr X (C := RX10) (T := TX10) (N := 9) (ci := 8) (k := 1) iX10_road_X10 rfl kX10_road_19 (Nat.le_of_ble_eq_true rfl) rfl (by decide) rfl rfl dX10_road_55 ?_
      refine g_getr X (C := RX1) (T := TX1) (N := 12) (ci := 1) (k := 2) iX10_road_X1 rfl kX10_road_127 (Nat.le_of_ble_eq_true rfl) rfl (by decide) rfl rfl dX10_road_58 ?_
      refine g_iload_n X dX10_road_61 rfl 1 rfl ?_
      obtain ⟨b8, h⟩ := h
      refine g_iald X (Nat.le_of_ble_eq_true rfl) rfl b8 dX10_road_62 ?_
      exact g_iret X R dX10_road_63 h
    have h := h.2 c7
    by_cases c9 : p2 = 2
    · have h := h.1 c9
      refine g_tin X (tgt := 64) dX10_road_15 c9 (by decide) (by decide) rfl (by decide) ?_
      refine g_aload_n X dX10_road_64 rfl 0 rfl ?_
      refine g_getr X (C := RX10) (T := TX10) (N := 9) (ci := 8) (k := 1) iX10_road_X10 rfl kX10_road_19 (Nat.le_of_ble_eq_true rfl) rfl (by decide) rfl rfl dX10_road_65 ?_
      refine g_getr X (C := RX1) (T := TX1) (N := 12) (ci := 1) (k := 3) iX10_road_X1 rfl kX10_road_130 (Nat.le_of_ble_eq_true rfl) rfl (by decide) rfl rfl dX10_road_68 ?_
      refine g_iload_n X dX10_road_71 rfl 1 rfl ?_
      obtain ⟨b10, h⟩ := h
      refine g_iald X (Nat.le_of_ble_eq_true rfl) rfl b10 dX10_road_72 ?_
      exact g_iret X R dX10_road_73 h
    have h := h.2 c9
    by_cases c11 : p2 = 3
    · have h := h.1 c11
      refine g_tin X (tgt := 74) dX10_road_15 c11 (by decide) (by decide) rfl (by decide) ?_
      refine g_aload_n X dX10_road_74 rfl 0 rfl ?_
      refine g_getr X (C := RX10) (T := TX10) (N := 9) (ci := 8) (k := 1) iX10_road_X10 rfl kX10_road_19 (Nat.le_of_ble_eq_true rfl) rfl (by decide) rfl rfl dX10_road_75 ?_
      refine g_getr X (C := RX1) (T := TX1) (N := 12) (ci := 1) (k := 4) iX10_road_X1 rfl kX10_road_133 (Nat.le_of_ble_eq_true rfl) rfl (by decide) rfl rfl dX10_road_78 ?_
      refine g_iload_n X dX10_road_81 rfl 1 rfl ?_
      obtain ⟨b12, h⟩ := h
      refine g_iald X (Nat.le_of_ble_eq_true rfl) rfl b12 dX10_road_82 ?_
      exact g_iret X R dX10_road_83 h
    have h := h.2 c11
    refine g_tout X (tgt := 84) dX10_road_15 (sw_out (hi := 3) (fun k hk => by match k, hk with | 0, _ => exact c5 | 1, _ => exact c7 | 2, _ => exact c9 | 3, _ => exact c11 | k + 4, hk => exact absurd hk (by omega)) (by decide)) (by decide) ?_
    refine g_bipush X (v := (-3)) dX10_road_84 (by decide) ?_
    exact g_iret X R dX10_road_86 h
  · have h := h.2 c4
    refine g_bipush X (v := (-2)) dX10_road_11 (by decide) ?_
    exact g_iret X R dX10_road_13 h

/-! X10_roadAs.roadAs(II)I -/
def rmX10_roadAs : Room := { frames := 3, cells := 0, slots := 0, locals := 80 }
theorem yo_X10_roadAs : yX10_roadAs.cls = RX10 ∧ yX10_roadAs.cls ≠ "java/lang/invoke/MethodHandle" ∧ yX10_roadAs.cls ≠ "java/lang/invoke/VarHandle" ∧ (parseMethodDescriptor yX10_roadAs.desc).map (fun d => d.parameters.length) = some 2 := by decide +kernel
theorem kX10_roadAs_19 : Cond.fieldLink RX10 19 "SnowCourse" (TX10 1).2.1 (TX10 1).2.2.1 ∈ wsX10_roadAs := by decide +kernel
theorem iX10_roadAs_X10 : ∀ w ∈ u_ws RX10 TX10 9, w ∈ wsX10_roadAs := by decide +kernel
def vc_X10_roadAs (p1 : Int32) (p2 : Int32) (I : MI) (J : MJ) (Q : Int32 → MI → MJ → Prop) : Prop := vc_X1_hasRoad p1 I J (fun (r3 : Int32) (I1 : MI) (J2 : MJ) => ((¬ r3 = 0 → vc_X10_within p2 0 3 I1 J2 (fun (r7 : Int32) (I5 : MI) (J6 : MJ) => ((¬ r7 = 0 → vc_X1_roadIs p1 p2 I5 J6 (fun (r11 : Int32) (I9 : MI) (J10 : MJ) => ((¬ r11 = 0 → vc_X1_afterRoad p1 50 0 0 0 I9 J10 (fun (r15 : Int32) (I13 : MI) (J14 : MJ) => Q r15 I13 J14)) ∧ (r11 = 0 → Q (-4) I9 J10)))) ∧ (r7 = 0 → Q (-3) I5 J6)))) ∧ (r3 = 0 → Q (-2) I1 J2)))
set_option maxRecDepth 100000 in
set_option maxHeartbeats 4000000 in
theorem c_X10_roadAs (l : Launch) (E : ET)  (p1 : Int32) (p2 : Int32) : CI l yX10_roadAs wsX10_roadAs rmX10_roadAs E [.ref (ea E 0), .int p1, .int p2] (vc_X10_roadAs p1 p2) := by
  refine CI.of (cc := cX10_roadAs) (maxL := 3) (own := RX10) (by decide) rfl rfl (Nat.le_of_ble_eq_true rfl) ?_
  intro Z I J Q hE hl X R h
  subst hE
  subst hl
  show GW Z 3 I J 0 [(0, .ref (ea (zE Z) 0)), (1, .int p1), (2, .int p2)] []
  refine g_aload_n X dX10_roadAs_0 rfl 0 rfl ?_
  refine g_getr X (C := RX10) (T := TX10) (N := 9) (ci := 8) (k := 1) iX10_roadAs_X10 rfl kX10_roadAs_19 (Nat.le_of_ble_eq_true rfl) rfl (by decide) rfl rfl dX10_roadAs_1 ?_
  refine g_iload_n X dX10_roadAs_4 rfl 1 rfl ?_
  refine g_callVI X (As := [.int p1]) (rest := []) (T := TX1) (N := 12) (c_X1_hasRoad (zl Z) (zE Z) p1) gX10_roadAs_X1_hasRoad yo_X1_hasRoad rfl ⟨Nat.le_of_ble_eq_true rfl, Nat.le_of_ble_eq_true rfl⟩ (Nat.le_of_ble_eq_true rfl) rfl rfl rfl dX10_roadAs_5 h (fun r3 I1 J2 h => ?_)
  refine g_if_ne X (tgt := 14) dX10_roadAs_8 (by decide) (fun c4 => ?_) (fun c4 => ?_)
  · have h := h.1 c4
    refine g_iload_n X dX10_roadAs_14 rfl 2 rfl ?_
    refine g_iconst X (v := 0) dX10_roadAs_15 (by decide) ?_
    refine g_iconst X (v := 3) dX10_roadAs_16 (by decide) ?_
    refine g_callSI X (As := [.int p2, .int 0, .int 3]) (rest := []) (c_X10_within (zl Z) (zE Z) p2 0 3) gX10_roadAs_X10_within yo_X10_within.2 rfl ⟨Nat.le_of_ble_eq_true rfl, Nat.le_of_ble_eq_true rfl⟩ rfl dX10_roadAs_17 h (fun r7 I5 J6 h => ?_)
    refine g_if_ne X (tgt := 26) dX10_roadAs_20 (by decide) (fun c8 => ?_) (fun c8 => ?_)
    · have h := h.1 c8
      refine g_aload_n X dX10_roadAs_26 rfl 0 rfl ?_
      refine g_getr X (C := RX10) (T := TX10) (N := 9) (ci := 8) (k := 1) iX10_roadAs_X10 rfl kX10_roadAs_19 (Nat.le_of_ble_eq_true rfl) rfl (by decide) rfl rfl dX10_roadAs_27 ?_
      refine g_iload_n X dX10_roadAs_30 rfl 1 rfl ?_
      refine g_iload_n X dX10_roadAs_31 rfl 2 rfl ?_
      refine g_callVI X (As := [.int p1, .int p2]) (rest := []) (T := TX1) (N := 12) (c_X1_roadIs (zl Z) (zE Z) p1 p2) gX10_roadAs_X1_roadIs yo_X1_roadIs rfl ⟨Nat.le_of_ble_eq_true rfl, Nat.le_of_ble_eq_true rfl⟩ (Nat.le_of_ble_eq_true rfl) rfl rfl rfl dX10_roadAs_32 h (fun r11 I9 J10 h => ?_)
      refine g_if_ne X (tgt := 41) dX10_roadAs_35 (by decide) (fun c12 => ?_) (fun c12 => ?_)
      · have h := h.1 c12
        refine g_aload_n X dX10_roadAs_41 rfl 0 rfl ?_
        refine g_getr X (C := RX10) (T := TX10) (N := 9) (ci := 8) (k := 1) iX10_roadAs_X10 rfl kX10_roadAs_19 (Nat.le_of_ble_eq_true rfl) rfl (by decide) rfl rfl dX10_roadAs_42 ?_
        refine g_iload_n X dX10_roadAs_45 rfl 1 rfl ?_
        refine g_bipush X (v := 50) dX10_roadAs_46 (by decide) ?_
        refine g_iconst X (v := 0) dX10_roadAs_48 (by decide) ?_
        refine g_iconst X (v := 0) dX10_roadAs_49 (by decide) ?_
        refine g_iconst X (v := 0) dX10_roadAs_50 (by decide) ?_
        refine g_callVI X (As := [.int p1, .int 50, .int 0, .int 0, .int 0]) (rest := []) (T := TX1) (N := 12) (c_X1_afterRoad (zl Z) (zE Z) p1 50 0 0 0) gX10_roadAs_X1_afterRoad yo_X1_afterRoad rfl ⟨Nat.le_of_ble_eq_true rfl, Nat.le_of_ble_eq_true rfl⟩ (Nat.le_of_ble_eq_true rfl) rfl rfl rfl dX10_roadAs_51 h (fun r15 I13 J14 h => ?_)
        exact g_iret X R dX10_roadAs_54 h
      · have h := h.2 c12
        refine g_bipush X (v := (-4)) dX10_roadAs_38 (by decide) ?_
        exact g_iret X R dX10_roadAs_40 h
    · have h := h.2 c8
      refine g_bipush X (v := (-3)) dX10_roadAs_23 (by decide) ?_
      exact g_iret X R dX10_roadAs_25 h
  · have h := h.2 c4
    refine g_bipush X (v := (-2)) dX10_roadAs_11 (by decide) ?_
    exact g_iret X R dX10_roadAs_13 h

/-! X10_price.price(I)I -/
def rmX10_price : Room := { frames := 1, cells := 0, slots := 0, locals := 22 }
theorem yo_X10_price : yX10_price.cls = RX10 ∧ yX10_price.cls ≠ "java/lang/invoke/MethodHandle" ∧ yX10_price.cls ≠ "java/lang/invoke/VarHandle" ∧ (parseMethodDescriptor yX10_price.desc).map (fun d => d.parameters.length) = some 1 := by decide +kernel
def vc_X10_price (p1 : Int32) (I : MI) (J : MJ) (Q : Int32 → MI → MJ → Prop) : Prop := vc_X10_within p1 0 48 I J (fun (r3 : Int32) (I1 : MI) (J2 : MJ) => ((r3 = 0 → Q (-3) I1 J2) ∧ (¬ r3 = 0 → vc_X2_priceIn p1 I1 J2 (fun (r7 : Int32) (I5 : MI) (J6 : MJ) => Q r7 I5 J6))))
set_option maxRecDepth 100000 in
set_option maxHeartbeats 4000000 in
theorem c_X10_price (l : Launch) (E : ET)  (p1 : Int32) : CI l yX10_price wsX10_price rmX10_price E [.ref (ea E 0), .int p1] (vc_X10_price p1) := by
  refine CI.of (cc := cX10_price) (maxL := 2) (own := RX10) (by decide) rfl rfl (Nat.le_of_ble_eq_true rfl) ?_
  intro Z I J Q hE hl X R h
  subst hE
  subst hl
  show GW Z 2 I J 0 [(0, .ref (ea (zE Z) 0)), (1, .int p1)] []
  refine g_iload_n X dX10_price_0 rfl 1 rfl ?_
  refine g_iconst X (v := 0) dX10_price_1 (by decide) ?_
  refine g_bipush X (v := 48) dX10_price_2 (by decide) ?_
  refine g_callSI X (As := [.int p1, .int 0, .int 48]) (rest := []) (c_X10_within (zl Z) (zE Z) p1 0 48) gX10_price_X10_within yo_X10_within.2 rfl ⟨Nat.le_of_ble_eq_true rfl, Nat.le_of_ble_eq_true rfl⟩ rfl dX10_price_4 h (fun r3 I1 J2 h => ?_)
  refine g_if_eq X (tgt := 17) dX10_price_7 (by decide) (fun c4 => ?_) (fun c4 => ?_)
  · have h := h.1 c4
    refine g_bipush X (v := (-3)) dX10_price_17 (by decide) ?_
    exact g_iret X R dX10_price_19 h
  · have h := h.2 c4
    refine g_iload_n X dX10_price_10 rfl 1 rfl ?_
    refine g_callSI X (As := [.int p1]) (rest := []) (c_X2_priceIn (zl Z) (zE Z) p1) gX10_price_X2_priceIn yo_X2_priceIn.2 rfl ⟨Nat.le_of_ble_eq_true rfl, Nat.le_of_ble_eq_true rfl⟩ rfl dX10_price_11 h (fun r7 I5 J6 h => ?_)
    refine g_goto X (tgt := 19) dX10_price_14 (by decide) ?_
    exact g_iret X R dX10_price_19 h
