/-! X10_undo.undo()I -/
def rmX10_undo : Room := { frames := 3, cells := 0, slots := 0, locals := 71 }
theorem yo_X10_undo : yX10_undo.cls = RX10 ∧ yX10_undo.cls ≠ "java/lang/invoke/MethodHandle" ∧ yX10_undo.cls ≠ "java/lang/invoke/VarHandle" ∧ (parseMethodDescriptor yX10_undo.desc).map (fun d => d.parameters.length) = some 0 := by decide +kernel
theorem kX10_undo_26 : Cond.fieldLink RX10 26 "SnowCourse" (TX10 2).2.1 (TX10 2).2.2.1 ∈ wsX10_undo := by decide +kernel
theorem iX10_undo_X10 : ∀ w ∈ u_ws RX10 TX10 9, w ∈ wsX10_undo := by decide +kernel
theorem kX10_undo_208 : Cond.fieldLink RX10 208 "SnowCourse$Chronicle" (TX0 5).2.1 (TX0 5).2.2.1 ∈ wsX10_undo := by decide +kernel
theorem iX10_undo_X0 : ∀ w ∈ u_ws RX0 TX0 6, w ∈ wsX10_undo := by decide +kernel
def vc_X10_undo  (I : MI) (J : MJ) (Q : Int32 → MI → MJ → Prop) : Prop := vc_X0_recall  I J (fun (r3 : Int32) (I1 : MI) (J2 : MJ) => ((r3 = 0 → Q (-4) I1 J2) ∧ (¬ r3 = 0 → Q (I1 14 5) I1 J2)))
set_option maxRecDepth 100000 in
set_option maxHeartbeats 4000000 in
theorem c_X10_undo (l : Launch) (E : ET)   : CI l yX10_undo wsX10_undo rmX10_undo E [.ref (ea E 0)] (vc_X10_undo ) := by
  refine CI.of (cc := cX10_undo) (maxL := 1) (own := RX10) (by decide) rfl rfl (Nat.le_of_ble_eq_true rfl) ?_
  intro Z I J Q hE hl X R h
  subst hE
  subst hl
  show GW Z 1 I J 0 [(0, .ref (ea (zE Z) 0))] []
  refine g_aload_n X dX10_undo_0 rfl 0 rfl ?_
  refine g_getr X (C := RX10) (T := TX10) (N := 9) (ci := 8) (k := 2) iX10_undo_X10 rfl kX10_undo_26 (Nat.le_of_ble_eq_true rfl) rfl (by decide) rfl rfl dX10_undo_1 ?_
  refine g_callVI X (As := []) (rest := []) (T := TX0) (N := 6) (c_X0_recall (zl Z) (zE Z) ) gX10_undo_X0_recall yo_X0_recall rfl ⟨Nat.le_of_ble_eq_true rfl, Nat.le_of_ble_eq_true rfl⟩ (Nat.le_of_ble_eq_true rfl) rfl rfl rfl dX10_undo_4 h (fun r3 I1 J2 h => ?_)
  refine g_if_eq X (tgt := 20) dX10_undo_7 (by decide) (fun c4 => ?_) (fun c4 => ?_)
  · have h := h.1 c4
    refine g_bipush X (v := (-4)) dX10_undo_20 (by decide) ?_
    exact g_iret X R dX10_undo_22 h
  · have h := h.2 c4
    refine g_aload_n X dX10_undo_10 rfl 0 rfl ?_
    refine g_getr X (C := RX10) (T := TX10) (N := 9) (ci := 8) (k := 2) iX10_undo_X10 rfl kX10_undo_26 (Nat.le_of_ble_eq_true rfl) rfl (by decide) rfl rfl dX10_undo_11 ?_
    refine g_geti X (C := RX0) (T := TX0) (N := 6) (ci := 0) (k := 5) iX10_undo_X0 rfl kX10_undo_208 (Nat.le_of_ble_eq_true rfl) rfl (by decide) rfl rfl dX10_undo_14 ?_
    refine g_goto X (tgt := 22) dX10_undo_17 (by decide) ?_
    exact g_iret X R dX10_undo_22 h

/-! X10_keep.keep(I)I -/
def rmX10_keep : Room := { frames := 3, cells := 0, slots := 0, locals := 72 }
theorem yo_X10_keep : yX10_keep.cls = RX10 ∧ yX10_keep.cls ≠ "java/lang/invoke/MethodHandle" ∧ yX10_keep.cls ≠ "java/lang/invoke/VarHandle" ∧ (parseMethodDescriptor yX10_keep.desc).map (fun d => d.parameters.length) = some 1 := by decide +kernel
theorem kX10_keep_26 : Cond.fieldLink RX10 26 "SnowCourse" (TX10 2).2.1 (TX10 2).2.2.1 ∈ wsX10_keep := by decide +kernel
theorem iX10_keep_X10 : ∀ w ∈ u_ws RX10 TX10 9, w ∈ wsX10_keep := by decide +kernel
def vc_X10_keep (p1 : Int32) (I : MI) (J : MJ) (Q : Int32 → MI → MJ → Prop) : Prop := vc_X10_within p1 0 1 I J (fun (r3 : Int32) (I1 : MI) (J2 : MJ) => ((¬ r3 = 0 → vc_X0_preserve p1 I1 J2 (fun (I5 : MI) (J6 : MJ) => Q p1 I5 J6)) ∧ (r3 = 0 → Q (-2) I1 J2)))
set_option maxRecDepth 100000 in
set_option maxHeartbeats 4000000 in
theorem c_X10_keep (l : Launch) (E : ET)  (p1 : Int32) : CI l yX10_keep wsX10_keep rmX10_keep E [.ref (ea E 0), .int p1] (vc_X10_keep p1) := by
  refine CI.of (cc := cX10_keep) (maxL := 2) (own := RX10) (by decide) rfl rfl (Nat.le_of_ble_eq_true rfl) ?_
  intro Z I J Q hE hl X R h
  subst hE
  subst hl
  show GW Z 2 I J 0 [(0, .ref (ea (zE Z) 0)), (1, .int p1)] []
  refine g_iload_n X dX10_keep_0 rfl 1 rfl ?_
  refine g_iconst X (v := 0) dX10_keep_1 (by decide) ?_
  refine g_iconst X (v := 1) dX10_keep_2 (by decide) ?_
  refine g_callSI X (As := [.int p1, .int 0, .int 1]) (rest := []) (c_X10_within (zl Z) (zE Z) p1 0 1) gX10_keep_X10_within yo_X10_within.2 rfl ⟨Nat.le_of_ble_eq_true rfl, Nat.le_of_ble_eq_true rfl⟩ rfl dX10_keep_3 h (fun r3 I1 J2 h => ?_)
  refine g_if_ne X (tgt := 12) dX10_keep_6 (by decide) (fun c4 => ?_) (fun c4 => ?_)
  · have h := h.1 c4
    refine g_aload_n X dX10_keep_12 rfl 0 rfl ?_
    refine g_getr X (C := RX10) (T := TX10) (N := 9) (ci := 8) (k := 2) iX10_keep_X10 rfl kX10_keep_26 (Nat.le_of_ble_eq_true rfl) rfl (by decide) rfl rfl dX10_keep_13 ?_
    refine g_iload_n X dX10_keep_16 rfl 1 rfl ?_
    refine g_callVV X (As := [.int p1]) (rest := []) (T := TX0) (N := 6) (c_X0_preserve (zl Z) (zE Z) p1) gX10_keep_X0_preserve yo_X0_preserve rfl ⟨Nat.le_of_ble_eq_true rfl, Nat.le_of_ble_eq_true rfl⟩ (Nat.le_of_ble_eq_true rfl) rfl rfl rfl dX10_keep_17 h (fun  I5 J6 h => ?_)
    refine g_iload_n X dX10_keep_20 rfl 1 rfl ?_
    exact g_iret X R dX10_keep_21 h
  · have h := h.2 c4
    refine g_bipush X (v := (-2)) dX10_keep_9 (by decide) ?_
    exact g_iret X R dX10_keep_11 h

/-! X10_back.back(I)I -/
def rmX10_back : Room := { frames := 3, cells := 0, slots := 0, locals := 72 }
theorem yo_X10_back : yX10_back.cls = RX10 ∧ yX10_back.cls ≠ "java/lang/invoke/MethodHandle" ∧ yX10_back.cls ≠ "java/lang/invoke/VarHandle" ∧ (parseMethodDescriptor yX10_back.desc).map (fun d => d.parameters.length) = some 1 := by decide +kernel
theorem kX10_back_26 : Cond.fieldLink RX10 26 "SnowCourse" (TX10 2).2.1 (TX10 2).2.2.1 ∈ wsX10_back := by decide +kernel
theorem iX10_back_X10 : ∀ w ∈ u_ws RX10 TX10 9, w ∈ wsX10_back := by decide +kernel
def vc_X10_back (p1 : Int32) (I : MI) (J : MJ) (Q : Int32 → MI → MJ → Prop) : Prop := vc_X10_within p1 0 1 I J (fun (r3 : Int32) (I1 : MI) (J2 : MJ) => ((¬ r3 = 0 → vc_X0_restore p1 I1 J2 (fun (r7 : Int32) (I5 : MI) (J6 : MJ) => ((r7 = 0 → Q (-4) I5 J6) ∧ (¬ r7 = 0 → Q p1 I5 J6)))) ∧ (r3 = 0 → Q (-2) I1 J2)))
set_option maxRecDepth 100000 in
set_option maxHeartbeats 4000000 in
theorem c_X10_back (l : Launch) (E : ET)  (p1 : Int32) : CI l yX10_back wsX10_back rmX10_back E [.ref (ea E 0), .int p1] (vc_X10_back p1) := by
  refine CI.of (cc := cX10_back) (maxL := 2) (own := RX10) (by decide) rfl rfl (Nat.le_of_ble_eq_true rfl) ?_
  intro Z I J Q hE hl X R h
  subst hE
  subst hl
  show GW Z 2 I J 0 [(0, .ref (ea (zE Z) 0)), (1, .int p1)] []
  refine g_iload_n X dX10_back_0 rfl 1 rfl ?_
  refine g_iconst X (v := 0) dX10_back_1 (by decide) ?_
  refine g_iconst X (v := 1) dX10_back_2 (by decide) ?_
  refine g_callSI X (As := [.int p1, .int 0, .int 1]) (rest := []) (c_X10_within (zl Z) (zE Z) p1 0 1) gX10_back_X10_within yo_X10_within.2 rfl ⟨Nat.le_of_ble_eq_true rfl, Nat.le_of_ble_eq_true rfl⟩ rfl dX10_back_3 h (fun r3 I1 J2 h => ?_)
  refine g_if_ne X (tgt := 12) dX10_back_6 (by decide) (fun c4 => ?_) (fun c4 => ?_)
  · have h := h.1 c4
    refine g_aload_n X dX10_back_12 rfl 0 rfl ?_
    refine g_getr X (C := RX10) (T := TX10) (N := 9) (ci := 8) (k := 2) iX10_back_X10 rfl kX10_back_26 (Nat.le_of_ble_eq_true rfl) rfl (by decide) rfl rfl dX10_back_13 ?_
    refine g_iload_n X dX10_back_16 rfl 1 rfl ?_
    refine g_callVI X (As := [.int p1]) (rest := []) (T := TX0) (N := 6) (c_X0_restore (zl Z) (zE Z) p1) gX10_back_X0_restore yo_X0_restore rfl ⟨Nat.le_of_ble_eq_true rfl, Nat.le_of_ble_eq_true rfl⟩ (Nat.le_of_ble_eq_true rfl) rfl rfl rfl dX10_back_17 h (fun r7 I5 J6 h => ?_)
    refine g_if_eq X (tgt := 27) dX10_back_20 (by decide) (fun c8 => ?_) (fun c8 => ?_)
    · have h := h.1 c8
      refine g_bipush X (v := (-4)) dX10_back_27 (by decide) ?_
      exact g_iret X R dX10_back_29 h
    · have h := h.2 c8
      refine g_iload_n X dX10_back_23 rfl 1 rfl ?_
      refine g_goto X (tgt := 29) dX10_back_24 (by decide) ?_
      exact g_iret X R dX10_back_29 h
  · have h := h.2 c4
    refine g_bipush X (v := (-2)) dX10_back_9 (by decide) ?_
    exact g_iret X R dX10_back_11 h
