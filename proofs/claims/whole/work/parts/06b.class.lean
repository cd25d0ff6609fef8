/-! X10_fill.fill(II)I -/
def rmX10_fill : Room := { frames := 3, cells := 0, slots := 0, locals := 71 }
theorem yo_X10_fill : yX10_fill.cls = RX10 ∧ yX10_fill.cls ≠ "java/lang/invoke/MethodHandle" ∧ yX10_fill.cls ≠ "java/lang/invoke/VarHandle" ∧ (parseMethodDescriptor yX10_fill.desc).map (fun d => d.parameters.length) = some 2 := by decide +kernel
theorem kX10_fill_19 : Cond.fieldLink RX10 19 "SnowCourse" (TX10 1).2.1 (TX10 1).2.2.1 ∈ wsX10_fill := by decide +kernel
theorem iX10_fill_X10 : ∀ w ∈ u_ws RX10 TX10 9, w ∈ wsX10_fill := by decide +kernel
theorem kX10_fill_26 : Cond.fieldLink RX10 26 "SnowCourse" (TX10 2).2.1 (TX10 2).2.2.1 ∈ wsX10_fill := by decide +kernel
theorem kX10_fill_101 : Cond.fieldLink RX10 101 "SnowCourse$Chronicle" (TX0 0).2.1 (TX0 0).2.2.1 ∈ wsX10_fill := by decide +kernel
theorem iX10_fill_X0 : ∀ w ∈ u_ws RX0 TX0 6, w ∈ wsX10_fill := by decide +kernel
theorem kX10_fill_151 : Cond.fieldLink RX10 151 "SnowCourse$Standing" (TX7 2).2.1 (TX7 2).2.2.1 ∈ wsX10_fill := by decide +kernel
theorem iX10_fill_X7 : ∀ w ∈ u_ws RX7 TX7 5, w ∈ wsX10_fill := by decide +kernel
def vc_X10_fill (p1 : Int32) (p2 : Int32) (I : MI) (J : MJ) (Q : Int32 → MI → MJ → Prop) : Prop := vc_X1_hasCart p1 I J (fun (r3 : Int32) (I1 : MI) (J2 : MJ) => ((¬ r3 = 0 → vc_X10_within p2 1 99 I1 J2 (fun (r7 : Int32) (I5 : MI) (J6 : MJ) => ((¬ r7 = 0 → vc_X10_isIn p1 1 I5 J6 (fun (r11 : Int32) (I9 : MI) (J10 : MJ) => ((¬ r11 = 0 → vp_in p1 4 ∧ ((((I9 35 (Int32.toNatClampNeg p1)) + p2) ≤ 99 → vc_X0_remember  I9 J10 (fun (I15 : MI) (J16 : MJ) => vp_in p1 4 ∧ vp_in p1 4 ∧ ∀ I19 : MI, I19 = wI I15 35 (Int32.toNatClampNeg p1) ((I15 35 (Int32.toNatClampNeg p1)) + p2) → vp_in p1 4 ∧ Q (I19 35 (Int32.toNatClampNeg p1)) I19 J16)) ∧ (¬ ((I9 35 (Int32.toNatClampNeg p1)) + p2) ≤ 99 → Q (-5) I9 J10))) ∧ (r11 = 0 → Q (-4) I9 J10)))) ∧ (r7 = 0 → Q (-3) I5 J6)))) ∧ (r3 = 0 → Q (-2) I1 J2)))
set_option maxRecDepth 100000 in
set_option maxHeartbeats 4000000 in
theorem c_X10_fill (l : Launch) (E : ET)  (p1 : Int32) (p2 : Int32) : CI l yX10_fill wsX10_fill rmX10_fill E [.ref (ea E 0), .int p1, .int p2] (vc_X10_fill p1 p2) := by
  refine CI.of (cc := cX10_fill) (maxL := 4) (own := RX10) (by decide) rfl rfl (Nat.le_of_ble_eq_true rfl) ?_
  intro Z I J Q hE hl X R h
  subst hE
  subst hl
  show GW Z 4 I J 0 [(0, .ref (ea (zE Z) 0)), (1, .int p1), (2, .int p2)] []
  refine g_aload_n X dX10_fill_0 rfl 0 rfl ?_
  refine g_getr X (C := RX10) (T := TX10) (N := 9) (ci := 8) (k := 1) iX10_fill_X10 rfl kX10_fill_19 (Nat.le_of_ble_eq_true rfl) rfl (by decide) rfl rfl dX10_fill_1 ?_
  refine g_iload_n X dX10_fill_4 rfl 1 rfl ?_
  refine g_callVI X (As := [.int p1]) (rest := []) (T := TX1) (N := 12) (c_X1_hasCart (zl Z) (zE Z) p1) gX10_fill_X1_hasCart yo_X1_hasCart rfl ⟨Nat.le_of_ble_eq_true rfl, Nat.le_of_ble_eq_true rfl⟩ (Nat.le_of_ble_eq_true rfl) rfl rfl rfl dX10_fill_5 h (fun r3 I1 J2 h => ?_)
  refine g_if_ne X (tgt := 14) dX10_fill_8 (by decide) (fun c4 => ?_) (fun c4 => ?_)
  · have h := h.1 c4
    refine g_iload_n X dX10_fill_14 rfl 2 rfl ?_
    refine g_iconst X (v := 1) dX10_fill_15 (by decide) ?_
    refine g_bipush X (v := 99) dX10_fill_16 (by decide) ?_
    refine g_callSI X (As := [.int p2, .int 1, .int 99]) (rest := []) (c_X10_within (zl Z) (zE Z) p2 1 99) gX10_fill_X10_within yo_X10_within.2 rfl ⟨Nat.le_of_ble_eq_true rfl, Nat.le_of_ble_eq_true rfl⟩ rfl dX10_fill_18 h (fun r7 I5 J6 h => ?_)
    refine g_if_ne X (tgt := 27) dX10_fill_21 (by decide) (fun c8 => ?_) (fun c8 => ?_)
    · have h := h.1 c8
      refine g_aload_n X dX10_fill_27 rfl 0 rfl ?_
      refine g_getr X (C := RX10) (T := TX10) (N := 9) (ci := 8) (k := 2) iX10_fill_X10 rfl kX10_fill_26 (Nat.le_of_ble_eq_true rfl) rfl (by decide) rfl rfl dX10_fill_28 ?_
      refine g_getr X (C := RX0) (T := TX0) (N := 6) (ci := 0) (k := 0) iX10_fill_X0 rfl kX10_fill_101 (Nat.le_of_ble_eq_true rfl) rfl (by decide) rfl rfl dX10_fill_31 ?_
      refine g_astore_n X (lv' := [(3, .ref (ea (zE Z) 32)), (0, .ref (ea (zE Z) 0)), (1, .int p1), (2, .int p2)]) dX10_fill_34 rfl (by decide) rfl ?_
      refine g_aload_n X dX10_fill_35 rfl 1 rfl ?_
      refine g_iload_n X dX10_fill_36 rfl 2 rfl ?_
      refine g_iconst X (v := 1) dX10_fill_37 (by decide) ?_
      refine g_callVI X (As := [.int p1, .int 1]) (rest := []) (T := TX10) (N := 9) (c_X10_isIn (zl Z) (zE Z) p1 1) gX10_fill_X10_isIn yo_X10_isIn rfl ⟨Nat.le_of_ble_eq_true rfl, Nat.le_of_ble_eq_true rfl⟩ (Nat.le_of_ble_eq_true rfl) rfl rfl rfl dX10_fill_38 h (fun r11 I9 J10 h => ?_)
      refine g_if_ne X (tgt := 47) dX10_fill_41 (by decide) (fun c12 => ?_) (fun c12 => ?_)
      · have h := h.1 c12
        refine g_aload_n X dX10_fill_47 rfl 0 rfl ?_
        refine g_getr X (C := RX7) (T := TX7) (N := 5) (ci := 5) (k := 2) iX10_fill_X7 rfl kX10_fill_151 (Nat.le_of_ble_eq_true rfl) rfl (by decide) rfl rfl dX10_fill_48 ?_
        refine g_iload_n X dX10_fill_51 rfl 2 rfl ?_
        obtain ⟨b13, h⟩ := h
        refine g_iald X (Nat.le_of_ble_eq_true rfl) rfl b13 dX10_fill_52 ?_
        refine g_iload_n X dX10_fill_53 rfl 3 rfl ?_
        refine g_iadd X dX10_fill_54 ?_
        refine g_bipush X (v := 99) dX10_fill_55 (by decide) ?_
        refine g_icmp_le X (tgt := 63) dX10_fill_57 (by decide) (fun c14 => ?_) (fun c14 => ?_)
        · have h := h.1 c14
          refine g_aload_n X dX10_fill_63 rfl 1 rfl ?_
          refine g_getr X (C := RX10) (T := TX10) (N := 9) (ci := 8) (k := 2) iX10_fill_X10 rfl kX10_fill_26 (Nat.le_of_ble_eq_true rfl) rfl (by decide) rfl rfl dX10_fill_64 ?_
          refine g_callVV X (As := []) (rest := []) (T := TX0) (N := 6) (c_X0_remember (zl Z) (zE Z) ) gX10_fill_X0_remember yo_X0_remember rfl ⟨Nat.le_of_ble_eq_true rfl, Nat.le_of_ble_eq_true rfl⟩ (Nat.le_of_ble_eq_true rfl) rfl rfl rfl dX10_fill_67 h (fun  I15 J16 h => ?_)
          refine g_aload_n X dX10_fill_70 rfl 0 rfl ?_
          refine g_getr X (C := RX7) (T := TX7) (N := 5) (ci := 5) (k := 2) iX10_fill_X7 rfl kX10_fill_151 (Nat.le_of_ble_eq_true rfl) rfl (by decide) rfl rfl dX10_fill_71 ?_
          refine g_iload_n X dX10_fill_74 rfl 2 rfl ?_
          refine g_dup2 X dX10_fill_75 rfl rfl ?_
          obtain ⟨b17, h⟩ := h
          refine g_iald X (Nat.le_of_ble_eq_true rfl) rfl b17 dX10_fill_76 ?_
          refine g_iload_n X dX10_fill_77 rfl 3 rfl ?_
          refine g_iadd X dX10_fill_78 ?_
          obtain ⟨b18, h⟩ := h
          refine g_iast X (Nat.le_of_ble_eq_true rfl) rfl b18 dX10_fill_79 ?_
          refine g_nmI (fun I19 eI19 => ?_)
          have h := h I19 eI19
          refine g_aload_n X dX10_fill_80 rfl 0 rfl ?_
          refine g_getr X (C := RX7) (T := TX7) (N := 5) (ci := 5) (k := 2) iX10_fill_X7 rfl kX10_fill_151 (Nat.le_of_ble_eq_true rfl) rfl (by decide) rfl rfl dX10_fill_81 ?_
          refine g_iload_n X dX10_fill_84 rfl 2 rfl ?_
          obtain ⟨b20, h⟩ := h
          refine g_iald X (Nat.le_of_ble_eq_true rfl) rfl b20 dX10_fill_85 ?_
          exact g_iret X R dX10_fill_86 h
        · have h := h.2 c14
          refine g_bipush X (v := (-5)) dX10_fill_60 (by decide) ?_
          exact g_iret X R dX10_fill_62 h
      · have h := h.2 c12
        refine g_bipush X (v := (-4)) dX10_fill_44 (by decide) ?_
        exact g_iret X R dX10_fill_46 h
    · have h := h.2 c8
      refine g_bipush X (v := (-3)) dX10_fill_24 (by decide) ?_
      exact g_iret X R dX10_fill_26 h
  · have h := h.2 c4
    refine g_bipush X (v := (-2)) dX10_fill_11 (by decide) ?_
    exact g_iret X R dX10_fill_13 h

/-! X10_go.go(II)I -/
def rmX10_go : Room := { frames := 4, cells := 0, slots := 0, locals := 103 }
theorem yo_X10_go : yX10_go.cls = RX10 ∧ yX10_go.cls ≠ "java/lang/invoke/MethodHandle" ∧ yX10_go.cls ≠ "java/lang/invoke/VarHandle" ∧ (parseMethodDescriptor yX10_go.desc).map (fun d => d.parameters.length) = some 2 := by decide +kernel
theorem kX10_go_19 : Cond.fieldLink RX10 19 "SnowCourse" (TX10 1).2.1 (TX10 1).2.2.1 ∈ wsX10_go := by decide +kernel
theorem iX10_go_X10 : ∀ w ∈ u_ws RX10 TX10 9, w ∈ wsX10_go := by decide +kernel
theorem kX10_go_26 : Cond.fieldLink RX10 26 "SnowCourse" (TX10 2).2.1 (TX10 2).2.2.1 ∈ wsX10_go := by decide +kernel
theorem kX10_go_101 : Cond.fieldLink RX10 101 "SnowCourse$Chronicle" (TX0 0).2.1 (TX0 0).2.2.1 ∈ wsX10_go := by decide +kernel
theorem iX10_go_X0 : ∀ w ∈ u_ws RX0 TX0 6, w ∈ wsX10_go := by decide +kernel
theorem kX10_go_145 : Cond.fieldLink RX10 145 "SnowCourse$Standing" (TX7 0).2.1 (TX7 0).2.2.1 ∈ wsX10_go := by decide +kernel
theorem iX10_go_X7 : ∀ w ∈ u_ws RX7 TX7 5, w ∈ wsX10_go := by decide +kernel
theorem kX10_go_151 : Cond.fieldLink RX10 151 "SnowCourse$Standing" (TX7 2).2.1 (TX7 2).2.2.1 ∈ wsX10_go := by decide +kernel
theorem kX10_go_148 : Cond.fieldLink RX10 148 "SnowCourse$Standing" (TX7 1).2.1 (TX7 1).2.2.1 ∈ wsX10_go := by decide +kernel
theorem kX10_go_133 : Cond.fieldLink RX10 133 "SnowCourse$Country" (TX1 4).2.1 (TX1 4).2.2.1 ∈ wsX10_go := by decide +kernel
theorem iX10_go_X1 : ∀ w ∈ u_ws RX1 TX1 12, w ∈ wsX10_go := by decide +kernel
def vc_X10_go (p1 : Int32) (p2 : Int32) (I : MI) (J : MJ) (Q : Int32 → MI → MJ → Prop) : Prop := vc_X1_hasCart p1 I J (fun (r3 : Int32) (I1 : MI) (J2 : MJ) => ((r3 = 0 → Q (-2) I1 J2) ∧ (¬ r3 = 0 → vc_X1_hasRoad p2 I1 J2 (fun (r7 : Int32) (I5 : MI) (J6 : MJ) => ((¬ r7 = 0 → vp_in p1 4 ∧ vc_X1_touches p2 (I5 33 (Int32.toNatClampNeg p1)) I5 J6 (fun (r12 : Int32) (I10 : MI) (J11 : MJ) => ((¬ r12 = 0 → vc_X10_comesInTime p1 p2 I10 J11 (fun (r16 : Int32) (I14 : MI) (J15 : MJ) => ((¬ r16 = 0 → vc_X10_afterGoing p1 p2 I14 J15 (fun (r20 : Int32) (I18 : MI) (J19 : MJ) => vc_X0_remember  I18 J19 (fun (I21 : MI) (J22 : MJ) => vp_in p1 4 ∧ ∀ I24 : MI, I24 = wI I21 35 (Int32.toNatClampNeg p1) r20 → vp_in p1 4 ∧ vc_X1_farEnd p2 (I24 33 (Int32.toNatClampNeg p1)) I24 J22 (fun (r28 : Int32) (I26 : MI) (J27 : MJ) => vp_in p1 4 ∧ ∀ I30 : MI, I30 = wI I26 33 (Int32.toNatClampNeg p1) r28 → vp_in p1 4 ∧ vp_in p2 9 ∧ vp_in p1 4 ∧ ∀ I34 : MI, I34 = wI I30 34 (Int32.toNatClampNeg p1) ((I30 34 (Int32.toNatClampNeg p1)) + (I30 10 (Int32.toNatClampNeg p2))) → Q r20 I34 J27)))) ∧ (r16 = 0 → Q (-5) I14 J15)))) ∧ (r12 = 0 → Q (-4) I10 J11)))) ∧ (r7 = 0 → Q (-2) I5 J6))))))
set_option maxRecDepth 100000 in
set_option maxHeartbeats 4000000 in
theorem c_X10_go (l : Launch) (E : ET)  (p1 : Int32) (p2 : Int32) : CI l yX10_go wsX10_go rmX10_go E [.ref (ea E 0), .int p1, .int p2] (vc_X10_go p1 p2) := by
  refine CI.of (cc := cX10_go) (maxL := 5) (own := RX10) (by decide) rfl rfl (Nat.le_of_ble_eq_true rfl) ?_
  intro Z I J Q hE hl X R h
  subst hE
  subst hl
  show GW Z 5 I J 0 [(0, .ref (ea (zE Z) 0)), (1, .int p1), (2, .int p2)] []
  refine g_aload_n X dX10_go_0 rfl 0 rfl ?_
  refine g_getr X (C := RX10) (T := TX10) (N := 9) (ci := 8) (k := 1) iX10_go_X10 rfl kX10_go_19 (Nat.le_of_ble_eq_true rfl) rfl (by decide) rfl rfl dX10_go_1 ?_
  refine g_iload_n X dX10_go_4 rfl 1 rfl ?_
  refine g_callVI X (As := [.int p1]) (rest := []) (T := TX1) (N := 12) (c_X1_hasCart (zl Z) (zE Z) p1) gX10_go_X1_hasCart yo_X1_hasCart rfl ⟨Nat.le_of_ble_eq_true rfl, Nat.le_of_ble_eq_true rfl⟩ (Nat.le_of_ble_eq_true rfl) rfl rfl rfl dX10_go_5 h (fun r3 I1 J2 h => ?_)
  refine g_if_eq X (tgt := 22) dX10_go_8 (by decide) (fun c4 => ?_) (fun c4 => ?_)
  · have h := h.1 c4
    refine g_bipush X (v := (-2)) dX10_go_22 (by decide) ?_
    exact g_iret X R dX10_go_24 h
  · have h := h.2 c4
    refine g_aload_n X dX10_go_11 rfl 0 rfl ?_
    refine g_getr X (C := RX10) (T := TX10) (N := 9) (ci := 8) (k := 1) iX10_go_X10 rfl kX10_go_19 (Nat.le_of_ble_eq_true rfl) rfl (by decide) rfl rfl dX10_go_12 ?_
    refine g_iload_n X dX10_go_15 rfl 2 rfl ?_
    refine g_callVI X (As := [.int p2]) (rest := []) (T := TX1) (N := 12) (c_X1_hasRoad (zl Z) (zE Z) p2) gX10_go_X1_hasRoad yo_X1_hasRoad rfl ⟨Nat.le_of_ble_eq_true rfl, Nat.le_of_ble_eq_true rfl⟩ (Nat.le_of_ble_eq_true rfl) rfl rfl rfl dX10_go_16 h (fun r7 I5 J6 h => ?_)
    refine g_if_ne X (tgt := 25) dX10_go_19 (by decide) (fun c8 => ?_) (fun c8 => ?_)
    · have h := h.1 c8
      refine g_aload_n X dX10_go_25 rfl 0 rfl ?_
      refine g_getr X (C := RX10) (T := TX10) (N := 9) (ci := 8) (k := 2) iX10_go_X10 rfl kX10_go_26 (Nat.le_of_ble_eq_true rfl) rfl (by decide) rfl rfl dX10_go_26 ?_
      refine g_getr X (C := RX0) (T := TX0) (N := 6) (ci := 0) (k := 0) iX10_go_X0 rfl kX10_go_101 (Nat.le_of_ble_eq_true rfl) rfl (by decide) rfl rfl dX10_go_29 ?_
      refine g_astore_n X (lv' := [(3, .ref (ea (zE Z) 32)), (0, .ref (ea (zE Z) 0)), (1, .int p1), (2, .int p2)]) dX10_go_32 rfl (by decide) rfl ?_
      refine g_aload_n X dX10_go_33 rfl 1 rfl ?_
      refine g_getr X (C := RX10) (T := TX10) (N := 9) (ci := 8) (k := 1) iX10_go_X10 rfl kX10_go_19 (Nat.le_of_ble_eq_true rfl) rfl (by decide) rfl rfl dX10_go_34 ?_
      refine g_iload_n X dX10_go_37 rfl 3 rfl ?_
      refine g_aload_n X dX10_go_38 rfl 0 rfl ?_
      refine g_getr X (C := RX7) (T := TX7) (N := 5) (ci := 5) (k := 0) iX10_go_X7 rfl kX10_go_145 (Nat.le_of_ble_eq_true rfl) rfl (by decide) rfl rfl dX10_go_39 ?_
      refine g_iload_n X dX10_go_42 rfl 2 rfl ?_
      obtain ⟨b9, h⟩ := h
      refine g_iald X (Nat.le_of_ble_eq_true rfl) rfl b9 dX10_go_43 ?_
      refine g_callVI X (As := [.int p2, .int (I5 33 (Int32.toNatClampNeg p1))]) (rest := []) (T := TX1) (N := 12) (c_X1_touches (zl Z) (zE Z) p2 (I5 33 (Int32.toNatClampNeg p1))) gX10_go_X1_touches yo_X1_touches rfl ⟨Nat.le_of_ble_eq_true rfl, Nat.le_of_ble_eq_true rfl⟩ (Nat.le_of_ble_eq_true rfl) rfl rfl rfl dX10_go_44 h (fun r12 I10 J11 h => ?_)
      refine g_if_ne X (tgt := 53) dX10_go_47 (by decide) (fun c13 => ?_) (fun c13 => ?_)
      · have h := h.1 c13
        refine g_aload_n X dX10_go_53 rfl 1 rfl ?_
        refine g_iload_n X dX10_go_54 rfl 2 rfl ?_
        refine g_iload_n X dX10_go_55 rfl 3 rfl ?_
        refine g_callVI X (As := [.int p1, .int p2]) (rest := []) (T := TX10) (N := 9) (c_X10_comesInTime (zl Z) (zE Z) p1 p2) gX10_go_X10_comesInTime yo_X10_comesInTime rfl ⟨Nat.le_of_ble_eq_true rfl, Nat.le_of_ble_eq_true rfl⟩ (Nat.le_of_ble_eq_true rfl) rfl rfl rfl dX10_go_56 h (fun r16 I14 J15 h => ?_)
        refine g_if_ne X (tgt := 65) dX10_go_59 (by decide) (fun c17 => ?_) (fun c17 => ?_)
        · have h := h.1 c17
          refine g_aload_n X dX10_go_65 rfl 1 rfl ?_
          refine g_iload_n X dX10_go_66 rfl 2 rfl ?_
          refine g_iload_n X dX10_go_67 rfl 3 rfl ?_
          refine g_callVI X (As := [.int p1, .int p2]) (rest := []) (T := TX10) (N := 9) (c_X10_afterGoing (zl Z) (zE Z) p1 p2) gX10_go_X10_afterGoing yo_X10_afterGoing rfl ⟨Nat.le_of_ble_eq_true rfl, Nat.le_of_ble_eq_true rfl⟩ (Nat.le_of_ble_eq_true rfl) rfl rfl rfl dX10_go_68 h (fun r20 I18 J19 h => ?_)
          refine g_istore X (lv' := [(4, .int r20), (3, .ref (ea (zE Z) 32)), (0, .ref (ea (zE Z) 0)), (1, .int p1), (2, .int p2)]) dX10_go_71 (by decide) rfl ?_
          refine g_aload_n X dX10_go_73 rfl 2 rfl ?_
          refine g_getr X (C := RX10) (T := TX10) (N := 9) (ci := 8) (k := 2) iX10_go_X10 rfl kX10_go_26 (Nat.le_of_ble_eq_true rfl) rfl (by decide) rfl rfl dX10_go_74 ?_
          refine g_callVV X (As := []) (rest := []) (T := TX0) (N := 6) (c_X0_remember (zl Z) (zE Z) ) gX10_go_X0_remember yo_X0_remember rfl ⟨Nat.le_of_ble_eq_true rfl, Nat.le_of_ble_eq_true rfl⟩ (Nat.le_of_ble_eq_true rfl) rfl rfl rfl dX10_go_77 h (fun  I21 J22 h => ?_)
          refine g_aload_n X dX10_go_80 rfl 1 rfl ?_
          refine g_getr X (C := RX7) (T := TX7) (N := 5) (ci := 5) (k := 2) iX10_go_X7 rfl kX10_go_151 (Nat.le_of_ble_eq_true rfl) rfl (by decide) rfl rfl dX10_go_81 ?_
          refine g_iload_n X dX10_go_84 rfl 3 rfl ?_
          refine g_iload X dX10_go_85 0 rfl ?_
          obtain ⟨b23, h⟩ := h
          refine g_iast X (Nat.le_of_ble_eq_true rfl) rfl b23 dX10_go_87 ?_
          refine g_nmI (fun I24 eI24 => ?_)
          have h := h I24 eI24
          refine g_aload_n X dX10_go_88 rfl 1 rfl ?_
          refine g_getr X (C := RX7) (T := TX7) (N := 5) (ci := 5) (k := 0) iX10_go_X7 rfl kX10_go_145 (Nat.le_of_ble_eq_true rfl) rfl (by decide) rfl rfl dX10_go_89 ?_
          refine g_iload_n X dX10_go_92 rfl 3 rfl ?_
          refine g_aload_n X dX10_go_93 rfl 2 rfl ?_
          refine g_getr X (C := RX10) (T := TX10) (N := 9) (ci := 8) (k := 1) iX10_go_X10 rfl kX10_go_19 (Nat.le_of_ble_eq_true rfl) rfl (by decide) rfl rfl dX10_go_94 ?_
          refine g_iload_n X dX10_go_97 rfl 4 rfl ?_
          refine g_aload_n X dX10_go_98 rfl 1 rfl ?_
          refine g_getr X (C := RX7) (T := TX7) (N := 5) (ci := 5) (k := 0) iX10_go_X7 rfl kX10_go_145 (Nat.le_of_ble_eq_true rfl) rfl (by decide) rfl rfl dX10_go_99 ?_
          refine g_iload_n X dX10_go_102 rfl 3 rfl ?_
          obtain ⟨b25, h⟩ := h
          refine g_iald X (Nat.le_of_ble_eq_true rfl) rfl b25 dX10_go_103 ?_
          refine g_callVI X (As := [.int p2, .int (I24 33 (Int32.toNatClampNeg p1))]) (rest := [.int p1, .ref (ea (zE Z) 33)]) (T := TX1) (N := 12) (c_X1_farEnd (zl Z) (zE Z) p2 (I24 33 (Int32.toNatClampNeg p1))) gX10_go_X1_farEnd yo_X1_farEnd rfl ⟨Nat.le_of_ble_eq_true rfl, Nat.le_of_ble_eq_true rfl⟩ (Nat.le_of_ble_eq_true rfl) rfl rfl rfl dX10_go_104 h (fun r28 I26 J27 h => ?_)
          obtain ⟨b29, h⟩ := h
          refine g_iast X (Nat.le_of_ble_eq_true rfl) rfl b29 dX10_go_107 ?_
          refine g_nmI (fun I30 eI30 => ?_)
          have h := h I30 eI30
          refine g_aload_n X dX10_go_108 rfl 1 rfl ?_
          refine g_getr X (C := RX7) (T := TX7) (N := 5) (ci := 5) (k := 1) iX10_go_X7 rfl kX10_go_148 (Nat.le_of_ble_eq_true rfl) rfl (by decide) rfl rfl dX10_go_109 ?_
          refine g_iload_n X dX10_go_112 rfl 3 rfl ?_
          refine g_dup2 X dX10_go_113 rfl rfl ?_
          obtain ⟨b31, h⟩ := h
          refine g_iald X (Nat.le_of_ble_eq_true rfl) rfl b31 dX10_go_114 ?_
          refine g_aload_n X dX10_go_115 rfl 2 rfl ?_
          refine g_getr X (C := RX10) (T := TX10) (N := 9) (ci := 8) (k := 1) iX10_go_X10 rfl kX10_go_19 (Nat.le_of_ble_eq_true rfl) rfl (by decide) rfl rfl dX10_go_116 ?_
          refine g_getr X (C := RX1) (T := TX1) (N := 12) (ci := 1) (k := 4) iX10_go_X1 rfl kX10_go_133 (Nat.le_of_ble_eq_true rfl) rfl (by decide) rfl rfl dX10_go_119 ?_
          refine g_iload_n X dX10_go_122 rfl 4 rfl ?_
          obtain ⟨b32, h⟩ := h
          refine g_iald X (Nat.le_of_ble_eq_true rfl) rfl b32 dX10_go_123 ?_
          refine g_iadd X dX10_go_124 ?_
          obtain ⟨b33, h⟩ := h
          refine g_iast X (Nat.le_of_ble_eq_true rfl) rfl b33 dX10_go_125 ?_
          refine g_nmI (fun I34 eI34 => ?_)
          have h := h I34 eI34
          refine g_iload X dX10_go_126 0 rfl ?_
          exact g_iret X R dX10_go_128 h
        · have h := h.2 c17
          refine g_bipush X (v := (-5)) dX10_go_62 (by decide) ?_
          exact g_iret X R dX10_go_64 h
      · have h := h.2 c13
        refine g_bipush X (v := (-4)) dX10_go_50 (by decide) ?_
        exact g_iret X R dX10_go_52 h
    · have h := h.2 c8
      refine g_bipush X (v := (-2)) dX10_go_22 (by decide) ?_
      exact g_iret X R dX10_go_24 h

/-! X10_rest.rest(II)I -/
def rmX10_rest : Room := { frames := 4, cells := 0, slots := 0, locals := 101 }
theorem yo_X10_rest : yX10_rest.cls = RX10 ∧ yX10_rest.cls ≠ "java/lang/invoke/MethodHandle" ∧ yX10_rest.cls ≠ "java/lang/invoke/VarHandle" ∧ (parseMethodDescriptor yX10_rest.desc).map (fun d => d.parameters.length) = some 2 := by decide +kernel
theorem kX10_rest_19 : Cond.fieldLink RX10 19 "SnowCourse" (TX10 1).2.1 (TX10 1).2.2.1 ∈ wsX10_rest := by decide +kernel
theorem iX10_rest_X10 : ∀ w ∈ u_ws RX10 TX10 9, w ∈ wsX10_rest := by decide +kernel
theorem kX10_rest_26 : Cond.fieldLink RX10 26 "SnowCourse" (TX10 2).2.1 (TX10 2).2.2.1 ∈ wsX10_rest := by decide +kernel
theorem kX10_rest_101 : Cond.fieldLink RX10 101 "SnowCourse$Chronicle" (TX0 0).2.1 (TX0 0).2.2.1 ∈ wsX10_rest := by decide +kernel
theorem iX10_rest_X0 : ∀ w ∈ u_ws RX0 TX0 6, w ∈ wsX10_rest := by decide +kernel
theorem kX10_rest_148 : Cond.fieldLink RX10 148 "SnowCourse$Standing" (TX7 1).2.1 (TX7 1).2.2.1 ∈ wsX10_rest := by decide +kernel
theorem iX10_rest_X7 : ∀ w ∈ u_ws RX7 TX7 5, w ∈ wsX10_rest := by decide +kernel
theorem kX10_rest_151 : Cond.fieldLink RX10 151 "SnowCourse$Standing" (TX7 2).2.1 (TX7 2).2.2.1 ∈ wsX10_rest := by decide +kernel
def vc_X10_rest (p1 : Int32) (p2 : Int32) (I : MI) (J : MJ) (Q : Int32 → MI → MJ → Prop) : Prop := vc_X1_hasCart p1 I J (fun (r3 : Int32) (I1 : MI) (J2 : MJ) => ((¬ r3 = 0 → vc_X10_within p2 1 48 I1 J2 (fun (r7 : Int32) (I5 : MI) (J6 : MJ) => ((¬ r7 = 0 → vp_in p1 4 ∧ ((((I5 34 (Int32.toNatClampNeg p1)) + p2) ≤ 48 → vc_X10_afterResting p1 p2 I5 J6 (fun (r13 : Int32) (I11 : MI) (J12 : MJ) => vc_X0_remember  I11 J12 (fun (I14 : MI) (J15 : MJ) => vp_in p1 4 ∧ ∀ I17 : MI, I17 = wI I14 35 (Int32.toNatClampNeg p1) r13 → vp_in p1 4 ∧ vp_in p1 4 ∧ ∀ I20 : MI, I20 = wI I17 34 (Int32.toNatClampNeg p1) ((I17 34 (Int32.toNatClampNeg p1)) + p2) → Q r13 I20 J15))) ∧ (¬ ((I5 34 (Int32.toNatClampNeg p1)) + p2) ≤ 48 → Q (-5) I5 J6))) ∧ (r7 = 0 → Q (-3) I5 J6)))) ∧ (r3 = 0 → Q (-2) I1 J2)))
set_option maxRecDepth 100000 in
set_option maxHeartbeats 4000000 in
theorem c_X10_rest (l : Launch) (E : ET)  (p1 : Int32) (p2 : Int32) : CI l yX10_rest wsX10_rest rmX10_rest E [.ref (ea E 0), .int p1, .int p2] (vc_X10_rest p1 p2) := by
  refine CI.of (cc := cX10_rest) (maxL := 5) (own := RX10) (by decide) rfl rfl (Nat.le_of_ble_eq_true rfl) ?_
  intro Z I J Q hE hl X R h
  subst hE
  subst hl
  show GW Z 5 I J 0 [(0, .ref (ea (zE Z) 0)), (1, .int p1), (2, .int p2)] []
  refine g_aload_n X dX10_rest_0 rfl 0 rfl ?_
  refine g_getr X (C := RX10) (T := TX10) (N := 9) (ci := 8) (k := 1) iX10_rest_X10 rfl kX10_rest_19 (Nat.le_of_ble_eq_true rfl) rfl (by decide) rfl rfl dX10_rest_1 ?_
  refine g_iload_n X dX10_rest_4 rfl 1 rfl ?_
  refine g_callVI X (As := [.int p1]) (rest := []) (T := TX1) (N := 12) (c_X1_hasCart (zl Z) (zE Z) p1) gX10_rest_X1_hasCart yo_X1_hasCart rfl ⟨Nat.le_of_ble_eq_true rfl, Nat.le_of_ble_eq_true rfl⟩ (Nat.le_of_ble_eq_true rfl) rfl rfl rfl dX10_rest_5 h (fun r3 I1 J2 h => ?_)
  refine g_if_ne X (tgt := 14) dX10_rest_8 (by decide) (fun c4 => ?_) (fun c4 => ?_)
  · have h := h.1 c4
    refine g_iload_n X dX10_rest_14 rfl 2 rfl ?_
    refine g_iconst X (v := 1) dX10_rest_15 (by decide) ?_
    refine g_bipush X (v := 48) dX10_rest_16 (by decide) ?_
    refine g_callSI X (As := [.int p2, .int 1, .int 48]) (rest := []) (c_X10_within (zl Z) (zE Z) p2 1 48) gX10_rest_X10_within yo_X10_within.2 rfl ⟨Nat.le_of_ble_eq_true rfl, Nat.le_of_ble_eq_true rfl⟩ rfl dX10_rest_18 h (fun r7 I5 J6 h => ?_)
    refine g_if_ne X (tgt := 27) dX10_rest_21 (by decide) (fun c8 => ?_) (fun c8 => ?_)
    · have h := h.1 c8
      refine g_aload_n X dX10_rest_27 rfl 0 rfl ?_
      refine g_getr X (C := RX10) (T := TX10) (N := 9) (ci := 8) (k := 2) iX10_rest_X10 rfl kX10_rest_26 (Nat.le_of_ble_eq_true rfl) rfl (by decide) rfl rfl dX10_rest_28 ?_
      refine g_getr X (C := RX0) (T := TX0) (N := 6) (ci := 0) (k := 0) iX10_rest_X0 rfl kX10_rest_101 (Nat.le_of_ble_eq_true rfl) rfl (by decide) rfl rfl dX10_rest_31 ?_
      refine g_astore_n X (lv' := [(3, .ref (ea (zE Z) 32)), (0, .ref (ea (zE Z) 0)), (1, .int p1), (2, .int p2)]) dX10_rest_34 rfl (by decide) rfl ?_
      refine g_aload_n X dX10_rest_35 rfl 0 rfl ?_
      refine g_getr X (C := RX7) (T := TX7) (N := 5) (ci := 5) (k := 1) iX10_rest_X7 rfl kX10_rest_148 (Nat.le_of_ble_eq_true rfl) rfl (by decide) rfl rfl dX10_rest_36 ?_
      refine g_iload_n X dX10_rest_39 rfl 2 rfl ?_
      obtain ⟨b9, h⟩ := h
      refine g_iald X (Nat.le_of_ble_eq_true rfl) rfl b9 dX10_rest_40 ?_
      refine g_iload_n X dX10_rest_41 rfl 3 rfl ?_
      refine g_iadd X dX10_rest_42 ?_
      refine g_bipush X (v := 48) dX10_rest_43 (by decide) ?_
      refine g_icmp_le X (tgt := 51) dX10_rest_45 (by decide) (fun c10 => ?_) (fun c10 => ?_)
      · have h := h.1 c10
        refine g_aload_n X dX10_rest_51 rfl 1 rfl ?_
        refine g_iload_n X dX10_rest_52 rfl 2 rfl ?_
        refine g_iload_n X dX10_rest_53 rfl 3 rfl ?_
        refine g_callVI X (As := [.int p1, .int p2]) (rest := []) (T := TX10) (N := 9) (c_X10_afterResting (zl Z) (zE Z) p1 p2) gX10_rest_X10_afterResting yo_X10_afterResting rfl ⟨Nat.le_of_ble_eq_true rfl, Nat.le_of_ble_eq_true rfl⟩ (Nat.le_of_ble_eq_true rfl) rfl rfl rfl dX10_rest_54 h (fun r13 I11 J12 h => ?_)
        refine g_istore X (lv' := [(4, .int r13), (3, .ref (ea (zE Z) 32)), (0, .ref (ea (zE Z) 0)), (1, .int p1), (2, .int p2)]) dX10_rest_57 (by decide) rfl ?_
        refine g_aload_n X dX10_rest_59 rfl 2 rfl ?_
        refine g_getr X (C := RX10) (T := TX10) (N := 9) (ci := 8) (k := 2) iX10_rest_X10 rfl kX10_rest_26 (Nat.le_of_ble_eq_true rfl) rfl (by decide) rfl rfl dX10_rest_60 ?_
        refine g_callVV X (As := []) (rest := []) (T := TX0) (N := 6) (c_X0_remember (zl Z) (zE Z) ) gX10_rest_X0_remember yo_X0_remember rfl ⟨Nat.le_of_ble_eq_true rfl, Nat.le_of_ble_eq_true rfl⟩ (Nat.le_of_ble_eq_true rfl) rfl rfl rfl dX10_rest_63 h (fun  I14 J15 h => ?_)
        refine g_aload_n X dX10_rest_66 rfl 1 rfl ?_
        refine g_getr X (C := RX7) (T := TX7) (N := 5) (ci := 5) (k := 2) iX10_rest_X7 rfl kX10_rest_151 (Nat.le_of_ble_eq_true rfl) rfl (by decide) rfl rfl dX10_rest_67 ?_
        refine g_iload_n X dX10_rest_70 rfl 3 rfl ?_
        refine g_iload X dX10_rest_71 0 rfl ?_
        obtain ⟨b16, h⟩ := h
        refine g_iast X (Nat.le_of_ble_eq_true rfl) rfl b16 dX10_rest_73 ?_
        refine g_nmI (fun I17 eI17 => ?_)
        have h := h I17 eI17
        refine g_aload_n X dX10_rest_74 rfl 1 rfl ?_
        refine g_getr X (C := RX7) (T := TX7) (N := 5) (ci := 5) (k := 1) iX10_rest_X7 rfl kX10_rest_148 (Nat.le_of_ble_eq_true rfl) rfl (by decide) rfl rfl dX10_rest_75 ?_
        refine g_iload_n X dX10_rest_78 rfl 3 rfl ?_
        refine g_dup2 X dX10_rest_79 rfl rfl ?_
        obtain ⟨b18, h⟩ := h
        refine g_iald X (Nat.le_of_ble_eq_true rfl) rfl b18 dX10_rest_80 ?_
        refine g_iload_n X dX10_rest_81 rfl 4 rfl ?_
        refine g_iadd X dX10_rest_82 ?_
        obtain ⟨b19, h⟩ := h
        refine g_iast X (Nat.le_of_ble_eq_true rfl) rfl b19 dX10_rest_83 ?_
        refine g_nmI (fun I20 eI20 => ?_)
        have h := h I20 eI20
        refine g_iload X dX10_rest_84 0 rfl ?_
        exact g_iret X R dX10_rest_86 h
      · have h := h.2 c10
        refine g_bipush X (v := (-5)) dX10_rest_48 (by decide) ?_
        exact g_iret X R dX10_rest_50 h
    · have h := h.2 c8
      refine g_bipush X (v := (-3)) dX10_rest_24 (by decide) ?_
      exact g_iret X R dX10_rest_26 h
  · have h := h.2 c4
    refine g_bipush X (v := (-2)) dX10_rest_11 (by decide) ?_
    exact g_iret X R dX10_rest_13 h

/-! X10_join.join(II)I -/
def rmX10_join : Room := { frames := 4, cells := 0, slots := 0, locals := 101 }
theorem yo_X10_join : yX10_join.cls = RX10 ∧ yX10_join.cls ≠ "java/lang/invoke/MethodHandle" ∧ yX10_join.cls ≠ "java/lang/invoke/VarHandle" ∧ (parseMethodDescriptor yX10_join.desc).map (fun d => d.parameters.length) = some 2 := by decide +kernel
theorem kX10_join_19 : Cond.fieldLink RX10 19 "SnowCourse" (TX10 1).2.1 (TX10 1).2.2.1 ∈ wsX10_join := by decide +kernel
theorem iX10_join_X10 : ∀ w ∈ u_ws RX10 TX10 9, w ∈ wsX10_join := by decide +kernel
theorem kX10_join_26 : Cond.fieldLink RX10 26 "SnowCourse" (TX10 2).2.1 (TX10 2).2.2.1 ∈ wsX10_join := by decide +kernel
theorem kX10_join_101 : Cond.fieldLink RX10 101 "SnowCourse$Chronicle" (TX0 0).2.1 (TX0 0).2.2.1 ∈ wsX10_join := by decide +kernel
theorem iX10_join_X0 : ∀ w ∈ u_ws RX0 TX0 6, w ∈ wsX10_join := by decide +kernel
theorem kX10_join_145 : Cond.fieldLink RX10 145 "SnowCourse$Standing" (TX7 0).2.1 (TX7 0).2.2.1 ∈ wsX10_join := by decide +kernel
theorem iX10_join_X7 : ∀ w ∈ u_ws RX7 TX7 5, w ∈ wsX10_join := by decide +kernel
theorem kX10_join_148 : Cond.fieldLink RX10 148 "SnowCourse$Standing" (TX7 1).2.1 (TX7 1).2.2.1 ∈ wsX10_join := by decide +kernel
theorem kX10_join_m191 : Cond.methodLink RX10 191 Lib.Math.max.name ∈ wsX10_join := by decide +kernel
theorem kX10_join_msmax : Cond.static Lib.Math.max.name ∈ wsX10_join := by decide +kernel
theorem kX10_join_mi : Cond.initialized "java/lang/Math" ∈ wsX10_join := by decide +kernel
theorem kX10_join_mcmax : Cond.code Lib.Math.max.name Lib.Math.max.code 2 (some .int) ∈ wsX10_join := by decide +kernel
theorem kX10_join_151 : Cond.fieldLink RX10 151 "SnowCourse$Standing" (TX7 2).2.1 (TX7 2).2.2.1 ∈ wsX10_join := by decide +kernel
def vc_X10_join (p1 : Int32) (p2 : Int32) (I : MI) (J : MJ) (Q : Int32 → MI → MJ → Prop) : Prop := vc_X1_hasCart p1 I J (fun (r3 : Int32) (I1 : MI) (J2 : MJ) => ((r3 = 0 → Q (-2) I1 J2) ∧ (¬ r3 = 0 → vc_X1_hasCart p2 I1 J2 (fun (r7 : Int32) (I5 : MI) (J6 : MJ) => ((r7 = 0 → Q (-2) I5 J6) ∧ (¬ r7 = 0 → ((¬ p1 = p2 → vp_in p1 4 ∧ vp_in p2 4 ∧ (((I5 33 (Int32.toNatClampNeg p1)) = (I5 33 (Int32.toNatClampNeg p2)) → vp_in p1 4 ∧ vp_in p2 4 ∧ ∀ x15 : Int32, x15 = (if (I5 34 (Int32.toNatClampNeg p1)) < (I5 34 (Int32.toNatClampNeg p2)) then (I5 34 (Int32.toNatClampNeg p2)) else (I5 34 (Int32.toNatClampNeg p1))) → vp_in p1 4 ∧ vc_X10_afterResting p1 (x15 - (I5 34 (Int32.toNatClampNeg p1))) I5 J6 (fun (r19 : Int32) (I17 : MI) (J18 : MJ) => vp_in p2 4 ∧ vc_X10_afterResting p2 (x15 - (I17 34 (Int32.toNatClampNeg p2))) I17 J18 (fun (r23 : Int32) (I21 : MI) (J22 : MJ) => ∀ x24 : Int32, x24 = r19 + r23 → ((x24 ≤ 99 → vc_X0_remember  I21 J22 (fun (I26 : MI) (J27 : MJ) => vp_in p1 4 ∧ ∀ I29 : MI, I29 = wI I26 34 (Int32.toNatClampNeg p1) x15 → vp_in p2 4 ∧ ∀ I31 : MI, I31 = wI I29 34 (Int32.toNatClampNeg p2) x15 → vp_in p1 4 ∧ ∀ I33 : MI, I33 = wI I31 35 (Int32.toNatClampNeg p1) x24 → vp_in p2 4 ∧ ∀ I35 : MI, I35 = wI I33 35 (Int32.toNatClampNeg p2) 0 → Q x24 I35 J27)) ∧ (¬ x24 ≤ 99 → Q (-5) I21 J22))))) ∧ (¬ (I5 33 (Int32.toNatClampNeg p1)) = (I5 33 (Int32.toNatClampNeg p2)) → Q (-4) I5 J6))) ∧ (p1 = p2 → Q (-2) I5 J6))))))))
set_option maxRecDepth 100000 in
set_option maxHeartbeats 4000000 in
theorem c_X10_join (l : Launch) (E : ET)  (p1 : Int32) (p2 : Int32) : CI l yX10_join wsX10_join rmX10_join E [.ref (ea E 0), .int p1, .int p2] (vc_X10_join p1 p2) := by
  refine CI.of (cc := cX10_join) (maxL := 6) (own := RX10) (by decide) rfl rfl (Nat.le_of_ble_eq_true rfl) ?_
  intro Z I J Q hE hl X R h
  subst hE
  subst hl
  show GW Z 6 I J 0 [(0, .ref (ea (zE Z) 0)), (1, .int p1), (2, .int p2)] []
  refine g_aload_n X dX10_join_0 rfl 0 rfl ?_
  refine g_getr X (C := RX10) (T := TX10) (N := 9) (ci := 8) (k := 1) iX10_join_X10 rfl kX10_join_19 (Nat.le_of_ble_eq_true rfl) rfl (by decide) rfl rfl dX10_join_1 ?_
  refine g_iload_n X dX10_join_4 rfl 1 rfl ?_
  refine g_callVI X (As := [.int p1]) (rest := []) (T := TX1) (N := 12) (c_X1_hasCart (zl Z) (zE Z) p1) gX10_join_X1_hasCart yo_X1_hasCart rfl ⟨Nat.le_of_ble_eq_true rfl, Nat.le_of_ble_eq_true rfl⟩ (Nat.le_of_ble_eq_true rfl) rfl rfl rfl dX10_join_5 h (fun r3 I1 J2 h => ?_)
  refine g_if_eq X (tgt := 27) dX10_join_8 (by decide) (fun c4 => ?_) (fun c4 => ?_)
  · have h := h.1 c4
    refine g_bipush X (v := (-2)) dX10_join_27 (by decide) ?_
    exact g_iret X R dX10_join_29 h
  · have h := h.2 c4
    refine g_aload_n X dX10_join_11 rfl 0 rfl ?_
    refine g_getr X (C := RX10) (T := TX10) (N := 9) (ci := 8) (k := 1) iX10_join_X10 rfl kX10_join_19 (Nat.le_of_ble_eq_true rfl) rfl (by decide) rfl rfl dX10_join_12 ?_
    refine g_iload_n X dX10_join_15 rfl 2 rfl ?_
    refine g_callVI X (As := [.int p2]) (rest := []) (T := TX1) (N := 12) (c_X1_hasCart (zl Z) (zE Z) p2) gX10_join_X1_hasCart yo_X1_hasCart rfl ⟨Nat.le_of_ble_eq_true rfl, Nat.le_of_ble_eq_true rfl⟩ (Nat.le_of_ble_eq_true rfl) rfl rfl rfl dX10_join_16 h (fun r7 I5 J6 h => ?_)
    refine g_if_eq X (tgt := 27) dX10_join_19 (by decide) (fun c8 => ?_) (fun c8 => ?_)
    · have h := h.1 c8
      refine g_bipush X (v := (-2)) dX10_join_27 (by decide) ?_
      exact g_iret X R dX10_join_29 h
    · have h := h.2 c8
      refine g_iload_n X dX10_join_22 rfl 1 rfl ?_
      refine g_iload_n X dX10_join_23 rfl 2 rfl ?_
      refine g_icmp_ne X (tgt := 30) dX10_join_24 (by decide) (fun c9 => ?_) (fun c9 => ?_)
      · have h := h.1 c9
        refine g_aload_n X dX10_join_30 rfl 0 rfl ?_
        refine g_getr X (C := RX10) (T := TX10) (N := 9) (ci := 8) (k := 2) iX10_join_X10 rfl kX10_join_26 (Nat.le_of_ble_eq_true rfl) rfl (by decide) rfl rfl dX10_join_31 ?_
        refine g_getr X (C := RX0) (T := TX0) (N := 6) (ci := 0) (k := 0) iX10_join_X0 rfl kX10_join_101 (Nat.le_of_ble_eq_true rfl) rfl (by decide) rfl rfl dX10_join_34 ?_
        refine g_astore_n X (lv' := [(3, .ref (ea (zE Z) 32)), (0, .ref (ea (zE Z) 0)), (1, .int p1), (2, .int p2)]) dX10_join_37 rfl (by decide) rfl ?_
        refine g_aload_n X dX10_join_38 rfl 0 rfl ?_
        refine g_getr X (C := RX7) (T := TX7) (N := 5) (ci := 5) (k := 0) iX10_join_X7 rfl kX10_join_145 (Nat.le_of_ble_eq_true rfl) rfl (by decide) rfl rfl dX10_join_39 ?_
        refine g_iload_n X dX10_join_42 rfl 2 rfl ?_
        obtain ⟨b10, h⟩ := h
        refine g_iald X (Nat.le_of_ble_eq_true rfl) rfl b10 dX10_join_43 ?_
        refine g_aload_n X dX10_join_44 rfl 0 rfl ?_
        refine g_getr X (C := RX7) (T := TX7) (N := 5) (ci := 5) (k := 0) iX10_join_X7 rfl kX10_join_145 (Nat.le_of_ble_eq_true rfl) rfl (by decide) rfl rfl dX10_join_45 ?_
        refine g_iload_n X dX10_join_48 rfl 3 rfl ?_
        obtain ⟨b11, h⟩ := h
        refine g_iald X (Nat.le_of_ble_eq_true rfl) rfl b11 dX10_join_49 ?_
        refine g_icmp_eq X (tgt := 56) dX10_join_50 (by decide) (fun c12 => ?_) (fun c12 => ?_)
        · have h := h.1 c12
          refine g_aload_n X dX10_join_56 rfl 0 rfl ?_
          refine g_getr X (C := RX7) (T := TX7) (N := 5) (ci := 5) (k := 1) iX10_join_X7 rfl kX10_join_148 (Nat.le_of_ble_eq_true rfl) rfl (by decide) rfl rfl dX10_join_57 ?_
          refine g_iload_n X dX10_join_60 rfl 2 rfl ?_
          obtain ⟨b13, h⟩ := h
          refine g_iald X (Nat.le_of_ble_eq_true rfl) rfl b13 dX10_join_61 ?_
          refine g_aload_n X dX10_join_62 rfl 0 rfl ?_
          refine g_getr X (C := RX7) (T := TX7) (N := 5) (ci := 5) (k := 1) iX10_join_X7 rfl kX10_join_148 (Nat.le_of_ble_eq_true rfl) rfl (by decide) rfl rfl dX10_join_63 ?_
          refine g_iload_n X dX10_join_66 rfl 3 rfl ?_
          obtain ⟨b14, h⟩ := h
          refine g_iald X (Nat.le_of_ble_eq_true rfl) rfl b14 dX10_join_67 ?_
          refine g_mmax X kX10_join_m191 kX10_join_msmax kX10_join_mi kX10_join_mcmax ⟨Nat.le_of_ble_eq_true rfl, Nat.le_of_ble_eq_true rfl⟩ dX10_join_68 ?_
          refine g_topi (fun x15 ex15 => ?_)
          have h := h x15 ex15
          refine g_istore X (lv' := [(4, .int x15), (3, .ref (ea (zE Z) 32)), (0, .ref (ea (zE Z) 0)), (1, .int p1), (2, .int p2)]) dX10_join_71 (by decide) rfl ?_
          refine g_aload_n X dX10_join_73 rfl 2 rfl ?_
          refine g_iload_n X dX10_join_74 rfl 3 rfl ?_
          refine g_iload X dX10_join_75 0 rfl ?_
          refine g_aload_n X dX10_join_77 rfl 1 rfl ?_
          refine g_getr X (C := RX7) (T := TX7) (N := 5) (ci := 5) (k := 1) iX10_join_X7 rfl kX10_join_148 (Nat.le_of_ble_eq_true rfl) rfl (by decide) rfl rfl dX10_join_78 ?_
          refine g_iload_n X dX10_join_81 rfl 3 rfl ?_
          obtain ⟨b16, h⟩ := h
          refine g_iald X (Nat.le_of_ble_eq_true rfl) rfl b16 dX10_join_82 ?_
          refine g_isub X dX10_join_83 ?_
          refine g_callVI X (As := [.int p1, .int (x15 - (I5 34 (Int32.toNatClampNeg p1)))]) (rest := []) (T := TX10) (N := 9) (c_X10_afterResting (zl Z) (zE Z) p1 (x15 - (I5 34 (Int32.toNatClampNeg p1)))) gX10_join_X10_afterResting yo_X10_afterResting rfl ⟨Nat.le_of_ble_eq_true rfl, Nat.le_of_ble_eq_true rfl⟩ (Nat.le_of_ble_eq_true rfl) rfl rfl rfl dX10_join_84 h (fun r19 I17 J18 h => ?_)
          refine g_aload_n X dX10_join_87 rfl 2 rfl ?_
          refine g_iload_n X dX10_join_88 rfl 4 rfl ?_
          refine g_iload X dX10_join_89 0 rfl ?_
          refine g_aload_n X dX10_join_91 rfl 1 rfl ?_
          refine g_getr X (C := RX7) (T := TX7) (N := 5) (ci := 5) (k := 1) iX10_join_X7 rfl kX10_join_148 (Nat.le_of_ble_eq_true rfl) rfl (by decide) rfl rfl dX10_join_92 ?_
          refine g_iload_n X dX10_join_95 rfl 4 rfl ?_
          obtain ⟨b20, h⟩ := h
          refine g_iald X (Nat.le_of_ble_eq_true rfl) rfl b20 dX10_join_96 ?_
          refine g_isub X dX10_join_97 ?_
          refine g_callVI X (As := [.int p2, .int (x15 - (I17 34 (Int32.toNatClampNeg p2)))]) (rest := [.int r19]) (T := TX10) (N := 9) (c_X10_afterResting (zl Z) (zE Z) p2 (x15 - (I17 34 (Int32.toNatClampNeg p2)))) gX10_join_X10_afterResting yo_X10_afterResting rfl ⟨Nat.le_of_ble_eq_true rfl, Nat.le_of_ble_eq_true rfl⟩ (Nat.le_of_ble_eq_true rfl) rfl rfl rfl dX10_join_98 h (fun r23 I21 J22 h => ?_)
          refine g_iadd X dX10_join_101 ?_
          refine g_topi (fun x24 ex24 => ?_)
          have h := h x24 ex24
          refine g_istore X (lv' := [(5, .int x24), (4, .int x15), (3, .ref (ea (zE Z) 32)), (0, .ref (ea (zE Z) 0)), (1, .int p1), (2, .int p2)]) dX10_join_102 (by decide) rfl ?_
          refine g_iload X dX10_join_104 0 rfl ?_
          refine g_bipush X (v := 99) dX10_join_106 (by decide) ?_
          refine g_icmp_le X (tgt := 114) dX10_join_108 (by decide) (fun c25 => ?_) (fun c25 => ?_)
          · have h := h.1 c25
            refine g_aload_n X dX10_join_114 rfl 3 rfl ?_
            refine g_getr X (C := RX10) (T := TX10) (N := 9) (ci := 8) (k := 2) iX10_join_X10 rfl kX10_join_26 (Nat.le_of_ble_eq_true rfl) rfl (by decide) rfl rfl dX10_join_115 ?_
            refine g_callVV X (As := []) (rest := []) (T := TX0) (N := 6) (c_X0_remember (zl Z) (zE Z) ) gX10_join_X0_remember yo_X0_remember rfl ⟨Nat.le_of_ble_eq_true rfl, Nat.le_of_ble_eq_true rfl⟩ (Nat.le_of_ble_eq_true rfl) rfl rfl rfl dX10_join_118 h (fun  I26 J27 h => ?_)
            refine g_aload_n X dX10_join_121 rfl 2 rfl ?_
            refine g_getr X (C := RX7) (T := TX7) (N := 5) (ci := 5) (k := 1) iX10_join_X7 rfl kX10_join_148 (Nat.le_of_ble_eq_true rfl) rfl (by decide) rfl rfl dX10_join_122 ?_
            refine g_iload_n X dX10_join_125 rfl 4 rfl ?_
            refine g_iload X dX10_join_126 1 rfl ?_
            obtain ⟨b28, h⟩ := h
            refine g_iast X (Nat.le_of_ble_eq_true rfl) rfl b28 dX10_join_128 ?_
            refine g_nmI (fun I29 eI29 => ?_)
            have h := h I29 eI29
            refine g_aload_n X dX10_join_129 rfl 2 rfl ?_
            refine g_getr X (C := RX7) (T := TX7) (N := 5) (ci := 5) (k := 1) iX10_join_X7 rfl kX10_join_148 (Nat.le_of_ble_eq_true rfl) rfl (by decide) rfl rfl dX10_join_130 ?_
            refine g_iload_n X dX10_join_133 rfl 5 rfl ?_
            refine g_iload X dX10_join_134 1 rfl ?_
            obtain ⟨b30, h⟩ := h
            refine g_iast X (Nat.le_of_ble_eq_true rfl) rfl b30 dX10_join_136 ?_
            refine g_nmI (fun I31 eI31 => ?_)
            have h := h I31 eI31
            refine g_aload_n X dX10_join_137 rfl 2 rfl ?_
            refine g_getr X (C := RX7) (T := TX7) (N := 5) (ci := 5) (k := 2) iX10_join_X7 rfl kX10_join_151 (Nat.le_of_ble_eq_true rfl) rfl (by decide) rfl rfl dX10_join_138 ?_
            refine g_iload_n X dX10_join_141 rfl 4 rfl ?_
            refine g_iload X dX10_join_142 0 rfl ?_
            obtain ⟨b32, h⟩ := h
            refine g_iast X (Nat.le_of_ble_eq_true rfl) rfl b32 dX10_join_144 ?_
            refine g_nmI (fun I33 eI33 => ?_)
            have h := h I33 eI33
            refine g_aload_n X dX10_join_145 rfl 2 rfl ?_
            refine g_getr X (C := RX7) (T := TX7) (N := 5) (ci := 5) (k := 2) iX10_join_X7 rfl kX10_join_151 (Nat.le_of_ble_eq_true rfl) rfl (by decide) rfl rfl dX10_join_146 ?_
            refine g_iload_n X dX10_join_149 rfl 5 rfl ?_
            refine g_iconst X (v := 0) dX10_join_150 (by decide) ?_
            obtain ⟨b34, h⟩ := h
            refine g_iast X (Nat.le_of_ble_eq_true rfl) rfl b34 dX10_join_151 ?_
            refine g_nmI (fun I35 eI35 => ?_)
            have h := h I35 eI35
            refine g_iload X dX10_join_152 0 rfl ?_
            exact g_iret X R dX10_join_154 h
          · have h := h.2 c25
            refine g_bipush X (v := (-5)) dX10_join_111 (by decide) ?_
            exact g_iret X R dX10_join_113 h
        · have h := h.2 c12
          refine g_bipush X (v := (-4)) dX10_join_53 (by decide) ?_
          exact g_iret X R dX10_join_55 h
      · have h := h.2 c9
        refine g_bipush X (v := (-2)) dX10_join_27 (by decide) ?_
        exact g_iret X R dX10_join_29 h

/-! X10_store.store(I)I -/
def rmX10_store : Room := { frames := 3, cells := 0, slots := 0, locals := 71 }
theorem yo_X10_store : yX10_store.cls = RX10 ∧ yX10_store.cls ≠ "java/lang/invoke/MethodHandle" ∧ yX10_store.cls ≠ "java/lang/invoke/VarHandle" ∧ (parseMethodDescriptor yX10_store.desc).map (fun d => d.parameters.length) = some 1 := by decide +kernel
theorem kX10_store_19 : Cond.fieldLink RX10 19 "SnowCourse" (TX10 1).2.1 (TX10 1).2.2.1 ∈ wsX10_store := by decide +kernel
theorem iX10_store_X10 : ∀ w ∈ u_ws RX10 TX10 9, w ∈ wsX10_store := by decide +kernel
theorem kX10_store_26 : Cond.fieldLink RX10 26 "SnowCourse" (TX10 2).2.1 (TX10 2).2.2.1 ∈ wsX10_store := by decide +kernel
theorem kX10_store_101 : Cond.fieldLink RX10 101 "SnowCourse$Chronicle" (TX0 0).2.1 (TX0 0).2.2.1 ∈ wsX10_store := by decide +kernel
theorem iX10_store_X0 : ∀ w ∈ u_ws RX0 TX0 6, w ∈ wsX10_store := by decide +kernel
theorem kX10_store_145 : Cond.fieldLink RX10 145 "SnowCourse$Standing" (TX7 0).2.1 (TX7 0).2.2.1 ∈ wsX10_store := by decide +kernel
theorem iX10_store_X7 : ∀ w ∈ u_ws RX7 TX7 5, w ∈ wsX10_store := by decide +kernel
theorem kX10_store_105 : Cond.fieldLink RX10 105 "SnowCourse$Standing" (TX7 3).2.1 (TX7 3).2.2.1 ∈ wsX10_store := by decide +kernel
theorem kX10_store_151 : Cond.fieldLink RX10 151 "SnowCourse$Standing" (TX7 2).2.1 (TX7 2).2.2.1 ∈ wsX10_store := by decide +kernel
def vc_X10_store (p1 : Int32) (I : MI) (J : MJ) (Q : Int32 → MI → MJ → Prop) : Prop := vc_X1_hasCart p1 I J (fun (r3 : Int32) (I1 : MI) (J2 : MJ) => ((¬ r3 = 0 → vc_X10_isIn p1 2 I1 J2 (fun (r7 : Int32) (I5 : MI) (J6 : MJ) => ((¬ r7 = 0 → vp_in p1 4 ∧ ∀ x10 : Int32, x10 = I5 33 (Int32.toNatClampNeg p1) → vp_in x10 7 ∧ vc_X3_opened (I5 36 (Int32.toNatClampNeg x10)) I5 J6 (fun (r14 : Int32) (I12 : MI) (J13 : MJ) => vp_in p1 4 ∧ ∀ x16 : Int32, x16 = r14 + (I12 35 (Int32.toNatClampNeg p1)) → ((x16 ≤ 999 → vc_X0_remember  I12 J13 (fun (I18 : MI) (J19 : MJ) => vp_in x10 7 ∧ ∀ I21 : MI, I21 = wI I18 36 (Int32.toNatClampNeg x10) x16 → vp_in p1 4 ∧ ∀ I23 : MI, I23 = wI I21 35 (Int32.toNatClampNeg p1) 0 → Q x16 I23 J19)) ∧ (¬ x16 ≤ 999 → Q (-5) I12 J13)))) ∧ (r7 = 0 → Q (-4) I5 J6)))) ∧ (r3 = 0 → Q (-2) I1 J2)))
set_option maxRecDepth 100000 in
set_option maxHeartbeats 4000000 in
theorem c_X10_store (l : Launch) (E : ET)  (p1 : Int32) : CI l yX10_store wsX10_store rmX10_store E [.ref (ea E 0), .int p1] (vc_X10_store p1) := by
  refine CI.of (cc := cX10_store) (maxL := 5) (own := RX10) (by decide) rfl rfl (Nat.le_of_ble_eq_true rfl) ?_
  intro Z I J Q hE hl X R h
  subst hE
  subst hl
  show GW Z 5 I J 0 [(0, .ref (ea (zE Z) 0)), (1, .int p1)] []
  refine g_aload_n X dX10_store_0 rfl 0 rfl ?_
  refine g_getr X (C := RX10) (T := TX10) (N := 9) (ci := 8) (k := 1) iX10_store_X10 rfl kX10_store_19 (Nat.le_of_ble_eq_true rfl) rfl (by decide) rfl rfl dX10_store_1 ?_
  refine g_iload_n X dX10_store_4 rfl 1 rfl ?_
  refine g_callVI X (As := [.int p1]) (rest := []) (T := TX1) (N := 12) (c_X1_hasCart (zl Z) (zE Z) p1) gX10_store_X1_hasCart yo_X1_hasCart rfl ⟨Nat.le_of_ble_eq_true rfl, Nat.le_of_ble_eq_true rfl⟩ (Nat.le_of_ble_eq_true rfl) rfl rfl rfl dX10_store_5 h (fun r3 I1 J2 h => ?_)
  refine g_if_ne X (tgt := 14) dX10_store_8 (by decide) (fun c4 => ?_) (fun c4 => ?_)
  · have h := h.1 c4
    refine g_aload_n X dX10_store_14 rfl 0 rfl ?_
    refine g_iload_n X dX10_store_15 rfl 1 rfl ?_
    refine g_iconst X (v := 2) dX10_store_16 (by decide) ?_
    refine g_callVI X (As := [.int p1, .int 2]) (rest := []) (T := TX10) (N := 9) (c_X10_isIn (zl Z) (zE Z) p1 2) gX10_store_X10_isIn yo_X10_isIn rfl ⟨Nat.le_of_ble_eq_true rfl, Nat.le_of_ble_eq_true rfl⟩ (Nat.le_of_ble_eq_true rfl) rfl rfl rfl dX10_store_17 h (fun r7 I5 J6 h => ?_)
    refine g_if_ne X (tgt := 26) dX10_store_20 (by decide) (fun c8 => ?_) (fun c8 => ?_)
    · have h := h.1 c8
      refine g_aload_n X dX10_store_26 rfl 0 rfl ?_
      refine g_getr X (C := RX10) (T := TX10) (N := 9) (ci := 8) (k := 2) iX10_store_X10 rfl kX10_store_26 (Nat.le_of_ble_eq_true rfl) rfl (by decide) rfl rfl dX10_store_27 ?_
      refine g_getr X (C := RX0) (T := TX0) (N := 6) (ci := 0) (k := 0) iX10_store_X0 rfl kX10_store_101 (Nat.le_of_ble_eq_true rfl) rfl (by decide) rfl rfl dX10_store_30 ?_
      refine g_astore_n X (lv' := [(2, .ref (ea (zE Z) 32)), (0, .ref (ea (zE Z) 0)), (1, .int p1)]) dX10_store_33 rfl (by decide) rfl ?_
      refine g_aload_n X dX10_store_34 rfl 0 rfl ?_
      refine g_getr X (C := RX7) (T := TX7) (N := 5) (ci := 5) (k := 0) iX10_store_X7 rfl kX10_store_145 (Nat.le_of_ble_eq_true rfl) rfl (by decide) rfl rfl dX10_store_35 ?_
      refine g_iload_n X dX10_store_38 rfl 2 rfl ?_
      obtain ⟨b9, h⟩ := h
      refine g_iald X (Nat.le_of_ble_eq_true rfl) rfl b9 dX10_store_39 ?_
      refine g_topi (fun x10 ex10 => ?_)
      have h := h x10 ex10
      refine g_istore_n X (lv' := [(3, .int x10), (2, .ref (ea (zE Z) 32)), (0, .ref (ea (zE Z) 0)), (1, .int p1)]) dX10_store_40 rfl (by decide) rfl ?_
      refine g_aload_n X dX10_store_41 rfl 1 rfl ?_
      refine g_getr X (C := RX7) (T := TX7) (N := 5) (ci := 5) (k := 3) iX10_store_X7 rfl kX10_store_105 (Nat.le_of_ble_eq_true rfl) rfl (by decide) rfl rfl dX10_store_42 ?_
      refine g_iload_n X dX10_store_45 rfl 0 rfl ?_
      obtain ⟨b11, h⟩ := h
      refine g_iald X (Nat.le_of_ble_eq_true rfl) rfl b11 dX10_store_46 ?_
      refine g_callSI X (As := [.int (I5 36 (Int32.toNatClampNeg x10))]) (rest := []) (c_X3_opened (zl Z) (zE Z) (I5 36 (Int32.toNatClampNeg x10))) gX10_store_X3_opened yo_X3_opened.2 rfl ⟨Nat.le_of_ble_eq_true rfl, Nat.le_of_ble_eq_true rfl⟩ rfl dX10_store_47 h (fun r14 I12 J13 h => ?_)
      refine g_aload_n X dX10_store_50 rfl 1 rfl ?_
      refine g_getr X (C := RX7) (T := TX7) (N := 5) (ci := 5) (k := 2) iX10_store_X7 rfl kX10_store_151 (Nat.le_of_ble_eq_true rfl) rfl (by decide) rfl rfl dX10_store_51 ?_
      refine g_iload_n X dX10_store_54 rfl 3 rfl ?_
      obtain ⟨b15, h⟩ := h
      refine g_iald X (Nat.le_of_ble_eq_true rfl) rfl b15 dX10_store_55 ?_
      refine g_iadd X dX10_store_56 ?_
      refine g_topi (fun x16 ex16 => ?_)
      have h := h x16 ex16
      refine g_istore X (lv' := [(4, .int x16), (3, .int x10), (2, .ref (ea (zE Z) 32)), (0, .ref (ea (zE Z) 0)), (1, .int p1)]) dX10_store_57 (by decide) rfl ?_
      refine g_iload X dX10_store_59 0 rfl ?_
      refine g_sipush X (v := 999) dX10_store_61 (by decide) ?_
      refine g_icmp_le X (tgt := 70) dX10_store_64 (by decide) (fun c17 => ?_) (fun c17 => ?_)
      · have h := h.1 c17
        refine g_aload_n X dX10_store_70 rfl 3 rfl ?_
        refine g_getr X (C := RX10) (T := TX10) (N := 9) (ci := 8) (k := 2) iX10_store_X10 rfl kX10_store_26 (Nat.le_of_ble_eq_true rfl) rfl (by decide) rfl rfl dX10_store_71 ?_
        refine g_callVV X (As := []) (rest := []) (T := TX0) (N := 6) (c_X0_remember (zl Z) (zE Z) ) gX10_store_X0_remember yo_X0_remember rfl ⟨Nat.le_of_ble_eq_true rfl, Nat.le_of_ble_eq_true rfl⟩ (Nat.le_of_ble_eq_true rfl) rfl rfl rfl dX10_store_74 h (fun  I18 J19 h => ?_)
        refine g_aload_n X dX10_store_77 rfl 2 rfl ?_
        refine g_getr X (C := RX7) (T := TX7) (N := 5) (ci := 5) (k := 3) iX10_store_X7 rfl kX10_store_105 (Nat.le_of_ble_eq_true rfl) rfl (by decide) rfl rfl dX10_store_78 ?_
        refine g_iload_n X dX10_store_81 rfl 1 rfl ?_
        refine g_iload X dX10_store_82 0 rfl ?_
        obtain ⟨b20, h⟩ := h
        refine g_iast X (Nat.le_of_ble_eq_true rfl) rfl b20 dX10_store_84 ?_
        refine g_nmI (fun I21 eI21 => ?_)
        have h := h I21 eI21
        refine g_aload_n X dX10_store_85 rfl 2 rfl ?_
        refine g_getr X (C := RX7) (T := TX7) (N := 5) (ci := 5) (k := 2) iX10_store_X7 rfl kX10_store_151 (Nat.le_of_ble_eq_true rfl) rfl (by decide) rfl rfl dX10_store_86 ?_
        refine g_iload_n X dX10_store_89 rfl 4 rfl ?_
        refine g_iconst X (v := 0) dX10_store_90 (by decide) ?_
        obtain ⟨b22, h⟩ := h
        refine g_iast X (Nat.le_of_ble_eq_true rfl) rfl b22 dX10_store_91 ?_
        refine g_nmI (fun I23 eI23 => ?_)
        have h := h I23 eI23
        refine g_iload X dX10_store_92 0 rfl ?_
        exact g_iret X R dX10_store_94 h
      · have h := h.2 c17
        refine g_bipush X (v := (-5)) dX10_store_67 (by decide) ?_
        exact g_iret X R dX10_store_69 h
    · have h := h.2 c8
      refine g_bipush X (v := (-4)) dX10_store_23 (by decide) ?_
      exact g_iret X R dX10_store_25 h
  · have h := h.2 c4
    refine g_bipush X (v := (-2)) dX10_store_11 (by decide) ?_
    exact g_iret X R dX10_store_13 h

/-! X10_take.take(II)I -/
def rmX10_take : Room := { frames := 3, cells := 0, slots := 0, locals := 71 }
theorem yo_X10_take : yX10_take.cls = RX10 ∧ yX10_take.cls ≠ "java/lang/invoke/MethodHandle" ∧ yX10_take.cls ≠ "java/lang/invoke/VarHandle" ∧ (parseMethodDescriptor yX10_take.desc).map (fun d => d.parameters.length) = some 2 := by decide +kernel
theorem kX10_take_19 : Cond.fieldLink RX10 19 "SnowCourse" (TX10 1).2.1 (TX10 1).2.2.1 ∈ wsX10_take := by decide +kernel
theorem iX10_take_X10 : ∀ w ∈ u_ws RX10 TX10 9, w ∈ wsX10_take := by decide +kernel
theorem kX10_take_26 : Cond.fieldLink RX10 26 "SnowCourse" (TX10 2).2.1 (TX10 2).2.2.1 ∈ wsX10_take := by decide +kernel
theorem kX10_take_101 : Cond.fieldLink RX10 101 "SnowCourse$Chronicle" (TX0 0).2.1 (TX0 0).2.2.1 ∈ wsX10_take := by decide +kernel
theorem iX10_take_X0 : ∀ w ∈ u_ws RX0 TX0 6, w ∈ wsX10_take := by decide +kernel
theorem kX10_take_145 : Cond.fieldLink RX10 145 "SnowCourse$Standing" (TX7 0).2.1 (TX7 0).2.2.1 ∈ wsX10_take := by decide +kernel
theorem iX10_take_X7 : ∀ w ∈ u_ws RX7 TX7 5, w ∈ wsX10_take := by decide +kernel
theorem kX10_take_105 : Cond.fieldLink RX10 105 "SnowCourse$Standing" (TX7 3).2.1 (TX7 3).2.2.1 ∈ wsX10_take := by decide +kernel
theorem kX10_take_151 : Cond.fieldLink RX10 151 "SnowCourse$Standing" (TX7 2).2.1 (TX7 2).2.2.1 ∈ wsX10_take := by decide +kernel
def vc_X10_take (p1 : Int32) (p2 : Int32) (I : MI) (J : MJ) (Q : Int32 → MI → MJ → Prop) : Prop := vc_X1_hasCart p1 I J (fun (r3 : Int32) (I1 : MI) (J2 : MJ) => ((¬ r3 = 0 → vc_X10_within p2 1 99 I1 J2 (fun (r7 : Int32) (I5 : MI) (J6 : MJ) => ((¬ r7 = 0 → vc_X10_isIn p1 2 I5 J6 (fun (r11 : Int32) (I9 : MI) (J10 : MJ) => ((¬ r11 = 0 → vp_in p1 4 ∧ ∀ x14 : Int32, x14 = I9 33 (Int32.toNatClampNeg p1) → vp_in x14 7 ∧ vc_X3_opened (I9 36 (Int32.toNatClampNeg x14)) I9 J10 (fun (r18 : Int32) (I16 : MI) (J17 : MJ) => ((p2 ≤ r18 → vp_in p1 4 ∧ ((((I16 35 (Int32.toNatClampNeg p1)) + p2) ≤ 99 → vc_X0_remember  I16 J17 (fun (I22 : MI) (J23 : MJ) => vp_in x14 7 ∧ ∀ I25 : MI, I25 = wI I22 36 (Int32.toNatClampNeg x14) (r18 - p2) → vp_in p1 4 ∧ vp_in p1 4 ∧ ∀ I28 : MI, I28 = wI I25 35 (Int32.toNatClampNeg p1) ((I25 35 (Int32.toNatClampNeg p1)) + p2) → vp_in p1 4 ∧ Q (I28 35 (Int32.toNatClampNeg p1)) I28 J23)) ∧ (¬ ((I16 35 (Int32.toNatClampNeg p1)) + p2) ≤ 99 → Q (-5) I16 J17))) ∧ (¬ p2 ≤ r18 → Q (-4) I16 J17)))) ∧ (r11 = 0 → Q (-4) I9 J10)))) ∧ (r7 = 0 → Q (-3) I5 J6)))) ∧ (r3 = 0 → Q (-2) I1 J2)))
set_option maxRecDepth 100000 in
set_option maxHeartbeats 4000000 in
theorem c_X10_take (l : Launch) (E : ET)  (p1 : Int32) (p2 : Int32) : CI l yX10_take wsX10_take rmX10_take E [.ref (ea E 0), .int p1, .int p2] (vc_X10_take p1 p2) := by
  refine CI.of (cc := cX10_take) (maxL := 6) (own := RX10) (by decide) rfl rfl (Nat.le_of_ble_eq_true rfl) ?_
  intro Z I J Q hE hl X R h
  subst hE
  subst hl
  show GW Z 6 I J 0 [(0, .ref (ea (zE Z) 0)), (1, .int p1), (2, .int p2)] []
  refine g_aload_n X dX10_take_0 rfl 0 rfl ?_
  refine g_getr X (C := RX10) (T := TX10) (N := 9) (ci := 8) (k := 1) iX10_take_X10 rfl kX10_take_19 (Nat.le_of_ble_eq_true rfl) rfl (by decide) rfl rfl dX10_take_1 ?_
  refine g_iload_n X dX10_take_4 rfl 1 rfl ?_
  refine g_callVI X (As := [.int p1]) (rest := []) (T := TX1) (N := 12) (c_X1_hasCart (zl Z) (zE Z) p1) gX10_take_X1_hasCart yo_X1_hasCart rfl ⟨Nat.le_of_ble_eq_true rfl, Nat.le_of_ble_eq_true rfl⟩ (Nat.le_of_ble_eq_true rfl) rfl rfl rfl dX10_take_5 h (fun r3 I1 J2 h => ?_)
  refine g_if_ne X (tgt := 14) dX10_take_8 (by decide) (fun c4 => ?_) (fun c4 => ?_)
  · have h := h.1 c4
    refine g_iload_n X dX10_take_14 rfl 2 rfl ?_
    refine g_iconst X (v := 1) dX10_take_15 (by decide) ?_
    refine g_bipush X (v := 99) dX10_take_16 (by decide) ?_
    refine g_callSI X (As := [.int p2, .int 1, .int 99]) (rest := []) (c_X10_within (zl Z) (zE Z) p2 1 99) gX10_take_X10_within yo_X10_within.2 rfl ⟨Nat.le_of_ble_eq_true rfl, Nat.le_of_ble_eq_true rfl⟩ rfl dX10_take_18 h (fun r7 I5 J6 h => ?_)
    refine g_if_ne X (tgt := 27) dX10_take_21 (by decide) (fun c8 => ?_) (fun c8 => ?_)
    · have h := h.1 c8
      refine g_aload_n X dX10_take_27 rfl 0 rfl ?_
      refine g_iload_n X dX10_take_28 rfl 1 rfl ?_
      refine g_iconst X (v := 2) dX10_take_29 (by decide) ?_
      refine g_callVI X (As := [.int p1, .int 2]) (rest := []) (T := TX10) (N := 9) (c_X10_isIn (zl Z) (zE Z) p1 2) gX10_take_X10_isIn yo_X10_isIn rfl ⟨Nat.le_of_ble_eq_true rfl, Nat.le_of_ble_eq_true rfl⟩ (Nat.le_of_ble_eq_true rfl) rfl rfl rfl dX10_take_30 h (fun r11 I9 J10 h => ?_)
      refine g_if_ne X (tgt := 39) dX10_take_33 (by decide) (fun c12 => ?_) (fun c12 => ?_)
      · have h := h.1 c12
        refine g_aload_n X dX10_take_39 rfl 0 rfl ?_
        refine g_getr X (C := RX10) (T := TX10) (N := 9) (ci := 8) (k := 2) iX10_take_X10 rfl kX10_take_26 (Nat.le_of_ble_eq_true rfl) rfl (by decide) rfl rfl dX10_take_40 ?_
        refine g_getr X (C := RX0) (T := TX0) (N := 6) (ci := 0) (k := 0) iX10_take_X0 rfl kX10_take_101 (Nat.le_of_ble_eq_true rfl) rfl (by decide) rfl rfl dX10_take_43 ?_
        refine g_astore_n X (lv' := [(3, .ref (ea (zE Z) 32)), (0, .ref (ea (zE Z) 0)), (1, .int p1), (2, .int p2)]) dX10_take_46 rfl (by decide) rfl ?_
        refine g_aload_n X dX10_take_47 rfl 0 rfl ?_
        refine g_getr X (C := RX7) (T := TX7) (N := 5) (ci := 5) (k := 0) iX10_take_X7 rfl kX10_take_145 (Nat.le_of_ble_eq_true rfl) rfl (by decide) rfl rfl dX10_take_48 ?_
        refine g_iload_n X dX10_take_51 rfl 2 rfl ?_
        obtain ⟨b13, h⟩ := h
        refine g_iald X (Nat.le_of_ble_eq_true rfl) rfl b13 dX10_take_52 ?_
        refine g_topi (fun x14 ex14 => ?_)
        have h := h x14 ex14
        refine g_istore X (lv' := [(4, .int x14), (3, .ref (ea (zE Z) 32)), (0, .ref (ea (zE Z) 0)), (1, .int p1), (2, .int p2)]) dX10_take_53 (by decide) rfl ?_
        refine g_aload_n X dX10_take_55 rfl 1 rfl ?_
        refine g_getr X (C := RX7) (T := TX7) (N := 5) (ci := 5) (k := 3) iX10_take_X7 rfl kX10_take_105 (Nat.le_of_ble_eq_true rfl) rfl (by decide) rfl rfl dX10_take_56 ?_
        refine g_iload X dX10_take_59 0 rfl ?_
        obtain ⟨b15, h⟩ := h
        refine g_iald X (Nat.le_of_ble_eq_true rfl) rfl b15 dX10_take_61 ?_
        refine g_callSI X (As := [.int (I9 36 (Int32.toNatClampNeg x14))]) (rest := []) (c_X3_opened (zl Z) (zE Z) (I9 36 (Int32.toNatClampNeg x14))) gX10_take_X3_opened yo_X3_opened.2 rfl ⟨Nat.le_of_ble_eq_true rfl, Nat.le_of_ble_eq_true rfl⟩ rfl dX10_take_62 h (fun r18 I16 J17 h => ?_)
        refine g_istore X (lv' := [(5, .int r18), (4, .int x14), (3, .ref (ea (zE Z) 32)), (0, .ref (ea (zE Z) 0)), (1, .int p1), (2, .int p2)]) dX10_take_65 (by decide) rfl ?_
        refine g_iload X dX10_take_67 0 rfl ?_
        refine g_iload_n X dX10_take_69 rfl 5 rfl ?_
        refine g_icmp_ge X (tgt := 76) dX10_take_70 (by decide) (fun c19 => ?_) (fun c19 => ?_)
        · have h := h.1 c19
          refine g_aload_n X dX10_take_76 rfl 2 rfl ?_
          refine g_getr X (C := RX7) (T := TX7) (N := 5) (ci := 5) (k := 2) iX10_take_X7 rfl kX10_take_151 (Nat.le_of_ble_eq_true rfl) rfl (by decide) rfl rfl dX10_take_77 ?_
          refine g_iload_n X dX10_take_80 rfl 4 rfl ?_
          obtain ⟨b20, h⟩ := h
          refine g_iald X (Nat.le_of_ble_eq_true rfl) rfl b20 dX10_take_81 ?_
          refine g_iload_n X dX10_take_82 rfl 5 rfl ?_
          refine g_iadd X dX10_take_83 ?_
          refine g_bipush X (v := 99) dX10_take_84 (by decide) ?_
          refine g_icmp_le X (tgt := 92) dX10_take_86 (by decide) (fun c21 => ?_) (fun c21 => ?_)
          · have h := h.1 c21
            refine g_aload_n X dX10_take_92 rfl 3 rfl ?_
            refine g_getr X (C := RX10) (T := TX10) (N := 9) (ci := 8) (k := 2) iX10_take_X10 rfl kX10_take_26 (Nat.le_of_ble_eq_true rfl) rfl (by decide) rfl rfl dX10_take_93 ?_
            refine g_callVV X (As := []) (rest := []) (T := TX0) (N := 6) (c_X0_remember (zl Z) (zE Z) ) gX10_take_X0_remember yo_X0_remember rfl ⟨Nat.le_of_ble_eq_true rfl, Nat.le_of_ble_eq_true rfl⟩ (Nat.le_of_ble_eq_true rfl) rfl rfl rfl dX10_take_96 h (fun  I22 J23 h => ?_)
            refine g_aload_n X dX10_take_99 rfl 2 rfl ?_
            refine g_getr X (C := RX7) (T := TX7) (N := 5) (ci := 5) (k := 3) iX10_take_X7 rfl kX10_take_105 (Nat.le_of_ble_eq_true rfl) rfl (by decide) rfl rfl dX10_take_100 ?_
            refine g_iload X dX10_take_103 1 rfl ?_
            refine g_iload X dX10_take_105 0 rfl ?_
            refine g_iload_n X dX10_take_107 rfl 5 rfl ?_
            refine g_isub X dX10_take_108 ?_
            obtain ⟨b24, h⟩ := h
            refine g_iast X (Nat.le_of_ble_eq_true rfl) rfl b24 dX10_take_109 ?_
            refine g_nmI (fun I25 eI25 => ?_)
            have h := h I25 eI25
            refine g_aload_n X dX10_take_110 rfl 2 rfl ?_
            refine g_getr X (C := RX7) (T := TX7) (N := 5) (ci := 5) (k := 2) iX10_take_X7 rfl kX10_take_151 (Nat.le_of_ble_eq_true rfl) rfl (by decide) rfl rfl dX10_take_111 ?_
            refine g_iload_n X dX10_take_114 rfl 4 rfl ?_
            refine g_dup2 X dX10_take_115 rfl rfl ?_
            obtain ⟨b26, h⟩ := h
            refine g_iald X (Nat.le_of_ble_eq_true rfl) rfl b26 dX10_take_116 ?_
            refine g_iload_n X dX10_take_117 rfl 5 rfl ?_
            refine g_iadd X dX10_take_118 ?_
            obtain ⟨b27, h⟩ := h
            refine g_iast X (Nat.le_of_ble_eq_true rfl) rfl b27 dX10_take_119 ?_
            refine g_nmI (fun I28 eI28 => ?_)
            have h := h I28 eI28
            refine g_aload_n X dX10_take_120 rfl 2 rfl ?_
            refine g_getr X (C := RX7) (T := TX7) (N := 5) (ci := 5) (k := 2) iX10_take_X7 rfl kX10_take_151 (Nat.le_of_ble_eq_true rfl) rfl (by decide) rfl rfl dX10_take_121 ?_
            refine g_iload_n X dX10_take_124 rfl 4 rfl ?_
            obtain ⟨b29, h⟩ := h
            refine g_iald X (Nat.le_of_ble_eq_true rfl) rfl b29 dX10_take_125 ?_
            exact g_iret X R dX10_take_126 h
          · have h := h.2 c21
            refine g_bipush X (v := (-5)) dX10_take_89 (by decide) ?_
            exact g_iret X R dX10_take_91 h
        · have h := h.2 c19
          refine g_bipush X (v := (-4)) dX10_take_73 (by decide) ?_
          exact g_iret X R dX10_take_75 h
      · have h := h.2 c12
        refine g_bipush X (v := (-4)) dX10_take_36 (by decide) ?_
        exact g_iret X R dX10_take_38 h
    · have h := h.2 c8
      refine g_bipush X (v := (-3)) dX10_take_24 (by decide) ?_
      exact g_iret X R dX10_take_26 h
  · have h := h.2 c4
    refine g_bipush X (v := (-2)) dX10_take_11 (by decide) ?_
    exact g_iret X R dX10_take_13 h

/-! X10_sell.sell(I)I -/
def rmX10_sell : Room := { frames := 3, cells := 0, slots := 0, locals := 71 }
theorem yo_X10_sell : yX10_sell.cls = RX10 ∧ yX10_sell.cls ≠ "java/lang/invoke/MethodHandle" ∧ yX10_sell.cls ≠ "java/lang/invoke/VarHandle" ∧ (parseMethodDescriptor yX10_sell.desc).map (fun d => d.parameters.length) = some 1 := by decide +kernel
theorem kX10_sell_19 : Cond.fieldLink RX10 19 "SnowCourse" (TX10 1).2.1 (TX10 1).2.2.1 ∈ wsX10_sell := by decide +kernel
theorem iX10_sell_X10 : ∀ w ∈ u_ws RX10 TX10 9, w ∈ wsX10_sell := by decide +kernel
theorem kX10_sell_26 : Cond.fieldLink RX10 26 "SnowCourse" (TX10 2).2.1 (TX10 2).2.2.1 ∈ wsX10_sell := by decide +kernel
theorem kX10_sell_101 : Cond.fieldLink RX10 101 "SnowCourse$Chronicle" (TX0 0).2.1 (TX0 0).2.2.1 ∈ wsX10_sell := by decide +kernel
theorem iX10_sell_X0 : ∀ w ∈ u_ws RX0 TX0 6, w ∈ wsX10_sell := by decide +kernel
theorem kX10_sell_151 : Cond.fieldLink RX10 151 "SnowCourse$Standing" (TX7 2).2.1 (TX7 2).2.2.1 ∈ wsX10_sell := by decide +kernel
theorem iX10_sell_X7 : ∀ w ∈ u_ws RX7 TX7 5, w ∈ wsX10_sell := by decide +kernel
theorem kX10_sell_148 : Cond.fieldLink RX10 148 "SnowCourse$Standing" (TX7 1).2.1 (TX7 1).2.2.1 ∈ wsX10_sell := by decide +kernel
theorem kX10_sell_201 : Cond.fieldLink RX10 201 "SnowCourse$Standing" (TX7 4).2.1 (TX7 4).2.2.1 ∈ wsX10_sell := by decide +kernel
def vc_X10_sell (p1 : Int32) (I : MI) (J : MJ) (Q : Int32 → MI → MJ → Prop) : Prop := vc_X1_hasCart p1 I J (fun (r3 : Int32) (I1 : MI) (J2 : MJ) => ((¬ r3 = 0 → vc_X10_isIn p1 3 I1 J2 (fun (r7 : Int32) (I5 : MI) (J6 : MJ) => ((¬ r7 = 0 → vp_in p1 4 ∧ vp_in p1 4 ∧ vc_X2_priceIn (I5 34 (Int32.toNatClampNeg p1)) I5 J6 (fun (r13 : Int32) (I11 : MI) (J12 : MJ) => ∀ x14 : Int32, x14 = (I5 35 (Int32.toNatClampNeg p1)) * r13 → vc_X0_remember  I11 J12 (fun (I15 : MI) (J16 : MJ) => vp_in p1 4 ∧ ∀ I18 : MI, I18 = wI I15 35 (Int32.toNatClampNeg p1) 0 → ∀ I19 : MI, I19 = wI I18 32 4 ((I18 32 4) + x14) → Q x14 I19 J16))) ∧ (r7 = 0 → Q (-4) I5 J6)))) ∧ (r3 = 0 → Q (-2) I1 J2)))
set_option maxRecDepth 100000 in
set_option maxHeartbeats 4000000 in
theorem c_X10_sell (l : Launch) (E : ET)  (p1 : Int32) : CI l yX10_sell wsX10_sell rmX10_sell E [.ref (ea E 0), .int p1] (vc_X10_sell p1) := by
  refine CI.of (cc := cX10_sell) (maxL := 4) (own := RX10) (by decide) rfl rfl (Nat.le_of_ble_eq_true rfl) ?_
  intro Z I J Q hE hl X R h
  subst hE
  subst hl
  show GW Z 4 I J 0 [(0, .ref (ea (zE Z) 0)), (1, .int p1)] []
  refine g_aload_n X dX10_sell_0 rfl 0 rfl ?_
  refine g_getr X (C := RX10) (T := TX10) (N := 9) (ci := 8) (k := 1) iX10_sell_X10 rfl kX10_sell_19 (Nat.le_of_ble_eq_true rfl) rfl (by decide) rfl rfl dX10_sell_1 ?_
  refine g_iload_n X dX10_sell_4 rfl 1 rfl ?_
  refine g_callVI X (As := [.int p1]) (rest := []) (T := TX1) (N := 12) (c_X1_hasCart (zl Z) (zE Z) p1) gX10_sell_X1_hasCart yo_X1_hasCart rfl ⟨Nat.le_of_ble_eq_true rfl, Nat.le_of_ble_eq_true rfl⟩ (Nat.le_of_ble_eq_true rfl) rfl rfl rfl dX10_sell_5 h (fun r3 I1 J2 h => ?_)
  refine g_if_ne X (tgt := 14) dX10_sell_8 (by decide) (fun c4 => ?_) (fun c4 => ?_)
  · have h := h.1 c4
    refine g_aload_n X dX10_sell_14 rfl 0 rfl ?_
    refine g_iload_n X dX10_sell_15 rfl 1 rfl ?_
    refine g_iconst X (v := 3) dX10_sell_16 (by decide) ?_
    refine g_callVI X (As := [.int p1, .int 3]) (rest := []) (T := TX10) (N := 9) (c_X10_isIn (zl Z) (zE Z) p1 3) gX10_sell_X10_isIn yo_X10_isIn rfl ⟨Nat.le_of_ble_eq_true rfl, Nat.le_of_ble_eq_true rfl⟩ (Nat.le_of_ble_eq_true rfl) rfl rfl rfl dX10_sell_17 h (fun r7 I5 J6 h => ?_)
    refine g_if_ne X (tgt := 26) dX10_sell_20 (by decide) (fun c8 => ?_) (fun c8 => ?_)
    · have h := h.1 c8
      refine g_aload_n X dX10_sell_26 rfl 0 rfl ?_
      refine g_getr X (C := RX10) (T := TX10) (N := 9) (ci := 8) (k := 2) iX10_sell_X10 rfl kX10_sell_26 (Nat.le_of_ble_eq_true rfl) rfl (by decide) rfl rfl dX10_sell_27 ?_
      refine g_getr X (C := RX0) (T := TX0) (N := 6) (ci := 0) (k := 0) iX10_sell_X0 rfl kX10_sell_101 (Nat.le_of_ble_eq_true rfl) rfl (by decide) rfl rfl dX10_sell_30 ?_
      refine g_astore_n X (lv' := [(2, .ref (ea (zE Z) 32)), (0, .ref (ea (zE Z) 0)), (1, .int p1)]) dX10_sell_33 rfl (by decide) rfl ?_
      refine g_aload_n X dX10_sell_34 rfl 0 rfl ?_
      refine g_getr X (C := RX7) (T := TX7) (N := 5) (ci := 5) (k := 2) iX10_sell_X7 rfl kX10_sell_151 (Nat.le_of_ble_eq_true rfl) rfl (by decide) rfl rfl dX10_sell_35 ?_
      refine g_iload_n X dX10_sell_38 rfl 2 rfl ?_
      obtain ⟨b9, h⟩ := h
      refine g_iald X (Nat.le_of_ble_eq_true rfl) rfl b9 dX10_sell_39 ?_
      refine g_aload_n X dX10_sell_40 rfl 0 rfl ?_
      refine g_getr X (C := RX7) (T := TX7) (N := 5) (ci := 5) (k := 1) iX10_sell_X7 rfl kX10_sell_148 (Nat.le_of_ble_eq_true rfl) rfl (by decide) rfl rfl dX10_sell_41 ?_
      refine g_iload_n X dX10_sell_44 rfl 2 rfl ?_
      obtain ⟨b10, h⟩ := h
      refine g_iald X (Nat.le_of_ble_eq_true rfl) rfl b10 dX10_sell_45 ?_
      refine g_callSI X (As := [.int (I5 34 (Int32.toNatClampNeg p1))]) (rest := [.int (I5 35 (Int32.toNatClampNeg p1))]) (c_X2_priceIn (zl Z) (zE Z) (I5 34 (Int32.toNatClampNeg p1))) gX10_sell_X2_priceIn yo_X2_priceIn.2 rfl ⟨Nat.le_of_ble_eq_true rfl, Nat.le_of_ble_eq_true rfl⟩ rfl dX10_sell_46 h (fun r13 I11 J12 h => ?_)
      refine g_imul X dX10_sell_49 ?_
      refine g_topi (fun x14 ex14 => ?_)
      have h := h x14 ex14
      refine g_istore_n X (lv' := [(3, .int x14), (2, .ref (ea (zE Z) 32)), (0, .ref (ea (zE Z) 0)), (1, .int p1)]) dX10_sell_50 rfl (by decide) rfl ?_
      refine g_aload_n X dX10_sell_51 rfl 2 rfl ?_
      refine g_getr X (C := RX10) (T := TX10) (N := 9) (ci := 8) (k := 2) iX10_sell_X10 rfl kX10_sell_26 (Nat.le_of_ble_eq_true rfl) rfl (by decide) rfl rfl dX10_sell_52 ?_
      refine g_callVV X (As := []) (rest := []) (T := TX0) (N := 6) (c_X0_remember (zl Z) (zE Z) ) gX10_sell_X0_remember yo_X0_remember rfl ⟨Nat.le_of_ble_eq_true rfl, Nat.le_of_ble_eq_true rfl⟩ (Nat.le_of_ble_eq_true rfl) rfl rfl rfl dX10_sell_55 h (fun  I15 J16 h => ?_)
      refine g_aload_n X dX10_sell_58 rfl 1 rfl ?_
      refine g_getr X (C := RX7) (T := TX7) (N := 5) (ci := 5) (k := 2) iX10_sell_X7 rfl kX10_sell_151 (Nat.le_of_ble_eq_true rfl) rfl (by decide) rfl rfl dX10_sell_59 ?_
      refine g_iload_n X dX10_sell_62 rfl 3 rfl ?_
      refine g_iconst X (v := 0) dX10_sell_63 (by decide) ?_
      obtain ⟨b17, h⟩ := h
      refine g_iast X (Nat.le_of_ble_eq_true rfl) rfl b17 dX10_sell_64 ?_
      refine g_nmI (fun I18 eI18 => ?_)
      have h := h I18 eI18
      refine g_aload_n X dX10_sell_65 rfl 1 rfl ?_
      refine g_dup X dX10_sell_66 rfl ?_
      refine g_geti X (C := RX7) (T := TX7) (N := 5) (ci := 5) (k := 4) iX10_sell_X7 rfl kX10_sell_201 (Nat.le_of_ble_eq_true rfl) rfl (by decide) rfl rfl dX10_sell_67 ?_
      refine g_iload_n X dX10_sell_70 rfl 0 rfl ?_
      refine g_iadd X dX10_sell_71 ?_
      refine g_puti X (C := RX7) (T := TX7) (N := 5) (ci := 5) (k := 4) (ty0 := tyX7) iX10_sell_X7 tyX7_ok nmX7 rfl kX10_sell_201 (Nat.le_of_ble_eq_true rfl) rfl (by decide) rfl rfl (by decide +kernel) rfl dX10_sell_72 ?_
      refine g_nmI (fun I19 eI19 => ?_)
      have h := h I19 eI19
      refine g_iload_n X dX10_sell_75 rfl 0 rfl ?_
      exact g_iret X R dX10_sell_76 h
    · have h := h.2 c8
      refine g_bipush X (v := (-4)) dX10_sell_23 (by decide) ?_
      exact g_iret X R dX10_sell_25 h
  · have h := h.2 c4
    refine g_bipush X (v := (-2)) dX10_sell_11 (by decide) ?_
    exact g_iret X R dX10_sell_13 h

/-! X10_undo.undo()I -/
def rmX10_undo : Room := { frames := 3, cells := 0, slots := 0, locals := 71 }
theorem yo_X10_undo : yX10_undo.cls = RX10 ∧ yX10_undo.cls ≠ "java/lang/invoke/MethodHandle" ∧ yX10_undo.cls ≠ "java/lang/invoke/VarHandle" ∧ (parseMethodDescriptor yX10_undo.desc).map (fun d => d.parameters.length) = some 0 := by decide +kernel
theorem kX10_undo_26 : Cond.fieldLink RX10 26 "SnowCourse" (TX10 2).2.1 (TX10 2).2.2.1 ∈ wsX10_undo := by decide +kernel
theorem iX10_undo_X10 : ∀ w ∈ u_ws RX10 TX10 9, w ∈ wsX10_undo := by decide +kernel
theorem kX10_undo_208 : Cond.fieldLink RX10 208 "SnowCourse$Chronicle" (TX0 5).2.1 (TX0 5).2.2.1 ∈ wsX10_undo := by decide +kernel
theorem iX10_undo_X0 : ∀ w ∈ u_ws RX0 TX0 6, w ∈ wsX10_undo := by decide +kernel
def vc_X10_undo  (I : MI) (J : MJ) (Q : Int32 → MI → MJ → Prop) : Prop := vc_X0_recall  I J (fun (r3 : Int32) (I1 : MI) (J2 : MJ) => ((r3 = 0 → Q (-4) I1 J2) ∧ (¬ r3 = 0 → Q (I1 14 5) I1 J2)))
set_option maxRecDepth 100000 in
set_option maxHeartbeats 4000000 in
theorem c_X10_undo (l : Launch) (E : ET)   : CI l yX10_undo wsX10_undo rmX10_undo E [.ref (ea E 0)] (vc_X10_undo ) := by
  refine CI.of (cc := cX10_undo) (maxL := 1) (own := RX10) (by decide) rfl rfl (Nat.le_of_ble_eq_true rfl) ?_
  intro Z I J Q hE hl X R h
  subst hE
  subst hl
  show GW Z 1 I J 0 [(0, .ref (ea (zE Z) 0))] []
  refine g_aload_n X dX10_undo_0 rfl 0 rfl ?_
  refine g_getr X (C := RX10) (T := TX10) (N := 9) (ci := 8) (k := 2) iX10_undo_X10 rfl kX10_undo_26 (Nat.le_of_ble_eq_true rfl) rfl (by decide) rfl rfl dX10_undo_1 ?_
  refine g_callVI X (As := []) (rest := []) (T := TX0) (N := 6) (c_X0_recall (zl Z) (zE Z) ) gX10_undo_X0_recall yo_X0_recall rfl ⟨Nat.le_of_ble_eq_true rfl, Nat.le_of_ble_eq_true rfl⟩ (Nat.le_of_ble_eq_true rfl) rfl rfl rfl dX10_undo_4 h (fun r3 I1 J2 h => ?_)
  refine g_if_eq X (tgt := 20) dX10_undo_7 (by decide) (fun c4 => ?_) (fun c4 => ?_)
  · have h := h.1 c4
    refine g_bipush X (v := (-4)) dX10_undo_20 (by decide) ?_
    exact g_iret X R dX10_undo_22 h
  · have h := h.2 c4
    refine g_aload_n X dX10_undo_10 rfl 0 rfl ?_
    refine g_getr X (C := RX10) (T := TX10) (N := 9) (ci := 8) (k := 2) iX10_undo_X10 rfl kX10_undo_26 (Nat.le_of_ble_eq_true rfl) rfl (by decide) rfl rfl dX10_undo_11 ?_
    refine g_geti X (C := RX0) (T := TX0) (N := 6) (ci := 0) (k := 5) iX10_undo_X0 rfl kX10_undo_208 (Nat.le_of_ble_eq_true rfl) rfl (by decide) rfl rfl dX10_undo_14 ?_
    refine g_goto X (tgt := 22) dX10_undo_17 (by decide) ?_
    exact g_iret X R dX10_undo_22 h

/-! X10_keep.keep(I)I -/
def rmX10_keep : Room := { frames := 3, cells := 0, slots := 0, locals := 72 }
theorem yo_X10_keep : yX10_keep.cls = RX10 ∧ yX10_keep.cls ≠ "java/lang/invoke/MethodHandle" ∧ yX10_keep.cls ≠ "java/lang/invoke/VarHandle" ∧ (parseMethodDescriptor yX10_keep.desc).map (fun d => d.parameters.length) = some 1 := by decide +kernel
theorem kX10_keep_26 : Cond.fieldLink RX10 26 "SnowCourse" (TX10 2).2.1 (TX10 2).2.2.1 ∈ wsX10_keep := by decide +kernel
theorem iX10_keep_X10 : ∀ w ∈ u_ws RX10 TX10 9, w ∈ wsX10_keep := by decide +kernel
def vc_X10_keep (p1 : Int32) (I : MI) (J : MJ) (Q : Int32 → MI → MJ → Prop) : Prop := vc_X10_within p1 0 1 I J (fun (r3 : Int32) (I1 : MI) (J2 : MJ) => ((¬ r3 = 0 → vc_X0_preserve p1 I1 J2 (fun (I5 : MI) (J6 : MJ) => Q p1 I5 J6)) ∧ (r3 = 0 → Q (-2) I1 J2)))
set_option maxRecDepth 100000 in
set_option maxHeartbeats 4000000 in
theorem c_X10_keep (l : Launch) (E : ET)  (p1 : Int32) : CI l yX10_keep wsX10_keep rmX10_keep E [.ref (ea E 0), .int p1] (vc_X10_keep p1) := by
  refine CI.of (cc := cX10_keep) (maxL := 2) (own := RX10) (by decide) rfl rfl (Nat.le_of_ble_eq_true rfl) ?_
  intro Z I J Q hE hl X R h
  subst hE
  subst hl
  show GW Z 2 I J 0 [(0, .ref (ea (zE Z) 0)), (1, .int p1)] []
  refine g_iload_n X dX10_keep_0 rfl 1 rfl ?_
  refine g_iconst X (v := 0) dX10_keep_1 (by decide) ?_
  refine g_iconst X (v := 1) dX10_keep_2 (by decide) ?_
  refine g_callSI X (As := [.int p1, .int 0, .int 1]) (rest := []) (c_X10_within (zl Z) (zE Z) p1 0 1) gX10_keep_X10_within yo_X10_within.2 rfl ⟨Nat.le_of_ble_eq_true rfl, Nat.le_of_ble_eq_true rfl⟩ rfl dX10_keep_3 h (fun r3 I1 J2 h => ?_)
  refine g_if_ne X (tgt := 12) dX10_keep_6 (by decide) (fun c4 => ?_) (fun c4 => ?_)
  · have h := h.1 c4
    refine g_aload_n X dX10_keep_12 rfl 0 rfl ?_
    refine g_getr X (C := RX10) (T := TX10) (N := 9) (ci := 8) (k := 2) iX10_keep_X10 rfl kX10_keep_26 (Nat.le_of_ble_eq_true rfl) rfl (by decide) rfl rfl dX10_keep_13 ?_
    refine g_iload_n X dX10_keep_16 rfl 1 rfl ?_
    refine g_callVV X (As := [.int p1]) (rest := []) (T := TX0) (N := 6) (c_X0_preserve (zl Z) (zE Z) p1) gX10_keep_X0_preserve yo_X0_preserve rfl ⟨Nat.le_of_ble_eq_true rfl, Nat.le_of_ble_eq_true rfl⟩ (Nat.le_of_ble_eq_true rfl) rfl rfl rfl dX10_keep_17 h (fun  I5 J6 h => ?_)
    refine g_iload_n X dX10_keep_20 rfl 1 rfl ?_
    exact g_iret X R dX10_keep_21 h
  · have h := h.2 c4
    refine g_bipush X (v := (-2)) dX10_keep_9 (by decide) ?_
    exact g_iret X R dX10_keep_11 h

/-! X10_back.back(I)I -/
def rmX10_back : Room := { frames := 3, cells := 0, slots := 0, locals := 72 }
theorem yo_X10_back : yX10_back.cls = RX10 ∧ yX10_back.cls ≠ "java/lang/invoke/MethodHandle" ∧ yX10_back.cls ≠ "java/lang/invoke/VarHandle" ∧ (parseMethodDescriptor yX10_back.desc).map (fun d => d.parameters.length) = some 1 := by decide +kernel
theorem kX10_back_26 : Cond.fieldLink RX10 26 "SnowCourse" (TX10 2).2.1 (TX10 2).2.2.1 ∈ wsX10_back := by decide +kernel
theorem iX10_back_X10 : ∀ w ∈ u_ws RX10 TX10 9, w ∈ wsX10_back := by decide +kernel
def vc_X10_back (p1 : Int32) (I : MI) (J : MJ) (Q : Int32 → MI → MJ → Prop) : Prop := vc_X10_within p1 0 1 I J (fun (r3 : Int32) (I1 : MI) (J2 : MJ) => ((¬ r3 = 0 → vc_X0_restore p1 I1 J2 (fun (r7 : Int32) (I5 : MI) (J6 : MJ) => ((r7 = 0 → Q (-4) I5 J6) ∧ (¬ r7 = 0 → Q p1 I5 J6)))) ∧ (r3 = 0 → Q (-2) I1 J2)))
set_option maxRecDepth 100000 in
set_option maxHeartbeats 4000000 in
theorem c_X10_back (l : Launch) (E : ET)  (p1 : Int32) : CI l yX10_back wsX10_back rmX10_back E [.ref (ea E 0), .int p1] (vc_X10_back p1) := by
  refine CI.of (cc := cX10_back) (maxL := 2) (own := RX10) (by decide) rfl rfl (Nat.le_of_ble_eq_true rfl) ?_
  intro Z I J Q hE hl X R h
  subst hE
  subst hl
  show GW Z 2 I J 0 [(0, .ref (ea (zE Z) 0)), (1, .int p1)] []
  refine g_iload_n X dX10_back_0 rfl 1 rfl ?_
  refine g_iconst X (v := 0) dX10_back_1 (by decide) ?_
  refine g_iconst X (v := 1) dX10_back_2 (by decide) ?_
  refine g_callSI X (As := [.int p1, .int 0, .int 1]) (rest := []) (c_X10_within (zl Z) (zE Z) p1 0 1) gX10_back_X10_within yo_X10_within.2 rfl ⟨Nat.le_of_ble_eq_true rfl, Nat.le_of_ble_eq_true rfl⟩ rfl dX10_back_3 h (fun r3 I1 J2 h => ?_)
  refine g_if_ne X (tgt := 12) dX10_back_6 (by decide) (fun c4 => ?_) (fun c4 => ?_)
  · have h := h.1 c4
    refine g_aload_n X dX10_back_12 rfl 0 rfl ?_
    refine g_getr X (C := RX10) (T := TX10) (N := 9) (ci := 8) (k := 2) iX10_back_X10 rfl kX10_back_26 (Nat.le_of_ble_eq_true rfl) rfl (by decide) rfl rfl dX10_back_13 ?_
    refine g_iload_n X dX10_back_16 rfl 1 rfl ?_
    refine g_callVI X (As := [.int p1]) (rest := []) (T := TX0) (N := 6) (c_X0_restore (zl Z) (zE Z) p1) gX10_back_X0_restore yo_X0_restore rfl ⟨Nat.le_of_ble_eq_true rfl, Nat.le_of_ble_eq_true rfl⟩ (Nat.le_of_ble_eq_true rfl) rfl rfl rfl dX10_back_17 h (fun r7 I5 J6 h => ?_)
    refine g_if_eq X (tgt := 27) dX10_back_20 (by decide) (fun c8 => ?_) (fun c8 => ?_)
    · have h := h.1 c8
      refine g_bipush X (v := (-4)) dX10_back_27 (by decide) ?_
      exact g_iret X R dX10_back_29 h
    · have h := h.2 c8
      refine g_iload_n X dX10_back_23 rfl 1 rfl ?_
      refine g_goto X (tgt := 29) dX10_back_24 (by decide) ?_
      exact g_iret X R dX10_back_29 h
  · have h := h.2 c4
    refine g_bipush X (v := (-2)) dX10_back_9 (by decide) ?_
    exact g_iret X R dX10_back_11 h
