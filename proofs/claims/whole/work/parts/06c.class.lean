/-! X10_comes.comes(III)I -/
def rmX10_comes : Room := { frames := 6, cells := 0, slots := 0, locals := 158 }
theorem yo_X10_comes : yX10_comes.cls = RX10 ∧ yX10_comes.cls ≠ "java/lang/invoke/MethodHandle" ∧ yX10_comes.cls ≠ "java/lang/invoke/VarHandle" ∧ (parseMethodDescriptor yX10_comes.desc).map (fun d => d.parameters.length) = some 3 := by decide +kernel
theorem kX10_comes_19 : Cond.fieldLink RX10 19 "SnowCourse" (TX10 1).2.1 (TX10 1).2.2.1 ∈ wsX10_comes := by decide +kernel
theorem iX10_comes_X10 : ∀ w ∈ u_ws RX10 TX10 9, w ∈ wsX10_comes := by decide +kernel
theorem kX10_comes_54 : Cond.fieldLink RX10 54 "SnowCourse" (TX10 6).2.1 (TX10 6).2.2.1 ∈ wsX10_comes := by decide +kernel
theorem kX10_comes_142 : Cond.fieldLink RX10 142 "SnowCourse$Country" (TX1 7).2.1 (TX1 7).2.2.1 ∈ wsX10_comes := by decide +kernel
theorem iX10_comes_X1 : ∀ w ∈ u_ws RX1 TX1 12, w ∈ wsX10_comes := by decide +kernel
def vc_X10_comes (p1 : Int32) (p2 : Int32) (p3 : Int32) (I : MI) (J : MJ) (Q : Int32 → MI → MJ → Prop) : Prop := vc_X1_hasCart p1 I J (fun (r3 : Int32) (I1 : MI) (J2 : MJ) => ((r3 = 0 → Q (-2) I1 J2) ∧ (¬ r3 = 0 → vc_X1_hasPlace p2 I1 J2 (fun (r7 : Int32) (I5 : MI) (J6 : MJ) => ((¬ r7 = 0 → vc_X10_within p3 0 2 I5 J6 (fun (r11 : Int32) (I9 : MI) (J10 : MJ) => ((¬ r11 = 0 → vp_in p1 4 ∧ vc_X10_spreadFrom 26 p1 (I9 13 (Int32.toNatClampNeg p1)) I9 J10 (fun (I14 : MI) (J15 : MJ) => ((¬ p3 = 2 → ((¬ p3 = 0 → vc_X5_soonestOfMost 26 p2 I14 J15 (fun (r20 : Int32) (I18 : MI) (J19 : MJ) => Q r20 I18 J19)) ∧ (p3 = 0 → vc_X5_mostIn 26 p2 I14 J15 (fun (r23 : Int32) (I21 : MI) (J22 : MJ) => Q r23 I21 J22)))) ∧ (p3 = 2 → vc_X5_unlikeIn 26 p2 I14 J15 (fun (r26 : Int32) (I24 : MI) (J25 : MJ) => Q r26 I24 J25))))) ∧ (r11 = 0 → Q (-3) I9 J10)))) ∧ (r7 = 0 → Q (-2) I5 J6))))))
set_option maxRecDepth 100000 in
set_option maxHeartbeats 4000000 in
theorem c_X10_comes (l : Launch) (E : ET)  (p1 : Int32) (p2 : Int32) (p3 : Int32) : CI l yX10_comes wsX10_comes rmX10_comes E [.ref (ea E 0), .int p1, .int p2, .int p3] (vc_X10_comes p1 p2 p3) := by
  refine CI.of (cc := cX10_comes) (maxL := 4) (own := RX10) (by decide) rfl rfl (Nat.le_of_ble_eq_true rfl) ?_
  intro Z I J Q hE hl X R h
  subst hE
  subst hl
  show GW Z 4 I J 0 [(0, .ref (ea (zE Z) 0)), (1, .int p1), (2, .int p2), (3, .int p3)] []
  refine g_aload_n X dX10_comes_0 rfl 0 rfl ?_
  refine g_getr X (C := RX10) (T := TX10) (N := 9) (ci := 8) (k := 1) iX10_comes_X10 rfl kX10_comes_19 (Nat.le_of_ble_eq_true rfl) rfl (by decide) rfl rfl dX10_comes_1 ?_
  refine g_iload_n X dX10_comes_4 rfl 1 rfl ?_
  refine g_callVI X (As := [.int p1]) (rest := []) (T := TX1) (N := 12) (c_X1_hasCart (zl Z) (zE Z) p1) gX10_comes_X1_hasCart yo_X1_hasCart rfl ⟨Nat.le_of_ble_eq_true rfl, Nat.le_of_ble_eq_true rfl⟩ (Nat.le_of_ble_eq_true rfl) rfl rfl rfl dX10_comes_5 h (fun r3 I1 J2 h => ?_)
  refine g_if_eq X (tgt := 22) dX10_comes_8 (by decide) (fun c4 => ?_) (fun c4 => ?_)
  · have h := h.1 c4
    refine g_bipush X (v := (-2)) dX10_comes_22 (by decide) ?_
    exact g_iret X R dX10_comes_24 h
  · have h := h.2 c4
    refine g_aload_n X dX10_comes_11 rfl 0 rfl ?_
    refine g_getr X (C := RX10) (T := TX10) (N := 9) (ci := 8) (k := 1) iX10_comes_X10 rfl kX10_comes_19 (Nat.le_of_ble_eq_true rfl) rfl (by decide) rfl rfl dX10_comes_12 ?_
    refine g_iload_n X dX10_comes_15 rfl 2 rfl ?_
    refine g_callVI X (As := [.int p2]) (rest := []) (T := TX1) (N := 12) (c_X1_hasPlace (zl Z) (zE Z) p2) gX10_comes_X1_hasPlace yo_X1_hasPlace rfl ⟨Nat.le_of_ble_eq_true rfl, Nat.le_of_ble_eq_true rfl⟩ (Nat.le_of_ble_eq_true rfl) rfl rfl rfl dX10_comes_16 h (fun r7 I5 J6 h => ?_)
    refine g_if_ne X (tgt := 25) dX10_comes_19 (by decide) (fun c8 => ?_) (fun c8 => ?_)
    · have h := h.1 c8
      refine g_iload_n X dX10_comes_25 rfl 3 rfl ?_
      refine g_iconst X (v := 0) dX10_comes_26 (by decide) ?_
      refine g_iconst X (v := 2) dX10_comes_27 (by decide) ?_
      refine g_callSI X (As := [.int p3, .int 0, .int 2]) (rest := []) (c_X10_within (zl Z) (zE Z) p3 0 2) gX10_comes_X10_within yo_X10_within.2 rfl ⟨Nat.le_of_ble_eq_true rfl, Nat.le_of_ble_eq_true rfl⟩ rfl dX10_comes_28 h (fun r11 I9 J10 h => ?_)
      refine g_if_ne X (tgt := 37) dX10_comes_31 (by decide) (fun c12 => ?_) (fun c12 => ?_)
      · have h := h.1 c12
        refine g_aload_n X dX10_comes_37 rfl 0 rfl ?_
        refine g_aload_n X dX10_comes_38 rfl 0 rfl ?_
        refine g_getr X (C := RX10) (T := TX10) (N := 9) (ci := 8) (k := 6) iX10_comes_X10 rfl kX10_comes_54 (Nat.le_of_ble_eq_true rfl) rfl (by decide) rfl rfl dX10_comes_39 ?_
        refine g_iload_n X dX10_comes_42 rfl 1 rfl ?_
        refine g_aload_n X dX10_comes_43 rfl 0 rfl ?_
        refine g_getr X (C := RX10) (T := TX10) (N := 9) (ci := 8) (k := 1) iX10_comes_X10 rfl kX10_comes_19 (Nat.le_of_ble_eq_true rfl) rfl (by decide) rfl rfl dX10_comes_44 ?_
        refine g_getr X (C := RX1) (T := TX1) (N := 12) (ci := 1) (k := 7) iX10_comes_X1 rfl kX10_comes_142 (Nat.le_of_ble_eq_true rfl) rfl (by decide) rfl rfl dX10_comes_47 ?_
        refine g_iload_n X dX10_comes_50 rfl 1 rfl ?_
        obtain ⟨b13, h⟩ := h
        refine g_iald X (Nat.le_of_ble_eq_true rfl) rfl b13 dX10_comes_51 ?_
        refine g_callVV X (As := [.ref (ea (zE Z) 26), .int p1, .int (I9 13 (Int32.toNatClampNeg p1))]) (rest := []) (T := TX10) (N := 9) (c_X10_spreadFrom (zl Z) (zE Z) (by unfold isRe; decide) p1 (I9 13 (Int32.toNatClampNeg p1))) gX10_comes_X10_spreadFrom yo_X10_spreadFrom rfl ⟨Nat.le_of_ble_eq_true rfl, Nat.le_of_ble_eq_true rfl⟩ (Nat.le_of_ble_eq_true rfl) rfl rfl rfl dX10_comes_52 h (fun  I14 J15 h => ?_)
        refine g_iload_n X dX10_comes_55 rfl 3 rfl ?_
        refine g_iconst X (v := 2) dX10_comes_56 (by decide) ?_
        refine g_icmp_ne X (tgt := 69) dX10_comes_57 (by decide) (fun c16 => ?_) (fun c16 => ?_)
        · have h := h.1 c16
          refine g_iload_n X dX10_comes_69 rfl 3 rfl ?_
          refine g_if_ne X (tgt := 84) dX10_comes_70 (by decide) (fun c17 => ?_) (fun c17 => ?_)
          · have h := h.1 c17
            refine g_aload_n X dX10_comes_84 rfl 0 rfl ?_
            refine g_getr X (C := RX10) (T := TX10) (N := 9) (ci := 8) (k := 6) iX10_comes_X10 rfl kX10_comes_54 (Nat.le_of_ble_eq_true rfl) rfl (by decide) rfl rfl dX10_comes_85 ?_
            refine g_iload_n X dX10_comes_88 rfl 2 rfl ?_
            refine g_callVI X (As := [.int p2]) (rest := []) (T := TX5) (N := 1) (c_X5_soonestOfMost (zl Z) (zE Z) (by unfold isRe; decide) p2) gX10_comes_X5_soonestOfMost yo_X5_soonestOfMost rfl ⟨Nat.le_of_ble_eq_true rfl, Nat.le_of_ble_eq_true rfl⟩ (Nat.le_of_ble_eq_true rfl) rfl rfl rfl dX10_comes_89 h (fun r20 I18 J19 h => ?_)
            exact g_iret X R dX10_comes_92 h
          · have h := h.2 c17
            refine g_aload_n X dX10_comes_73 rfl 0 rfl ?_
            refine g_getr X (C := RX10) (T := TX10) (N := 9) (ci := 8) (k := 6) iX10_comes_X10 rfl kX10_comes_54 (Nat.le_of_ble_eq_true rfl) rfl (by decide) rfl rfl dX10_comes_74 ?_
            refine g_iload_n X dX10_comes_77 rfl 2 rfl ?_
            refine g_callVI X (As := [.int p2]) (rest := []) (T := TX5) (N := 1) (c_X5_mostIn (zl Z) (zE Z) (by unfold isRe; decide) p2) gX10_comes_X5_mostIn yo_X5_mostIn rfl ⟨Nat.le_of_ble_eq_true rfl, Nat.le_of_ble_eq_true rfl⟩ (Nat.le_of_ble_eq_true rfl) rfl rfl rfl dX10_comes_78 h (fun r23 I21 J22 h => ?_)
            refine g_goto X (tgt := 92) dX10_comes_81 (by decide) ?_
            exact g_iret X R dX10_comes_92 h
        · have h := h.2 c16
          refine g_aload_n X dX10_comes_60 rfl 0 rfl ?_
          refine g_getr X (C := RX10) (T := TX10) (N := 9) (ci := 8) (k := 6) iX10_comes_X10 rfl kX10_comes_54 (Nat.le_of_ble_eq_true rfl) rfl (by decide) rfl rfl dX10_comes_61 ?_
          refine g_iload_n X dX10_comes_64 rfl 2 rfl ?_
          refine g_callVI X (As := [.int p2]) (rest := []) (T := TX5) (N := 1) (c_X5_unlikeIn (zl Z) (zE Z) (by unfold isRe; decide) p2) gX10_comes_X5_unlikeIn yo_X5_unlikeIn rfl ⟨Nat.le_of_ble_eq_true rfl, Nat.le_of_ble_eq_true rfl⟩ (Nat.le_of_ble_eq_true rfl) rfl rfl rfl dX10_comes_65 h (fun r26 I24 J25 h => ?_)
          exact g_iret X R dX10_comes_68 h
      · have h := h.2 c12
        refine g_bipush X (v := (-3)) dX10_comes_34 (by decide) ?_
        exact g_iret X R dX10_comes_36 h
    · have h := h.2 c8
      refine g_bipush X (v := (-2)) dX10_comes_22 (by decide) ?_
      exact g_iret X R dX10_comes_24 h

/-! X10_straw.straw(IIII)I -/
def rmX10_straw : Room := { frames := 6, cells := 0, slots := 0, locals := 158 }
theorem yo_X10_straw : yX10_straw.cls = RX10 ∧ yX10_straw.cls ≠ "java/lang/invoke/MethodHandle" ∧ yX10_straw.cls ≠ "java/lang/invoke/VarHandle" ∧ (parseMethodDescriptor yX10_straw.desc).map (fun d => d.parameters.length) = some 4 := by decide +kernel
theorem kX10_straw_54 : Cond.fieldLink RX10 54 "SnowCourse" (TX10 6).2.1 (TX10 6).2.2.1 ∈ wsX10_straw := by decide +kernel
theorem iX10_straw_X10 : ∀ w ∈ u_ws RX10 TX10 9, w ∈ wsX10_straw := by decide +kernel
theorem kX10_straw_19 : Cond.fieldLink RX10 19 "SnowCourse" (TX10 1).2.1 (TX10 1).2.2.1 ∈ wsX10_straw := by decide +kernel
def vc_X10_straw_L52s  (Q : Int32 → MI → MJ → Prop)  (k52 : Int32 → Int32 → Int32 → Int32 → Int32 → MI → MJ → Prop) (v1 : Int32) (v2 : Int32) (v3 : Int32) (v4 : Int32) (v5 : Int32) (I : MI) (J : MJ) : Prop := ((3 < v5 → Q (-1) I J) ∧ (¬ 3 < v5 → vc_X10_spreadFrom 26 v1 v5 I J (fun (I2 : MI) (J3 : MJ) => vc_X5_mayHave 26 v2 v3 v4 I2 J3 (fun (r6 : Int32) (I4 : MI) (J5 : MJ) => ((r6 = 0 → ∀ x8 : Int32, x8 = v5 + 1 → k52 v1 v2 v3 v4 x8 I4 J5) ∧ (¬ r6 = 0 → Q v5 I4 J5))))))
def vc_X10_straw_L52  (Q : Int32 → MI → MJ → Prop)  (n : Nat) : Int32 → Int32 → Int32 → Int32 → Int32 → MI → MJ → Prop := Nat.rec (fun _ _ _ _ _ _ _ => False) (fun _ ih => vc_X10_straw_L52s  Q  ih) n
set_option maxRecDepth 100000 in
set_option maxHeartbeats 4000000 in
theorem w_X10_straw_L52s {Z : RT}  (X : Cx Z cX10_straw 6 RX10 wsX10_straw rmX10_straw (some .int)) {Q : Int32 → MI → MJ → Prop} (R : RI Z Q)    {k52 : Int32 → Int32 → Int32 → Int32 → Int32 → MI → MJ → Prop} (hk52 : ∀ (v1 : Int32) (v2 : Int32) (v3 : Int32) (v4 : Int32) (v5 : Int32) (I : MI) (J : MJ), k52 v1 v2 v3 v4 v5 I J → GW Z 6 I J 52 [(0, .ref (ea (zE Z) 0)), (1, .int v1), (2, .int v2), (3, .int v3), (4, .int v4), (5, .int v5)] []) (v1 : Int32) (v2 : Int32) (v3 : Int32) (v4 : Int32) (v5 : Int32) (I : MI) (J : MJ) (h : vc_X10_straw_L52s  Q  k52 v1 v2 v3 v4 v5 I J) : GW Z 6 I J 52 [(0, .ref (ea (zE Z) 0)), (1, .int v1), (2, .int v2), (3, .int v3), (4, .int v4), (5, .int v5)] [] := by
  refine g_iload X dX10_straw_52 5 rfl ?_
  refine g_iconst X (v := 3) dX10_straw_54 (by decide) ?_
  refine g_icmp_gt X (tgt := 92) dX10_straw_55 (by decide) (fun c1 => ?_) (fun c1 => ?_)
  · have h := h.1 c1
    refine g_iconst X (v := (-1)) dX10_straw_92 (by decide) ?_
    exact g_iret X R dX10_straw_93 h
  · have h := h.2 c1
    refine g_aload_n X dX10_straw_58 rfl 0 rfl ?_
    refine g_aload_n X dX10_straw_59 rfl 0 rfl ?_
    refine g_getr X (C := RX10) (T := TX10) (N := 9) (ci := 8) (k := 6) iX10_straw_X10 rfl kX10_straw_54 (Nat.le_of_ble_eq_true rfl) rfl (by decide) rfl rfl dX10_straw_60 ?_
    refine g_iload_n X dX10_straw_63 rfl 1 rfl ?_
    refine g_iload X dX10_straw_64 5 rfl ?_
    refine g_callVV X (As := [.ref (ea (zE Z) 26), .int v1, .int v5]) (rest := []) (T := TX10) (N := 9) (c_X10_spreadFrom (zl Z) (zE Z) (by unfold isRe; decide) v1 v5) gX10_straw_X10_spreadFrom yo_X10_spreadFrom rfl ⟨Nat.le_of_ble_eq_true rfl, Nat.le_of_ble_eq_true rfl⟩ (Nat.le_of_ble_eq_true rfl) rfl rfl rfl dX10_straw_66 h (fun  I2 J3 h => ?_)
    refine g_aload_n X dX10_straw_69 rfl 0 rfl ?_
    refine g_getr X (C := RX10) (T := TX10) (N := 9) (ci := 8) (k := 6) iX10_straw_X10 rfl kX10_straw_54 (Nat.le_of_ble_eq_true rfl) rfl (by decide) rfl rfl dX10_straw_70 ?_
    refine g_iload_n X dX10_straw_73 rfl 2 rfl ?_
    refine g_iload_n X dX10_straw_74 rfl 3 rfl ?_
    refine g_iload X dX10_straw_75 4 rfl ?_
    refine g_callVI X (As := [.int v2, .int v3, .int v4]) (rest := []) (T := TX5) (N := 1) (c_X5_mayHave (zl Z) (zE Z) (by unfold isRe; decide) v2 v3 v4) gX10_straw_X5_mayHave yo_X5_mayHave rfl ⟨Nat.le_of_ble_eq_true rfl, Nat.le_of_ble_eq_true rfl⟩ (Nat.le_of_ble_eq_true rfl) rfl rfl rfl dX10_straw_77 h (fun r6 I4 J5 h => ?_)
    refine g_if_eq X (tgt := 86) dX10_straw_80 (by decide) (fun c7 => ?_) (fun c7 => ?_)
    · have h := h.1 c7
      obtain ⟨x8, ex8⟩ : ∃ y : Int32, y = v5 + 1 := ⟨_, rfl⟩
      have h := h x8 ex8
      refine g_iinc X (q := 5) (v := x8) (lv' := [(5, .int x8), (0, .ref (ea (zE Z) 0)), (1, .int v1), (2, .int v2), (3, .int v3), (4, .int v4)]) dX10_straw_86 rfl (by rw [ex8]; rfl) (by decide) rfl ?_
      refine g_goto X (tgt := 52) dX10_straw_89 (by decide) ?_
      refine GW.sub (lv' := [(0, .ref (ea (zE Z) 0)), (1, .int v1), (2, .int v2), (3, .int v3), (4, .int v4), (5, .int x8)]) [1, 2, 3, 4, 5, 0] rfl ?_
      exact hk52 v1 v2 v3 v4 x8 I4 J5 h
    · have h := h.2 c7
      refine g_iload X dX10_straw_83 5 rfl ?_
      exact g_iret X R dX10_straw_85 h
theorem w_X10_straw_L52 {Z : RT}  (X : Cx Z cX10_straw 6 RX10 wsX10_straw rmX10_straw (some .int)) {Q : Int32 → MI → MJ → Prop} (R : RI Z Q)    : ∀ (n : Nat) (v1 : Int32) (v2 : Int32) (v3 : Int32) (v4 : Int32) (v5 : Int32) (I : MI) (J : MJ) (h : vc_X10_straw_L52  Q  n v1 v2 v3 v4 v5 I J), GW Z 6 I J 52 [(0, .ref (ea (zE Z) 0)), (1, .int v1), (2, .int v2), (3, .int v3), (4, .int v4), (5, .int v5)] [] := by
  intro n
  induction n with
  | zero => intro v1 v2 v3 v4 v5 I J h; exact h.elim
  | succ n ih => intro v1 v2 v3 v4 v5 I J h; exact w_X10_straw_L52s X R   ih v1 v2 v3 v4 v5 I J h
def vc_X10_straw (p1 : Int32) (p2 : Int32) (p3 : Int32) (p4 : Int32) (I : MI) (J : MJ) (Q : Int32 → MI → MJ → Prop) : Prop := vc_X1_hasCart p1 I J (fun (r11 : Int32) (I9 : MI) (J10 : MJ) => ((r11 = 0 → Q (-2) I9 J10) ∧ (¬ r11 = 0 → vc_X1_hasPlace p2 I9 J10 (fun (r15 : Int32) (I13 : MI) (J14 : MJ) => ((¬ r15 = 0 → vc_X10_within p3 0 99 I13 J14 (fun (r19 : Int32) (I17 : MI) (J18 : MJ) => ((r19 = 0 → Q (-3) I17 J18) ∧ (¬ r19 = 0 → vc_X10_within p4 0 48 I17 J18 (fun (r23 : Int32) (I21 : MI) (J22 : MJ) => ((¬ r23 = 0 → (∃ n, vc_X10_straw_L52  Q  n p1 p2 p3 p4 0 I21 J22)) ∧ (r23 = 0 → Q (-3) I21 J22))))))) ∧ (r15 = 0 → Q (-2) I13 J14))))))
set_option maxRecDepth 100000 in
set_option maxHeartbeats 4000000 in
theorem c_X10_straw (l : Launch) (E : ET)  (p1 : Int32) (p2 : Int32) (p3 : Int32) (p4 : Int32) : CI l yX10_straw wsX10_straw rmX10_straw E [.ref (ea E 0), .int p1, .int p2, .int p3, .int p4] (vc_X10_straw p1 p2 p3 p4) := by
  refine CI.of (cc := cX10_straw) (maxL := 6) (own := RX10) (by decide) rfl rfl (Nat.le_of_ble_eq_true rfl) ?_
  intro Z I J Q hE hl X R h
  subst hE
  subst hl
  show GW Z 6 I J 0 [(0, .ref (ea (zE Z) 0)), (1, .int p1), (2, .int p2), (3, .int p3), (4, .int p4)] []
  refine g_aload_n X dX10_straw_0 rfl 0 rfl ?_
  refine g_getr X (C := RX10) (T := TX10) (N := 9) (ci := 8) (k := 1) iX10_straw_X10 rfl kX10_straw_19 (Nat.le_of_ble_eq_true rfl) rfl (by decide) rfl rfl dX10_straw_1 ?_
  refine g_iload_n X dX10_straw_4 rfl 1 rfl ?_
  refine g_callVI X (As := [.int p1]) (rest := []) (T := TX1) (N := 12) (c_X1_hasCart (zl Z) (zE Z) p1) gX10_straw_X1_hasCart yo_X1_hasCart rfl ⟨Nat.le_of_ble_eq_true rfl, Nat.le_of_ble_eq_true rfl⟩ (Nat.le_of_ble_eq_true rfl) rfl rfl rfl dX10_straw_5 h (fun r11 I9 J10 h => ?_)
  refine g_if_eq X (tgt := 22) dX10_straw_8 (by decide) (fun c12 => ?_) (fun c12 => ?_)
  · have h := h.1 c12
    refine g_bipush X (v := (-2)) dX10_straw_22 (by decide) ?_
    exact g_iret X R dX10_straw_24 h
  · have h := h.2 c12
    refine g_aload_n X dX10_straw_11 rfl 0 rfl ?_
    refine g_getr X (C := RX10) (T := TX10) (N := 9) (ci := 8) (k := 1) iX10_straw_X10 rfl kX10_straw_19 (Nat.le_of_ble_eq_true rfl) rfl (by decide) rfl rfl dX10_straw_12 ?_
    refine g_iload_n X dX10_straw_15 rfl 2 rfl ?_
    refine g_callVI X (As := [.int p2]) (rest := []) (T := TX1) (N := 12) (c_X1_hasPlace (zl Z) (zE Z) p2) gX10_straw_X1_hasPlace yo_X1_hasPlace rfl ⟨Nat.le_of_ble_eq_true rfl, Nat.le_of_ble_eq_true rfl⟩ (Nat.le_of_ble_eq_true rfl) rfl rfl rfl dX10_straw_16 h (fun r15 I13 J14 h => ?_)
    refine g_if_ne X (tgt := 25) dX10_straw_19 (by decide) (fun c16 => ?_) (fun c16 => ?_)
    · have h := h.1 c16
      refine g_iload_n X dX10_straw_25 rfl 3 rfl ?_
      refine g_iconst X (v := 0) dX10_straw_26 (by decide) ?_
      refine g_bipush X (v := 99) dX10_straw_27 (by decide) ?_
      refine g_callSI X (As := [.int p3, .int 0, .int 99]) (rest := []) (c_X10_within (zl Z) (zE Z) p3 0 99) gX10_straw_X10_within yo_X10_within.2 rfl ⟨Nat.le_of_ble_eq_true rfl, Nat.le_of_ble_eq_true rfl⟩ rfl dX10_straw_29 h (fun r19 I17 J18 h => ?_)
      refine g_if_eq X (tgt := 46) dX10_straw_32 (by decide) (fun c20 => ?_) (fun c20 => ?_)
      · have h := h.1 c20
        refine g_bipush X (v := (-3)) dX10_straw_46 (by decide) ?_
        exact g_iret X R dX10_straw_48 h
      · have h := h.2 c20
        refine g_iload X dX10_straw_35 4 rfl ?_
        refine g_iconst X (v := 0) dX10_straw_37 (by decide) ?_
        refine g_bipush X (v := 48) dX10_straw_38 (by decide) ?_
        refine g_callSI X (As := [.int p4, .int 0, .int 48]) (rest := []) (c_X10_within (zl Z) (zE Z) p4 0 48) gX10_straw_X10_within yo_X10_within.2 rfl ⟨Nat.le_of_ble_eq_true rfl, Nat.le_of_ble_eq_true rfl⟩ rfl dX10_straw_40 h (fun r23 I21 J22 h => ?_)
        refine g_if_ne X (tgt := 49) dX10_straw_43 (by decide) (fun c24 => ?_) (fun c24 => ?_)
        · have h := h.1 c24
          refine g_iconst X (v := 0) dX10_straw_49 (by decide) ?_
          refine g_istore X (lv' := [(5, .int 0), (0, .ref (ea (zE Z) 0)), (1, .int p1), (2, .int p2), (3, .int p3), (4, .int p4)]) dX10_straw_50 (by decide) rfl ?_
          refine GW.sub (lv' := [(0, .ref (ea (zE Z) 0)), (1, .int p1), (2, .int p2), (3, .int p3), (4, .int p4), (5, .int 0)]) [1, 2, 3, 4, 5, 0] rfl ?_
          obtain ⟨n, h⟩ := h
          exact w_X10_straw_L52 X R   n p1 p2 p3 p4 0 I21 J22 h
        · have h := h.2 c24
          refine g_bipush X (v := (-3)) dX10_straw_46 (by decide) ?_
          exact g_iret X R dX10_straw_48 h
    · have h := h.2 c16
      refine g_bipush X (v := (-2)) dX10_straw_22 (by decide) ?_
      exact g_iret X R dX10_straw_24 h

/-! X10_meet.meet(IIII)I -/
def rmX10_meet : Room := { frames := 6, cells := 0, slots := 0, locals := 158 }
theorem yo_X10_meet : yX10_meet.cls = RX10 ∧ yX10_meet.cls ≠ "java/lang/invoke/MethodHandle" ∧ yX10_meet.cls ≠ "java/lang/invoke/VarHandle" ∧ (parseMethodDescriptor yX10_meet.desc).map (fun d => d.parameters.length) = some 4 := by decide +kernel
theorem kX10_meet_19 : Cond.fieldLink RX10 19 "SnowCourse" (TX10 1).2.1 (TX10 1).2.2.1 ∈ wsX10_meet := by decide +kernel
theorem iX10_meet_X10 : ∀ w ∈ u_ws RX10 TX10 9, w ∈ wsX10_meet := by decide +kernel
theorem kX10_meet_54 : Cond.fieldLink RX10 54 "SnowCourse" (TX10 6).2.1 (TX10 6).2.2.1 ∈ wsX10_meet := by decide +kernel
theorem kX10_meet_142 : Cond.fieldLink RX10 142 "SnowCourse$Country" (TX1 7).2.1 (TX1 7).2.2.1 ∈ wsX10_meet := by decide +kernel
theorem iX10_meet_X1 : ∀ w ∈ u_ws RX1 TX1 12, w ∈ wsX10_meet := by decide +kernel
theorem kX10_meet_58 : Cond.fieldLink RX10 58 "SnowCourse" (TX10 7).2.1 (TX10 7).2.2.1 ∈ wsX10_meet := by decide +kernel
theorem kX10_meet_61 : Cond.fieldLink RX10 61 "SnowCourse" (TX10 8).2.1 (TX10 8).2.2.1 ∈ wsX10_meet := by decide +kernel
theorem kX10_meet_234 : Cond.fieldLink RX10 234 "SnowCourse$Country" (TX1 8).2.1 (TX1 8).2.2.1 ∈ wsX10_meet := by decide +kernel
theorem kX10_meet_139 : Cond.fieldLink RX10 139 "SnowCourse$Country" (TX1 5).2.1 (TX1 5).2.2.1 ∈ wsX10_meet := by decide +kernel
def vc_X10_meet (p1 : Int32) (p2 : Int32) (p3 : Int32) (p4 : Int32) (I : MI) (J : MJ) (Q : Int32 → MI → MJ → Prop) : Prop := vc_X1_hasCart p1 I J (fun (r3 : Int32) (I1 : MI) (J2 : MJ) => ((r3 = 0 → Q (-2) I1 J2) ∧ (¬ r3 = 0 → vc_X1_hasCart p2 I1 J2 (fun (r7 : Int32) (I5 : MI) (J6 : MJ) => ((r7 = 0 → Q (-2) I5 J6) ∧ (¬ r7 = 0 → ((p1 = p2 → Q (-2) I5 J6) ∧ (¬ p1 = p2 → vc_X1_hasPlace p3 I5 J6 (fun (r12 : Int32) (I10 : MI) (J11 : MJ) => ((¬ r12 = 0 → vc_X10_within p4 0 1 I10 J11 (fun (r16 : Int32) (I14 : MI) (J15 : MJ) => ((¬ r16 = 0 → vp_in p1 4 ∧ vc_X10_spreadFrom 26 p1 (I14 13 (Int32.toNatClampNeg p1)) I14 J15 (fun (I19 : MI) (J20 : MJ) => vp_in p2 4 ∧ vc_X10_spreadFrom 28 p2 (I19 13 (Int32.toNatClampNeg p2)) I19 J20 (fun (I22 : MI) (J23 : MJ) => vc_X5_joinOf 30 26 28 (I22 5 8) I22 J23 (fun (I24 : MI) (J25 : MJ) => vp_in p1 4 ∧ vp_in p1 4 ∧ vc_X5_spread 30 (I24 11 (Int32.toNatClampNeg p1)) (I24 13 (Int32.toNatClampNeg p1)) I24 J25 (fun (I28 : MI) (J29 : MJ) => ((¬ p4 = 0 → vc_X5_soonestOfMost 30 p3 I28 J29 (fun (r33 : Int32) (I31 : MI) (J32 : MJ) => Q r33 I31 J32)) ∧ (p4 = 0 → vc_X5_mostIn 30 p3 I28 J29 (fun (r36 : Int32) (I34 : MI) (J35 : MJ) => Q r36 I34 J35)))))))) ∧ (r16 = 0 → Q (-3) I14 J15)))) ∧ (r12 = 0 → Q (-2) I10 J11)))))))))))
set_option maxRecDepth 100000 in
set_option maxHeartbeats 4000000 in
theorem c_X10_meet (l : Launch) (E : ET)  (p1 : Int32) (p2 : Int32) (p3 : Int32) (p4 : Int32) : CI l yX10_meet wsX10_meet rmX10_meet E [.ref (ea E 0), .int p1, .int p2, .int p3, .int p4] (vc_X10_meet p1 p2 p3 p4) := by
  refine CI.of (cc := cX10_meet) (maxL := 5) (own := RX10) (by decide) rfl rfl (Nat.le_of_ble_eq_true rfl) ?_
  intro Z I J Q hE hl X R h
  subst hE
  subst hl
  show GW Z 5 I J 0 [(0, .ref (ea (zE Z) 0)), (1, .int p1), (2, .int p2), (3, .int p3), (4, .int p4)] []
  refine g_aload_n X dX10_meet_0 rfl 0 rfl ?_
  refine g_getr X (C := RX10) (T := TX10) (N := 9) (ci := 8) (k := 1) iX10_meet_X10 rfl kX10_meet_19 (Nat.le_of_ble_eq_true rfl) rfl (by decide) rfl rfl dX10_meet_1 ?_
  refine g_iload_n X dX10_meet_4 rfl 1 rfl ?_
  refine g_callVI X (As := [.int p1]) (rest := []) (T := TX1) (N := 12) (c_X1_hasCart (zl Z) (zE Z) p1) gX10_meet_X1_hasCart yo_X1_hasCart rfl ⟨Nat.le_of_ble_eq_true rfl, Nat.le_of_ble_eq_true rfl⟩ (Nat.le_of_ble_eq_true rfl) rfl rfl rfl dX10_meet_5 h (fun r3 I1 J2 h => ?_)
  refine g_if_eq X (tgt := 38) dX10_meet_8 (by decide) (fun c4 => ?_) (fun c4 => ?_)
  · have h := h.1 c4
    refine g_bipush X (v := (-2)) dX10_meet_38 (by decide) ?_
    exact g_iret X R dX10_meet_40 h
  · have h := h.2 c4
    refine g_aload_n X dX10_meet_11 rfl 0 rfl ?_
    refine g_getr X (C := RX10) (T := TX10) (N := 9) (ci := 8) (k := 1) iX10_meet_X10 rfl kX10_meet_19 (Nat.le_of_ble_eq_true rfl) rfl (by decide) rfl rfl dX10_meet_12 ?_
    refine g_iload_n X dX10_meet_15 rfl 2 rfl ?_
    refine g_callVI X (As := [.int p2]) (rest := []) (T := TX1) (N := 12) (c_X1_hasCart (zl Z) (zE Z) p2) gX10_meet_X1_hasCart yo_X1_hasCart rfl ⟨Nat.le_of_ble_eq_true rfl, Nat.le_of_ble_eq_true rfl⟩ (Nat.le_of_ble_eq_true rfl) rfl rfl rfl dX10_meet_16 h (fun r7 I5 J6 h => ?_)
    refine g_if_eq X (tgt := 38) dX10_meet_19 (by decide) (fun c8 => ?_) (fun c8 => ?_)
    · have h := h.1 c8
      refine g_bipush X (v := (-2)) dX10_meet_38 (by decide) ?_
      exact g_iret X R dX10_meet_40 h
    · have h := h.2 c8
      refine g_iload_n X dX10_meet_22 rfl 1 rfl ?_
      refine g_iload_n X dX10_meet_23 rfl 2 rfl ?_
      refine g_icmp_eq X (tgt := 38) dX10_meet_24 (by decide) (fun c9 => ?_) (fun c9 => ?_)
      · have h := h.1 c9
        refine g_bipush X (v := (-2)) dX10_meet_38 (by decide) ?_
        exact g_iret X R dX10_meet_40 h
      · have h := h.2 c9
        refine g_aload_n X dX10_meet_27 rfl 0 rfl ?_
        refine g_getr X (C := RX10) (T := TX10) (N := 9) (ci := 8) (k := 1) iX10_meet_X10 rfl kX10_meet_19 (Nat.le_of_ble_eq_true rfl) rfl (by decide) rfl rfl dX10_meet_28 ?_
        refine g_iload_n X dX10_meet_31 rfl 3 rfl ?_
        refine g_callVI X (As := [.int p3]) (rest := []) (T := TX1) (N := 12) (c_X1_hasPlace (zl Z) (zE Z) p3) gX10_meet_X1_hasPlace yo_X1_hasPlace rfl ⟨Nat.le_of_ble_eq_true rfl, Nat.le_of_ble_eq_true rfl⟩ (Nat.le_of_ble_eq_true rfl) rfl rfl rfl dX10_meet_32 h (fun r12 I10 J11 h => ?_)
        refine g_if_ne X (tgt := 41) dX10_meet_35 (by decide) (fun c13 => ?_) (fun c13 => ?_)
        · have h := h.1 c13
          refine g_iload X dX10_meet_41 4 rfl ?_
          refine g_iconst X (v := 0) dX10_meet_43 (by decide) ?_
          refine g_iconst X (v := 1) dX10_meet_44 (by decide) ?_
          refine g_callSI X (As := [.int p4, .int 0, .int 1]) (rest := []) (c_X10_within (zl Z) (zE Z) p4 0 1) gX10_meet_X10_within yo_X10_within.2 rfl ⟨Nat.le_of_ble_eq_true rfl, Nat.le_of_ble_eq_true rfl⟩ rfl dX10_meet_45 h (fun r16 I14 J15 h => ?_)
          refine g_if_ne X (tgt := 54) dX10_meet_48 (by decide) (fun c17 => ?_) (fun c17 => ?_)
          · have h := h.1 c17
            refine g_aload_n X dX10_meet_54 rfl 0 rfl ?_
            refine g_aload_n X dX10_meet_55 rfl 0 rfl ?_
            refine g_getr X (C := RX10) (T := TX10) (N := 9) (ci := 8) (k := 6) iX10_meet_X10 rfl kX10_meet_54 (Nat.le_of_ble_eq_true rfl) rfl (by decide) rfl rfl dX10_meet_56 ?_
            refine g_iload_n X dX10_meet_59 rfl 1 rfl ?_
            refine g_aload_n X dX10_meet_60 rfl 0 rfl ?_
            refine g_getr X (C := RX10) (T := TX10) (N := 9) (ci := 8) (k := 1) iX10_meet_X10 rfl kX10_meet_19 (Nat.le_of_ble_eq_true rfl) rfl (by decide) rfl rfl dX10_meet_61 ?_
            refine g_getr X (C := RX1) (T := TX1) (N := 12) (ci := 1) (k := 7) iX10_meet_X1 rfl kX10_meet_142 (Nat.le_of_ble_eq_true rfl) rfl (by decide) rfl rfl dX10_meet_64 ?_
            refine g_iload_n X dX10_meet_67 rfl 1 rfl ?_
            obtain ⟨b18, h⟩ := h
            refine g_iald X (Nat.le_of_ble_eq_true rfl) rfl b18 dX10_meet_68 ?_
            refine g_callVV X (As := [.ref (ea (zE Z) 26), .int p1, .int (I14 13 (Int32.toNatClampNeg p1))]) (rest := []) (T := TX10) (N := 9) (c_X10_spreadFrom (zl Z) (zE Z) (by unfold isRe; decide) p1 (I14 13 (Int32.toNatClampNeg p1))) gX10_meet_X10_spreadFrom yo_X10_spreadFrom rfl ⟨Nat.le_of_ble_eq_true rfl, Nat.le_of_ble_eq_true rfl⟩ (Nat.le_of_ble_eq_true rfl) rfl rfl rfl dX10_meet_69 h (fun  I19 J20 h => ?_)
            refine g_aload_n X dX10_meet_72 rfl 0 rfl ?_
            refine g_aload_n X dX10_meet_73 rfl 0 rfl ?_
            refine g_getr X (C := RX10) (T := TX10) (N := 9) (ci := 8) (k := 7) iX10_meet_X10 rfl kX10_meet_58 (Nat.le_of_ble_eq_true rfl) rfl (by decide) rfl rfl dX10_meet_74 ?_
            refine g_iload_n X dX10_meet_77 rfl 2 rfl ?_
            refine g_aload_n X dX10_meet_78 rfl 0 rfl ?_
            refine g_getr X (C := RX10) (T := TX10) (N := 9) (ci := 8) (k := 1) iX10_meet_X10 rfl kX10_meet_19 (Nat.le_of_ble_eq_true rfl) rfl (by decide) rfl rfl dX10_meet_79 ?_
            refine g_getr X (C := RX1) (T := TX1) (N := 12) (ci := 1) (k := 7) iX10_meet_X1 rfl kX10_meet_142 (Nat.le_of_ble_eq_true rfl) rfl (by decide) rfl rfl dX10_meet_82 ?_
            refine g_iload_n X dX10_meet_85 rfl 2 rfl ?_
            obtain ⟨b21, h⟩ := h
            refine g_iald X (Nat.le_of_ble_eq_true rfl) rfl b21 dX10_meet_86 ?_
            refine g_callVV X (As := [.ref (ea (zE Z) 28), .int p2, .int (I19 13 (Int32.toNatClampNeg p2))]) (rest := []) (T := TX10) (N := 9) (c_X10_spreadFrom (zl Z) (zE Z) (by unfold isRe; decide) p2 (I19 13 (Int32.toNatClampNeg p2))) gX10_meet_X10_spreadFrom yo_X10_spreadFrom rfl ⟨Nat.le_of_ble_eq_true rfl, Nat.le_of_ble_eq_true rfl⟩ (Nat.le_of_ble_eq_true rfl) rfl rfl rfl dX10_meet_87 h (fun  I22 J23 h => ?_)
            refine g_aload_n X dX10_meet_90 rfl 0 rfl ?_
            refine g_getr X (C := RX10) (T := TX10) (N := 9) (ci := 8) (k := 8) iX10_meet_X10 rfl kX10_meet_61 (Nat.le_of_ble_eq_true rfl) rfl (by decide) rfl rfl dX10_meet_91 ?_
            refine g_aload_n X dX10_meet_94 rfl 0 rfl ?_
            refine g_getr X (C := RX10) (T := TX10) (N := 9) (ci := 8) (k := 6) iX10_meet_X10 rfl kX10_meet_54 (Nat.le_of_ble_eq_true rfl) rfl (by decide) rfl rfl dX10_meet_95 ?_
            refine g_aload_n X dX10_meet_98 rfl 0 rfl ?_
            refine g_getr X (C := RX10) (T := TX10) (N := 9) (ci := 8) (k := 7) iX10_meet_X10 rfl kX10_meet_58 (Nat.le_of_ble_eq_true rfl) rfl (by decide) rfl rfl dX10_meet_99 ?_
            refine g_aload_n X dX10_meet_102 rfl 0 rfl ?_
            refine g_getr X (C := RX10) (T := TX10) (N := 9) (ci := 8) (k := 1) iX10_meet_X10 rfl kX10_meet_19 (Nat.le_of_ble_eq_true rfl) rfl (by decide) rfl rfl dX10_meet_103 ?_
            refine g_geti X (C := RX1) (T := TX1) (N := 12) (ci := 1) (k := 8) iX10_meet_X1 rfl kX10_meet_234 (Nat.le_of_ble_eq_true rfl) rfl (by decide) rfl rfl dX10_meet_106 ?_
            refine g_callVV X (As := [.ref (ea (zE Z) 26), .ref (ea (zE Z) 28), .int (I22 5 8)]) (rest := []) (T := TX5) (N := 1) (c_X5_joinOf (zl Z) (zE Z) (by unfold isRe; decide) (by unfold isRe; decide) (by unfold isRe; decide) (I22 5 8)) gX10_meet_X5_joinOf yo_X5_joinOf rfl ⟨Nat.le_of_ble_eq_true rfl, Nat.le_of_ble_eq_true rfl⟩ (Nat.le_of_ble_eq_true rfl) rfl rfl rfl dX10_meet_109 h (fun  I24 J25 h => ?_)
            refine g_aload_n X dX10_meet_112 rfl 0 rfl ?_
            refine g_getr X (C := RX10) (T := TX10) (N := 9) (ci := 8) (k := 8) iX10_meet_X10 rfl kX10_meet_61 (Nat.le_of_ble_eq_true rfl) rfl (by decide) rfl rfl dX10_meet_113 ?_
            refine g_aload_n X dX10_meet_116 rfl 0 rfl ?_
            refine g_getr X (C := RX10) (T := TX10) (N := 9) (ci := 8) (k := 1) iX10_meet_X10 rfl kX10_meet_19 (Nat.le_of_ble_eq_true rfl) rfl (by decide) rfl rfl dX10_meet_117 ?_
            refine g_aload_n X dX10_meet_120 rfl 0 rfl ?_
            refine g_getr X (C := RX10) (T := TX10) (N := 9) (ci := 8) (k := 1) iX10_meet_X10 rfl kX10_meet_19 (Nat.le_of_ble_eq_true rfl) rfl (by decide) rfl rfl dX10_meet_121 ?_
            refine g_getr X (C := RX1) (T := TX1) (N := 12) (ci := 1) (k := 5) iX10_meet_X1 rfl kX10_meet_139 (Nat.le_of_ble_eq_true rfl) rfl (by decide) rfl rfl dX10_meet_124 ?_
            refine g_iload_n X dX10_meet_127 rfl 1 rfl ?_
            obtain ⟨b26, h⟩ := h
            refine g_iald X (Nat.le_of_ble_eq_true rfl) rfl b26 dX10_meet_128 ?_
            refine g_aload_n X dX10_meet_129 rfl 0 rfl ?_
            refine g_getr X (C := RX10) (T := TX10) (N := 9) (ci := 8) (k := 1) iX10_meet_X10 rfl kX10_meet_19 (Nat.le_of_ble_eq_true rfl) rfl (by decide) rfl rfl dX10_meet_130 ?_
            refine g_getr X (C := RX1) (T := TX1) (N := 12) (ci := 1) (k := 7) iX10_meet_X1 rfl kX10_meet_142 (Nat.le_of_ble_eq_true rfl) rfl (by decide) rfl rfl dX10_meet_133 ?_
            refine g_iload_n X dX10_meet_136 rfl 1 rfl ?_
            obtain ⟨b27, h⟩ := h
            refine g_iald X (Nat.le_of_ble_eq_true rfl) rfl b27 dX10_meet_137 ?_
            refine g_callVV X (As := [.ref (ea (zE Z) 5), .int (I24 11 (Int32.toNatClampNeg p1)), .int (I24 13 (Int32.toNatClampNeg p1))]) (rest := []) (T := TX5) (N := 1) (c_X5_spread (zl Z) (zE Z) (by unfold isRe; decide) (I24 11 (Int32.toNatClampNeg p1)) (I24 13 (Int32.toNatClampNeg p1))) gX10_meet_X5_spread yo_X5_spread rfl ⟨Nat.le_of_ble_eq_true rfl, Nat.le_of_ble_eq_true rfl⟩ (Nat.le_of_ble_eq_true rfl) rfl rfl rfl dX10_meet_138 h (fun  I28 J29 h => ?_)
            refine g_iload X dX10_meet_141 4 rfl ?_
            refine g_if_ne X (tgt := 157) dX10_meet_143 (by decide) (fun c30 => ?_) (fun c30 => ?_)
            · have h := h.1 c30
              refine g_aload_n X dX10_meet_157 rfl 0 rfl ?_
              refine g_getr X (C := RX10) (T := TX10) (N := 9) (ci := 8) (k := 8) iX10_meet_X10 rfl kX10_meet_61 (Nat.le_of_ble_eq_true rfl) rfl (by decide) rfl rfl dX10_meet_158 ?_
              refine g_iload_n X dX10_meet_161 rfl 3 rfl ?_
              refine g_callVI X (As := [.int p3]) (rest := []) (T := TX5) (N := 1) (c_X5_soonestOfMost (zl Z) (zE Z) (by unfold isRe; decide) p3) gX10_meet_X5_soonestOfMost yo_X5_soonestOfMost rfl ⟨Nat.le_of_ble_eq_true rfl, Nat.le_of_ble_eq_true rfl⟩ (Nat.le_of_ble_eq_true rfl) rfl rfl rfl dX10_meet_162 h (fun r33 I31 J32 h => ?_)
              exact g_iret X R dX10_meet_165 h
            · have h := h.2 c30
              refine g_aload_n X dX10_meet_146 rfl 0 rfl ?_
              refine g_getr X (C := RX10) (T := TX10) (N := 9) (ci := 8) (k := 8) iX10_meet_X10 rfl kX10_meet_61 (Nat.le_of_ble_eq_true rfl) rfl (by decide) rfl rfl dX10_meet_147 ?_
              refine g_iload_n X dX10_meet_150 rfl 3 rfl ?_
              refine g_callVI X (As := [.int p3]) (rest := []) (T := TX5) (N := 1) (c_X5_mostIn (zl Z) (zE Z) (by unfold isRe; decide) p3) gX10_meet_X5_mostIn yo_X5_mostIn rfl ⟨Nat.le_of_ble_eq_true rfl, Nat.le_of_ble_eq_true rfl⟩ (Nat.le_of_ble_eq_true rfl) rfl rfl rfl dX10_meet_151 h (fun r36 I34 J35 h => ?_)
              refine g_goto X (tgt := 165) dX10_meet_154 (by decide) ?_
              exact g_iret X R dX10_meet_165 h
          · have h := h.2 c17
            refine g_bipush X (v := (-3)) dX10_meet_51 (by decide) ?_
            exact g_iret X R dX10_meet_53 h
        · have h := h.2 c13
          refine g_bipush X (v := (-2)) dX10_meet_38 (by decide) ?_
          exact g_iret X R dX10_meet_40 h

/-! X10_taker.taker(I)I -/
def rmX10_taker : Room := { frames := 1, cells := 0, slots := 0, locals := 22 }
theorem yo_X10_taker : yX10_taker.cls = RX10 ∧ yX10_taker.cls ≠ "java/lang/invoke/MethodHandle" ∧ yX10_taker.cls ≠ "java/lang/invoke/VarHandle" ∧ (parseMethodDescriptor yX10_taker.desc).map (fun d => d.parameters.length) = some 1 := by decide +kernel
theorem kX10_taker_33 : Cond.fieldLink RX10 33 "SnowCourse" (TX10 3).2.1 (TX10 3).2.2.1 ∈ wsX10_taker := by decide +kernel
theorem iX10_taker_X10 : ∀ w ∈ u_ws RX10 TX10 9, w ∈ wsX10_taker := by decide +kernel
theorem kX10_taker_90 : Cond.fieldLink RX10 90 "SnowCourse$Takers" (TX8 1).2.1 (TX8 1).2.2.1 ∈ wsX10_taker := by decide +kernel
theorem iX10_taker_X8 : ∀ w ∈ u_ws RX8 TX8 2, w ∈ wsX10_taker := by decide +kernel
def vc_X10_taker (p1 : Int32) (I : MI) (J : MJ) (Q : Int32 → MI → MJ → Prop) : Prop := vc_X10_within p1 1 30 I J (fun (r3 : Int32) (I1 : MI) (J2 : MJ) => ((¬ r3 = 0 → vc_X8_append p1 I1 J2 (fun (r7 : Int32) (I5 : MI) (J6 : MJ) => ((r7 = 0 → Q (-5) I5 J6) ∧ (¬ r7 = 0 → Q (I5 18 1) I5 J6)))) ∧ (r3 = 0 → Q (-3) I1 J2)))
set_option maxRecDepth 100000 in
set_option maxHeartbeats 4000000 in
theorem c_X10_taker (l : Launch) (E : ET)  (p1 : Int32) : CI l yX10_taker wsX10_taker rmX10_taker E [.ref (ea E 0), .int p1] (vc_X10_taker p1) := by
  refine CI.of (cc := cX10_taker) (maxL := 2) (own := RX10) (by decide) rfl rfl (Nat.le_of_ble_eq_true rfl) ?_
  intro Z I J Q hE hl X R h
  subst hE
  subst hl
  show GW Z 2 I J 0 [(0, .ref (ea (zE Z) 0)), (1, .int p1)] []
  refine g_iload_n X dX10_taker_0 rfl 1 rfl ?_
  refine g_iconst X (v := 1) dX10_taker_1 (by decide) ?_
  refine g_bipush X (v := 30) dX10_taker_2 (by decide) ?_
  refine g_callSI X (As := [.int p1, .int 1, .int 30]) (rest := []) (c_X10_within (zl Z) (zE Z) p1 1 30) gX10_taker_X10_within yo_X10_within.2 rfl ⟨Nat.le_of_ble_eq_true rfl, Nat.le_of_ble_eq_true rfl⟩ rfl dX10_taker_4 h (fun r3 I1 J2 h => ?_)
  refine g_if_ne X (tgt := 13) dX10_taker_7 (by decide) (fun c4 => ?_) (fun c4 => ?_)
  · have h := h.1 c4
    refine g_aload_n X dX10_taker_13 rfl 0 rfl ?_
    refine g_getr X (C := RX10) (T := TX10) (N := 9) (ci := 8) (k := 3) iX10_taker_X10 rfl kX10_taker_33 (Nat.le_of_ble_eq_true rfl) rfl (by decide) rfl rfl dX10_taker_14 ?_
    refine g_iload_n X dX10_taker_17 rfl 1 rfl ?_
    refine g_callVI X (As := [.int p1]) (rest := []) (T := TX8) (N := 2) (c_X8_append (zl Z) (zE Z) p1) gX10_taker_X8_append yo_X8_append rfl ⟨Nat.le_of_ble_eq_true rfl, Nat.le_of_ble_eq_true rfl⟩ (Nat.le_of_ble_eq_true rfl) rfl rfl rfl dX10_taker_18 h (fun r7 I5 J6 h => ?_)
    refine g_if_eq X (tgt := 34) dX10_taker_21 (by decide) (fun c8 => ?_) (fun c8 => ?_)
    · have h := h.1 c8
      refine g_bipush X (v := (-5)) dX10_taker_34 (by decide) ?_
      exact g_iret X R dX10_taker_36 h
    · have h := h.2 c8
      refine g_aload_n X dX10_taker_24 rfl 0 rfl ?_
      refine g_getr X (C := RX10) (T := TX10) (N := 9) (ci := 8) (k := 3) iX10_taker_X10 rfl kX10_taker_33 (Nat.le_of_ble_eq_true rfl) rfl (by decide) rfl rfl dX10_taker_25 ?_
      refine g_geti X (C := RX8) (T := TX8) (N := 2) (ci := 6) (k := 1) iX10_taker_X8 rfl kX10_taker_90 (Nat.le_of_ble_eq_true rfl) rfl (by decide) rfl rfl dX10_taker_28 ?_
      refine g_goto X (tgt := 36) dX10_taker_31 (by decide) ?_
      exact g_iret X R dX10_taker_36 h
  · have h := h.2 c4
    refine g_bipush X (v := (-3)) dX10_taker_10 (by decide) ?_
    exact g_iret X R dX10_taker_12 h

/-! X10_dismiss.dismiss()I -/
def rmX10_dismiss : Room := { frames := 0, cells := 0, slots := 0, locals := 0 }
theorem yo_X10_dismiss : yX10_dismiss.cls = RX10 ∧ yX10_dismiss.cls ≠ "java/lang/invoke/MethodHandle" ∧ yX10_dismiss.cls ≠ "java/lang/invoke/VarHandle" ∧ (parseMethodDescriptor yX10_dismiss.desc).map (fun d => d.parameters.length) = some 0 := by decide +kernel
theorem kX10_dismiss_33 : Cond.fieldLink RX10 33 "SnowCourse" (TX10 3).2.1 (TX10 3).2.2.1 ∈ wsX10_dismiss := by decide +kernel
theorem iX10_dismiss_X10 : ∀ w ∈ u_ws RX10 TX10 9, w ∈ wsX10_dismiss := by decide +kernel
theorem kX10_dismiss_90 : Cond.fieldLink RX10 90 "SnowCourse$Takers" (TX8 1).2.1 (TX8 1).2.2.1 ∈ wsX10_dismiss := by decide +kernel
theorem iX10_dismiss_X8 : ∀ w ∈ u_ws RX8 TX8 2, w ∈ wsX10_dismiss := by decide +kernel
def vc_X10_dismiss  (I : MI) (J : MJ) (Q : Int32 → MI → MJ → Prop) : Prop := ∀ x1 : Int32, x1 = I 18 1 → ∀ I2 : MI, I2 = wI I 18 1 0 → Q x1 I2 J
set_option maxRecDepth 100000 in
set_option maxHeartbeats 4000000 in
theorem c_X10_dismiss (l : Launch) (E : ET)   : CI l yX10_dismiss wsX10_dismiss rmX10_dismiss E [.ref (ea E 0)] (vc_X10_dismiss ) := by
  refine CI.of (cc := cX10_dismiss) (maxL := 2) (own := RX10) (by decide) rfl rfl (Nat.le_of_ble_eq_true rfl) ?_
  intro Z I J Q hE hl X R h
  subst hE
  subst hl
  show GW Z 2 I J 0 [(0, .ref (ea (zE Z) 0))] []
  refine g_aload_n X dX10_dismiss_0 rfl 0 rfl ?_
  refine g_getr X (C := RX10) (T := TX10) (N := 9) (ci := 8) (k := 3) iX10_dismiss_X10 rfl kX10_dismiss_33 (Nat.le_of_ble_eq_true rfl) rfl (by decide) rfl rfl dX10_dismiss_1 ?_
  refine g_geti X (C := RX8) (T := TX8) (N := 2) (ci := 6) (k := 1) iX10_dismiss_X8 rfl kX10_dismiss_90 (Nat.le_of_ble_eq_true rfl) rfl (by decide) rfl rfl dX10_dismiss_4 ?_
  refine g_topi (fun x1 ex1 => ?_)
  have h := h x1 ex1
  refine g_istore_n X (lv' := [(1, .int x1), (0, .ref (ea (zE Z) 0))]) dX10_dismiss_7 rfl (by decide) rfl ?_
  refine g_aload_n X dX10_dismiss_8 rfl 1 rfl ?_
  refine g_getr X (C := RX10) (T := TX10) (N := 9) (ci := 8) (k := 3) iX10_dismiss_X10 rfl kX10_dismiss_33 (Nat.le_of_ble_eq_true rfl) rfl (by decide) rfl rfl dX10_dismiss_9 ?_
  refine g_iconst X (v := 0) dX10_dismiss_12 (by decide) ?_
  refine g_puti X (C := RX8) (T := TX8) (N := 2) (ci := 6) (k := 1) (ty0 := tyX8) iX10_dismiss_X8 tyX8_ok nmX8 rfl kX10_dismiss_90 (Nat.le_of_ble_eq_true rfl) rfl (by decide) rfl rfl (by decide +kernel) rfl dX10_dismiss_13 ?_
  refine g_nmI (fun I2 eI2 => ?_)
  have h := h I2 eI2
  refine g_iload_n X dX10_dismiss_16 rfl 0 rfl ?_
  exact g_iret X R dX10_dismiss_17 h

/-! X10_left.left(III)I -/
def rmX10_left : Room := { frames := 4, cells := 0, slots := 0, locals := 90 }
theorem yo_X10_left : yX10_left.cls = RX10 ∧ yX10_left.cls ≠ "java/lang/invoke/MethodHandle" ∧ yX10_left.cls ≠ "java/lang/invoke/VarHandle" ∧ (parseMethodDescriptor yX10_left.desc).map (fun d => d.parameters.length) = some 3 := by decide +kernel
theorem kX10_left_33 : Cond.fieldLink RX10 33 "SnowCourse" (TX10 3).2.1 (TX10 3).2.2.1 ∈ wsX10_left := by decide +kernel
theorem iX10_left_X10 : ∀ w ∈ u_ws RX10 TX10 9, w ∈ wsX10_left := by decide +kernel
def vc_X10_left (p1 : Int32) (p2 : Int32) (p3 : Int32) (I : MI) (J : MJ) (Q : Int32 → MI → MJ → Prop) : Prop := vc_X10_within p1 0 999 I J (fun (r3 : Int32) (I1 : MI) (J2 : MJ) => ((r3 = 0 → Q (-3) I1 J2) ∧ (¬ r3 = 0 → vc_X10_within p2 0 999 I1 J2 (fun (r7 : Int32) (I5 : MI) (J6 : MJ) => ((r7 = 0 → Q (-3) I5 J6) ∧ (¬ r7 = 0 → vc_X10_within p3 0 1 I5 J6 (fun (r11 : Int32) (I9 : MI) (J10 : MJ) => ((¬ r11 = 0 → ((¬ p3 = 0 → vc_X8_leastLeaving p1 p2 I9 J10 (fun (r16 : Int32) (I14 : MI) (J15 : MJ) => Q r16 I14 J15)) ∧ (p3 = 0 → vc_X8_setsLeaving p1 p2 I9 J10 (fun (r19 : Int32) (I17 : MI) (J18 : MJ) => Q r19 I17 J18)))) ∧ (r11 = 0 → Q (-3) I9 J10)))))))))
set_option maxRecDepth 100000 in
set_option maxHeartbeats 4000000 in
theorem c_X10_left (l : Launch) (E : ET)  (p1 : Int32) (p2 : Int32) (p3 : Int32) : CI l yX10_left wsX10_left rmX10_left E [.ref (ea E 0), .int p1, .int p2, .int p3] (vc_X10_left p1 p2 p3) := by
  refine CI.of (cc := cX10_left) (maxL := 4) (own := RX10) (by decide) rfl rfl (Nat.le_of_ble_eq_true rfl) ?_
  intro Z I J Q hE hl X R h
  subst hE
  subst hl
  show GW Z 4 I J 0 [(0, .ref (ea (zE Z) 0)), (1, .int p1), (2, .int p2), (3, .int p3)] []
  refine g_iload_n X dX10_left_0 rfl 1 rfl ?_
  refine g_iconst X (v := 0) dX10_left_1 (by decide) ?_
  refine g_sipush X (v := 999) dX10_left_2 (by decide) ?_
  refine g_callSI X (As := [.int p1, .int 0, .int 999]) (rest := []) (c_X10_within (zl Z) (zE Z) p1 0 999) gX10_left_X10_within yo_X10_within.2 rfl ⟨Nat.le_of_ble_eq_true rfl, Nat.le_of_ble_eq_true rfl⟩ rfl dX10_left_5 h (fun r3 I1 J2 h => ?_)
  refine g_if_eq X (tgt := 31) dX10_left_8 (by decide) (fun c4 => ?_) (fun c4 => ?_)
  · have h := h.1 c4
    refine g_bipush X (v := (-3)) dX10_left_31 (by decide) ?_
    exact g_iret X R dX10_left_33 h
  · have h := h.2 c4
    refine g_iload_n X dX10_left_11 rfl 2 rfl ?_
    refine g_iconst X (v := 0) dX10_left_12 (by decide) ?_
    refine g_sipush X (v := 999) dX10_left_13 (by decide) ?_
    refine g_callSI X (As := [.int p2, .int 0, .int 999]) (rest := []) (c_X10_within (zl Z) (zE Z) p2 0 999) gX10_left_X10_within yo_X10_within.2 rfl ⟨Nat.le_of_ble_eq_true rfl, Nat.le_of_ble_eq_true rfl⟩ rfl dX10_left_16 h (fun r7 I5 J6 h => ?_)
    refine g_if_eq X (tgt := 31) dX10_left_19 (by decide) (fun c8 => ?_) (fun c8 => ?_)
    · have h := h.1 c8
      refine g_bipush X (v := (-3)) dX10_left_31 (by decide) ?_
      exact g_iret X R dX10_left_33 h
    · have h := h.2 c8
      refine g_iload_n X dX10_left_22 rfl 3 rfl ?_
      refine g_iconst X (v := 0) dX10_left_23 (by decide) ?_
      refine g_iconst X (v := 1) dX10_left_24 (by decide) ?_
      refine g_callSI X (As := [.int p3, .int 0, .int 1]) (rest := []) (c_X10_within (zl Z) (zE Z) p3 0 1) gX10_left_X10_within yo_X10_within.2 rfl ⟨Nat.le_of_ble_eq_true rfl, Nat.le_of_ble_eq_true rfl⟩ rfl dX10_left_25 h (fun r11 I9 J10 h => ?_)
      refine g_if_ne X (tgt := 34) dX10_left_28 (by decide) (fun c12 => ?_) (fun c12 => ?_)
      · have h := h.1 c12
        refine g_iload_n X dX10_left_34 rfl 3 rfl ?_
        refine g_if_ne X (tgt := 50) dX10_left_35 (by decide) (fun c13 => ?_) (fun c13 => ?_)
        · have h := h.1 c13
          refine g_aload_n X dX10_left_50 rfl 0 rfl ?_
          refine g_getr X (C := RX10) (T := TX10) (N := 9) (ci := 8) (k := 3) iX10_left_X10 rfl kX10_left_33 (Nat.le_of_ble_eq_true rfl) rfl (by decide) rfl rfl dX10_left_51 ?_
          refine g_iload_n X dX10_left_54 rfl 1 rfl ?_
          refine g_iload_n X dX10_left_55 rfl 2 rfl ?_
          refine g_callVI X (As := [.int p1, .int p2]) (rest := []) (T := TX8) (N := 2) (c_X8_leastLeaving (zl Z) (zE Z) p1 p2) gX10_left_X8_leastLeaving yo_X8_leastLeaving rfl ⟨Nat.le_of_ble_eq_true rfl, Nat.le_of_ble_eq_true rfl⟩ (Nat.le_of_ble_eq_true rfl) rfl rfl rfl dX10_left_56 h (fun r16 I14 J15 h => ?_)
          exact g_iret X R dX10_left_59 h
        · have h := h.2 c13
          refine g_aload_n X dX10_left_38 rfl 0 rfl ?_
          refine g_getr X (C := RX10) (T := TX10) (N := 9) (ci := 8) (k := 3) iX10_left_X10 rfl kX10_left_33 (Nat.le_of_ble_eq_true rfl) rfl (by decide) rfl rfl dX10_left_39 ?_
          refine g_iload_n X dX10_left_42 rfl 1 rfl ?_
          refine g_iload_n X dX10_left_43 rfl 2 rfl ?_
          refine g_callVI X (As := [.int p1, .int p2]) (rest := []) (T := TX8) (N := 2) (c_X8_setsLeaving (zl Z) (zE Z) p1 p2) gX10_left_X8_setsLeaving yo_X8_setsLeaving rfl ⟨Nat.le_of_ble_eq_true rfl, Nat.le_of_ble_eq_true rfl⟩ (Nat.le_of_ble_eq_true rfl) rfl rfl rfl dX10_left_44 h (fun r19 I17 J18 h => ?_)
          refine g_goto X (tgt := 59) dX10_left_47 (by decide) ?_
          exact g_iret X R dX10_left_59 h
      · have h := h.2 c12
        refine g_bipush X (v := (-3)) dX10_left_31 (by decide) ?_
        exact g_iret X R dX10_left_33 h

/-! X10_drip.drip(III)I -/
def rmX10_drip : Room := { frames := 4, cells := 0, slots := 0, locals := 103 }
theorem yo_X10_drip : yX10_drip.cls = RX10 ∧ yX10_drip.cls ≠ "java/lang/invoke/MethodHandle" ∧ yX10_drip.cls ≠ "java/lang/invoke/VarHandle" ∧ (parseMethodDescriptor yX10_drip.desc).map (fun d => d.parameters.length) = some 3 := by decide +kernel
theorem kX10_drip_19 : Cond.fieldLink RX10 19 "SnowCourse" (TX10 1).2.1 (TX10 1).2.2.1 ∈ wsX10_drip := by decide +kernel
theorem iX10_drip_X10 : ∀ w ∈ u_ws RX10 TX10 9, w ∈ wsX10_drip := by decide +kernel
theorem kX10_drip_252 : Cond.fieldLink RX10 252 "SnowCourse$Country" (TX1 9).2.1 (TX1 9).2.2.1 ∈ wsX10_drip := by decide +kernel
theorem iX10_drip_X1 : ∀ w ∈ u_ws RX1 TX1 12, w ∈ wsX10_drip := by decide +kernel
theorem kX10_drip_26 : Cond.fieldLink RX10 26 "SnowCourse" (TX10 2).2.1 (TX10 2).2.2.1 ∈ wsX10_drip := by decide +kernel
theorem kX10_drip_101 : Cond.fieldLink RX10 101 "SnowCourse$Chronicle" (TX0 0).2.1 (TX0 0).2.2.1 ∈ wsX10_drip := by decide +kernel
theorem iX10_drip_X0 : ∀ w ∈ u_ws RX0 TX0 6, w ∈ wsX10_drip := by decide +kernel
theorem kX10_drip_145 : Cond.fieldLink RX10 145 "SnowCourse$Standing" (TX7 0).2.1 (TX7 0).2.2.1 ∈ wsX10_drip := by decide +kernel
theorem iX10_drip_X7 : ∀ w ∈ u_ws RX7 TX7 5, w ∈ wsX10_drip := by decide +kernel
def vc_X10_drip_L74s  (Q : Int32 → MI → MJ → Prop)  (k74 : Int32 → Int32 → Int32 → Int32 → Int32 → Int32 → MI → MJ → Prop) (v1 : Int32) (v2 : Int32) (v3 : Int32) (v4 : Int32) (v5 : Int32) (v6 : Int32) (I : MI) (J : MJ) : Prop := (((I 5 9) ≤ v6 → Q v5 I J) ∧ (¬ (I 5 9) ≤ v6 → vc_X1_links v6 v4 v2 I J (fun (r4 : Int32) (I2 : MI) (J3 : MJ) => ((r4 = 0 → ∀ x6 : Int32, x6 = v6 + 1 → k74 v1 v2 v3 v4 v5 x6 I2 J3) ∧ (¬ r4 = 0 → vc_X10_comesInTime v1 v6 I2 J3 (fun (r9 : Int32) (I7 : MI) (J8 : MJ) => ((r9 = 0 → ∀ x11 : Int32, x11 = v6 + 1 → k74 v1 v2 v3 v4 v5 x11 I7 J8) ∧ (¬ r9 = 0 → vc_X10_afterGoing v1 v6 I7 J8 (fun (r14 : Int32) (I12 : MI) (J13 : MJ) => ((¬ r14 = v3 → ∀ x16 : Int32, x16 = v6 + 1 → k74 v1 v2 v3 v4 v5 x16 I12 J13) ∧ (r14 = v3 → ∀ x17 : Int32, x17 = v5 ||| (1 <<< (v6 &&& 31)) → ∀ x18 : Int32, x18 = v6 + 1 → k74 v1 v2 v3 v4 x17 x18 I12 J13)))))))))))
def vc_X10_drip_L74  (Q : Int32 → MI → MJ → Prop)  (n : Nat) : Int32 → Int32 → Int32 → Int32 → Int32 → Int32 → MI → MJ → Prop := Nat.rec (fun _ _ _ _ _ _ _ _ => False) (fun _ ih => vc_X10_drip_L74s  Q  ih) n
set_option maxRecDepth 100000 in
set_option maxHeartbeats 4000000 in
theorem w_X10_drip_L74s {Z : RT}  (X : Cx Z cX10_drip 7 RX10 wsX10_drip rmX10_drip (some .int)) {Q : Int32 → MI → MJ → Prop} (R : RI Z Q)    {k74 : Int32 → Int32 → Int32 → Int32 → Int32 → Int32 → MI → MJ → Prop} (hk74 : ∀ (v1 : Int32) (v2 : Int32) (v3 : Int32) (v4 : Int32) (v5 : Int32) (v6 : Int32) (I : MI) (J : MJ), k74 v1 v2 v3 v4 v5 v6 I J → GW Z 7 I J 74 [(0, .ref (ea (zE Z) 0)), (1, .int v1), (2, .int v2), (3, .int v3), (4, .int v4), (5, .int v5), (6, .int v6)] []) (v1 : Int32) (v2 : Int32) (v3 : Int32) (v4 : Int32) (v5 : Int32) (v6 : Int32) (I : MI) (J : MJ) (h : vc_X10_drip_L74s  Q  k74 v1 v2 v3 v4 v5 v6 I J) : GW Z 7 I J 74 [(0, .ref (ea (zE Z) 0)), (1, .int v1), (2, .int v2), (3, .int v3), (4, .int v4), (5, .int v5), (6, .int v6)] [] := by
  refine g_iload X dX10_drip_74 6 rfl ?_
  refine g_aload_n X dX10_drip_76 rfl 0 rfl ?_
  refine g_getr X (C := RX10) (T := TX10) (N := 9) (ci := 8) (k := 1) iX10_drip_X10 rfl kX10_drip_19 (Nat.le_of_ble_eq_true rfl) rfl (by decide) rfl rfl dX10_drip_77 ?_
  refine g_geti X (C := RX1) (T := TX1) (N := 12) (ci := 1) (k := 9) iX10_drip_X1 rfl kX10_drip_252 (Nat.le_of_ble_eq_true rfl) rfl (by decide) rfl rfl dX10_drip_80 ?_
  refine g_icmp_ge X (tgt := 137) dX10_drip_83 (by decide) (fun c1 => ?_) (fun c1 => ?_)
  · have h := h.1 c1
    refine g_iload X dX10_drip_137 5 rfl ?_
    exact g_iret X R dX10_drip_139 h
  · have h := h.2 c1
    refine g_aload_n X dX10_drip_86 rfl 0 rfl ?_
    refine g_getr X (C := RX10) (T := TX10) (N := 9) (ci := 8) (k := 1) iX10_drip_X10 rfl kX10_drip_19 (Nat.le_of_ble_eq_true rfl) rfl (by decide) rfl rfl dX10_drip_87 ?_
    refine g_iload X dX10_drip_90 6 rfl ?_
    refine g_iload X dX10_drip_92 4 rfl ?_
    refine g_iload_n X dX10_drip_94 rfl 2 rfl ?_
    refine g_callVI X (As := [.int v6, .int v4, .int v2]) (rest := []) (T := TX1) (N := 12) (c_X1_links (zl Z) (zE Z) v6 v4 v2) gX10_drip_X1_links yo_X1_links rfl ⟨Nat.le_of_ble_eq_true rfl, Nat.le_of_ble_eq_true rfl⟩ (Nat.le_of_ble_eq_true rfl) rfl rfl rfl dX10_drip_95 h (fun r4 I2 J3 h => ?_)
    refine g_if_eq X (tgt := 131) dX10_drip_98 (by decide) (fun c5 => ?_) (fun c5 => ?_)
    · have h := h.1 c5
      obtain ⟨x6, ex6⟩ : ∃ y : Int32, y = v6 + 1 := ⟨_, rfl⟩
      have h := h x6 ex6
      refine g_iinc X (q := 6) (v := x6) (lv' := [(6, .int x6), (0, .ref (ea (zE Z) 0)), (1, .int v1), (2, .int v2), (3, .int v3), (4, .int v4), (5, .int v5)]) dX10_drip_131 rfl (by rw [ex6]; rfl) (by decide) rfl ?_
      refine g_goto X (tgt := 74) dX10_drip_134 (by decide) ?_
      refine GW.sub (lv' := [(0, .ref (ea (zE Z) 0)), (1, .int v1), (2, .int v2), (3, .int v3), (4, .int v4), (5, .int v5), (6, .int x6)]) [1, 2, 3, 4, 5, 6, 0] rfl ?_
      exact hk74 v1 v2 v3 v4 v5 x6 I2 J3 h
    · have h := h.2 c5
      refine g_aload_n X dX10_drip_101 rfl 0 rfl ?_
      refine g_iload_n X dX10_drip_102 rfl 1 rfl ?_
      refine g_iload X dX10_drip_103 6 rfl ?_
      refine g_callVI X (As := [.int v1, .int v6]) (rest := []) (T := TX10) (N := 9) (c_X10_comesInTime (zl Z) (zE Z) v1 v6) gX10_drip_X10_comesInTime yo_X10_comesInTime rfl ⟨Nat.le_of_ble_eq_true rfl, Nat.le_of_ble_eq_true rfl⟩ (Nat.le_of_ble_eq_true rfl) rfl rfl rfl dX10_drip_105 h (fun r9 I7 J8 h => ?_)
      refine g_if_eq X (tgt := 131) dX10_drip_108 (by decide) (fun c10 => ?_) (fun c10 => ?_)
      · have h := h.1 c10
        obtain ⟨x11, ex11⟩ : ∃ y : Int32, y = v6 + 1 := ⟨_, rfl⟩
        have h := h x11 ex11
        refine g_iinc X (q := 6) (v := x11) (lv' := [(6, .int x11), (0, .ref (ea (zE Z) 0)), (1, .int v1), (2, .int v2), (3, .int v3), (4, .int v4), (5, .int v5)]) dX10_drip_131 rfl (by rw [ex11]; rfl) (by decide) rfl ?_
        refine g_goto X (tgt := 74) dX10_drip_134 (by decide) ?_
        refine GW.sub (lv' := [(0, .ref (ea (zE Z) 0)), (1, .int v1), (2, .int v2), (3, .int v3), (4, .int v4), (5, .int v5), (6, .int x11)]) [1, 2, 3, 4, 5, 6, 0] rfl ?_
        exact hk74 v1 v2 v3 v4 v5 x11 I7 J8 h
      · have h := h.2 c10
        refine g_aload_n X dX10_drip_111 rfl 0 rfl ?_
        refine g_iload_n X dX10_drip_112 rfl 1 rfl ?_
        refine g_iload X dX10_drip_113 6 rfl ?_
        refine g_callVI X (As := [.int v1, .int v6]) (rest := []) (T := TX10) (N := 9) (c_X10_afterGoing (zl Z) (zE Z) v1 v6) gX10_drip_X10_afterGoing yo_X10_afterGoing rfl ⟨Nat.le_of_ble_eq_true rfl, Nat.le_of_ble_eq_true rfl⟩ (Nat.le_of_ble_eq_true rfl) rfl rfl rfl dX10_drip_115 h (fun r14 I12 J13 h => ?_)
        refine g_iload_n X dX10_drip_118 rfl 3 rfl ?_
        refine g_icmp_ne X (tgt := 131) dX10_drip_119 (by decide) (fun c15 => ?_) (fun c15 => ?_)
        · have h := h.1 c15
          obtain ⟨x16, ex16⟩ : ∃ y : Int32, y = v6 + 1 := ⟨_, rfl⟩
          have h := h x16 ex16
          refine g_iinc X (q := 6) (v := x16) (lv' := [(6, .int x16), (0, .ref (ea (zE Z) 0)), (1, .int v1), (2, .int v2), (3, .int v3), (4, .int v4), (5, .int v5)]) dX10_drip_131 rfl (by rw [ex16]; rfl) (by decide) rfl ?_
          refine g_goto X (tgt := 74) dX10_drip_134 (by decide) ?_
          refine GW.sub (lv' := [(0, .ref (ea (zE Z) 0)), (1, .int v1), (2, .int v2), (3, .int v3), (4, .int v4), (5, .int v5), (6, .int x16)]) [1, 2, 3, 4, 5, 6, 0] rfl ?_
          exact hk74 v1 v2 v3 v4 v5 x16 I12 J13 h
        · have h := h.2 c15
          refine g_iload X dX10_drip_122 5 rfl ?_
          refine g_iconst X (v := 1) dX10_drip_124 (by decide) ?_
          refine g_iload X dX10_drip_125 6 rfl ?_
          refine g_ishl X dX10_drip_127 ?_
          refine g_ior X dX10_drip_128 ?_
          refine g_topi (fun x17 ex17 => ?_)
          have h := h x17 ex17
          refine g_istore X (lv' := [(5, .int x17), (0, .ref (ea (zE Z) 0)), (1, .int v1), (2, .int v2), (3, .int v3), (4, .int v4), (6, .int v6)]) dX10_drip_129 (by decide) rfl ?_
          obtain ⟨x18, ex18⟩ : ∃ y : Int32, y = v6 + 1 := ⟨_, rfl⟩
          have h := h x18 ex18
          refine g_iinc X (q := 6) (v := x18) (lv' := [(6, .int x18), (5, .int x17), (0, .ref (ea (zE Z) 0)), (1, .int v1), (2, .int v2), (3, .int v3), (4, .int v4)]) dX10_drip_131 rfl (by rw [ex18]; rfl) (by decide) rfl ?_
          refine g_goto X (tgt := 74) dX10_drip_134 (by decide) ?_
          refine GW.sub (lv' := [(0, .ref (ea (zE Z) 0)), (1, .int v1), (2, .int v2), (3, .int v3), (4, .int v4), (5, .int x17), (6, .int x18)]) [2, 3, 4, 5, 6, 1, 0] rfl ?_
          exact hk74 v1 v2 v3 v4 x17 x18 I12 J13 h
theorem w_X10_drip_L74 {Z : RT}  (X : Cx Z cX10_drip 7 RX10 wsX10_drip rmX10_drip (some .int)) {Q : Int32 → MI → MJ → Prop} (R : RI Z Q)    : ∀ (n : Nat) (v1 : Int32) (v2 : Int32) (v3 : Int32) (v4 : Int32) (v5 : Int32) (v6 : Int32) (I : MI) (J : MJ) (h : vc_X10_drip_L74  Q  n v1 v2 v3 v4 v5 v6 I J), GW Z 7 I J 74 [(0, .ref (ea (zE Z) 0)), (1, .int v1), (2, .int v2), (3, .int v3), (4, .int v4), (5, .int v5), (6, .int v6)] [] := by
  intro n
  induction n with
  | zero => intro v1 v2 v3 v4 v5 v6 I J h; exact h.elim
  | succ n ih => intro v1 v2 v3 v4 v5 v6 I J h; exact w_X10_drip_L74s X R   ih v1 v2 v3 v4 v5 v6 I J h
def vc_X10_drip (p1 : Int32) (p2 : Int32) (p3 : Int32) (I : MI) (J : MJ) (Q : Int32 → MI → MJ → Prop) : Prop := vc_X1_hasCart p1 I J (fun (r21 : Int32) (I19 : MI) (J20 : MJ) => ((r21 = 0 → Q (-2) I19 J20) ∧ (¬ r21 = 0 → vc_X1_hasPlace p2 I19 J20 (fun (r25 : Int32) (I23 : MI) (J24 : MJ) => ((r25 = 0 → Q (-2) I23 J24) ∧ (¬ r25 = 0 → vp_in p1 4 ∧ ((¬ (I23 33 (Int32.toNatClampNeg p1)) = p2 → vc_X10_within p3 0 99 I23 J24 (fun (r31 : Int32) (I29 : MI) (J30 : MJ) => ((¬ r31 = 0 → vp_in p1 4 ∧ ∀ x34 : Int32, x34 = I29 33 (Int32.toNatClampNeg p1) → (∃ n, vc_X10_drip_L74  Q  n p1 p2 p3 x34 0 0 I29 J30)) ∧ (r31 = 0 → Q (-3) I29 J30)))) ∧ ((I23 33 (Int32.toNatClampNeg p1)) = p2 → Q (-2) I23 J24))))))))
set_option maxRecDepth 100000 in
set_option maxHeartbeats 4000000 in
theorem c_X10_drip (l : Launch) (E : ET)  (p1 : Int32) (p2 : Int32) (p3 : Int32) : CI l yX10_drip wsX10_drip rmX10_drip E [.ref (ea E 0), .int p1, .int p2, .int p3] (vc_X10_drip p1 p2 p3) := by
  refine CI.of (cc := cX10_drip) (maxL := 7) (own := RX10) (by decide) rfl rfl (Nat.le_of_ble_eq_true rfl) ?_
  intro Z I J Q hE hl X R h
  subst hE
  subst hl
  show GW Z 7 I J 0 [(0, .ref (ea (zE Z) 0)), (1, .int p1), (2, .int p2), (3, .int p3)] []
  refine g_aload_n X dX10_drip_0 rfl 0 rfl ?_
  refine g_getr X (C := RX10) (T := TX10) (N := 9) (ci := 8) (k := 1) iX10_drip_X10 rfl kX10_drip_19 (Nat.le_of_ble_eq_true rfl) rfl (by decide) rfl rfl dX10_drip_1 ?_
  refine g_iload_n X dX10_drip_4 rfl 1 rfl ?_
  refine g_callVI X (As := [.int p1]) (rest := []) (T := TX1) (N := 12) (c_X1_hasCart (zl Z) (zE Z) p1) gX10_drip_X1_hasCart yo_X1_hasCart rfl ⟨Nat.le_of_ble_eq_true rfl, Nat.le_of_ble_eq_true rfl⟩ (Nat.le_of_ble_eq_true rfl) rfl rfl rfl dX10_drip_5 h (fun r21 I19 J20 h => ?_)
  refine g_if_eq X (tgt := 38) dX10_drip_8 (by decide) (fun c22 => ?_) (fun c22 => ?_)
  · have h := h.1 c22
    refine g_bipush X (v := (-2)) dX10_drip_38 (by decide) ?_
    exact g_iret X R dX10_drip_40 h
  · have h := h.2 c22
    refine g_aload_n X dX10_drip_11 rfl 0 rfl ?_
    refine g_getr X (C := RX10) (T := TX10) (N := 9) (ci := 8) (k := 1) iX10_drip_X10 rfl kX10_drip_19 (Nat.le_of_ble_eq_true rfl) rfl (by decide) rfl rfl dX10_drip_12 ?_
    refine g_iload_n X dX10_drip_15 rfl 2 rfl ?_
    refine g_callVI X (As := [.int p2]) (rest := []) (T := TX1) (N := 12) (c_X1_hasPlace (zl Z) (zE Z) p2) gX10_drip_X1_hasPlace yo_X1_hasPlace rfl ⟨Nat.le_of_ble_eq_true rfl, Nat.le_of_ble_eq_true rfl⟩ (Nat.le_of_ble_eq_true rfl) rfl rfl rfl dX10_drip_16 h (fun r25 I23 J24 h => ?_)
    refine g_if_eq X (tgt := 38) dX10_drip_19 (by decide) (fun c26 => ?_) (fun c26 => ?_)
    · have h := h.1 c26
      refine g_bipush X (v := (-2)) dX10_drip_38 (by decide) ?_
      exact g_iret X R dX10_drip_40 h
    · have h := h.2 c26
      refine g_aload_n X dX10_drip_22 rfl 0 rfl ?_
      refine g_getr X (C := RX10) (T := TX10) (N := 9) (ci := 8) (k := 2) iX10_drip_X10 rfl kX10_drip_26 (Nat.le_of_ble_eq_true rfl) rfl (by decide) rfl rfl dX10_drip_23 ?_
      refine g_getr X (C := RX0) (T := TX0) (N := 6) (ci := 0) (k := 0) iX10_drip_X0 rfl kX10_drip_101 (Nat.le_of_ble_eq_true rfl) rfl (by decide) rfl rfl dX10_drip_26 ?_
      refine g_getr X (C := RX7) (T := TX7) (N := 5) (ci := 5) (k := 0) iX10_drip_X7 rfl kX10_drip_145 (Nat.le_of_ble_eq_true rfl) rfl (by decide) rfl rfl dX10_drip_29 ?_
      refine g_iload_n X dX10_drip_32 rfl 1 rfl ?_
      obtain ⟨b27, h⟩ := h
      refine g_iald X (Nat.le_of_ble_eq_true rfl) rfl b27 dX10_drip_33 ?_
      refine g_iload_n X dX10_drip_34 rfl 2 rfl ?_
      refine g_icmp_ne X (tgt := 41) dX10_drip_35 (by decide) (fun c28 => ?_) (fun c28 => ?_)
      · have h := h.1 c28
        refine g_iload_n X dX10_drip_41 rfl 3 rfl ?_
        refine g_iconst X (v := 0) dX10_drip_42 (by decide) ?_
        refine g_bipush X (v := 99) dX10_drip_43 (by decide) ?_
        refine g_callSI X (As := [.int p3, .int 0, .int 99]) (rest := []) (c_X10_within (zl Z) (zE Z) p3 0 99) gX10_drip_X10_within yo_X10_within.2 rfl ⟨Nat.le_of_ble_eq_true rfl, Nat.le_of_ble_eq_true rfl⟩ rfl dX10_drip_45 h (fun r31 I29 J30 h => ?_)
        refine g_if_ne X (tgt := 54) dX10_drip_48 (by decide) (fun c32 => ?_) (fun c32 => ?_)
        · have h := h.1 c32
          refine g_aload_n X dX10_drip_54 rfl 0 rfl ?_
          refine g_getr X (C := RX10) (T := TX10) (N := 9) (ci := 8) (k := 2) iX10_drip_X10 rfl kX10_drip_26 (Nat.le_of_ble_eq_true rfl) rfl (by decide) rfl rfl dX10_drip_55 ?_
          refine g_getr X (C := RX0) (T := TX0) (N := 6) (ci := 0) (k := 0) iX10_drip_X0 rfl kX10_drip_101 (Nat.le_of_ble_eq_true rfl) rfl (by decide) rfl rfl dX10_drip_58 ?_
          refine g_getr X (C := RX7) (T := TX7) (N := 5) (ci := 5) (k := 0) iX10_drip_X7 rfl kX10_drip_145 (Nat.le_of_ble_eq_true rfl) rfl (by decide) rfl rfl dX10_drip_61 ?_
          refine g_iload_n X dX10_drip_64 rfl 1 rfl ?_
          obtain ⟨b33, h⟩ := h
          refine g_iald X (Nat.le_of_ble_eq_true rfl) rfl b33 dX10_drip_65 ?_
          refine g_topi (fun x34 ex34 => ?_)
          have h := h x34 ex34
          refine g_istore X (lv' := [(4, .int x34), (0, .ref (ea (zE Z) 0)), (1, .int p1), (2, .int p2), (3, .int p3)]) dX10_drip_66 (by decide) rfl ?_
          refine g_iconst X (v := 0) dX10_drip_68 (by decide) ?_
          refine g_istore X (lv' := [(5, .int 0), (4, .int x34), (0, .ref (ea (zE Z) 0)), (1, .int p1), (2, .int p2), (3, .int p3)]) dX10_drip_69 (by decide) rfl ?_
          refine g_iconst X (v := 0) dX10_drip_71 (by decide) ?_
          refine g_istore X (lv' := [(6, .int 0), (5, .int 0), (4, .int x34), (0, .ref (ea (zE Z) 0)), (1, .int p1), (2, .int p2), (3, .int p3)]) dX10_drip_72 (by decide) rfl ?_
          refine GW.sub (lv' := [(0, .ref (ea (zE Z) 0)), (1, .int p1), (2, .int p2), (3, .int p3), (4, .int x34), (5, .int 0), (6, .int 0)]) [3, 4, 5, 6, 2, 1, 0] rfl ?_
          obtain ⟨n, h⟩ := h
          exact w_X10_drip_L74 X R   n p1 p2 p3 x34 0 0 I29 J30 h
        · have h := h.2 c32
          refine g_bipush X (v := (-3)) dX10_drip_51 (by decide) ?_
          exact g_iret X R dX10_drip_53 h
      · have h := h.2 c28
        refine g_bipush X (v := (-2)) dX10_drip_38 (by decide) ?_
        exact g_iret X R dX10_drip_40 h

/-! X10_rent.rent(III)I -/
def rmX10_rent : Room := { frames := 5, cells := 0, slots := 0, locals := 126 }
theorem yo_X10_rent : yX10_rent.cls = RX10 ∧ yX10_rent.cls ≠ "java/lang/invoke/MethodHandle" ∧ yX10_rent.cls ≠ "java/lang/invoke/VarHandle" ∧ (parseMethodDescriptor yX10_rent.desc).map (fun d => d.parameters.length) = some 3 := by decide +kernel
theorem kX10_rent_19 : Cond.fieldLink RX10 19 "SnowCourse" (TX10 1).2.1 (TX10 1).2.2.1 ∈ wsX10_rent := by decide +kernel
theorem iX10_rent_X10 : ∀ w ∈ u_ws RX10 TX10 9, w ∈ wsX10_rent := by decide +kernel
def vc_X10_rent (p1 : Int32) (p2 : Int32) (p3 : Int32) (I : MI) (J : MJ) (Q : Int32 → MI → MJ → Prop) : Prop := vc_X1_hasCart p1 I J (fun (r3 : Int32) (I1 : MI) (J2 : MJ) => ((r3 = 0 → Q (-2) I1 J2) ∧ (¬ r3 = 0 → vc_X1_hasRoad p2 I1 J2 (fun (r7 : Int32) (I5 : MI) (J6 : MJ) => ((r7 = 0 → Q (-2) I5 J6) ∧ (¬ r7 = 0 → vc_X1_hasRoad p3 I5 J6 (fun (r11 : Int32) (I9 : MI) (J10 : MJ) => ((r11 = 0 → Q (-2) I9 J10) ∧ (¬ r11 = 0 → ((¬ p2 = p3 → vc_X10_mayGo p1 p2 I9 J10 (fun (r16 : Int32) (I14 : MI) (J15 : MJ) => ((r16 = 0 → Q (-4) I14 J15) ∧ (¬ r16 = 0 → vc_X10_mayGo p1 p3 I14 J15 (fun (r20 : Int32) (I18 : MI) (J19 : MJ) => ((¬ r20 = 0 → vc_X10_worthBy p1 p2 I18 J19 (fun (r24 : Int32) (I22 : MI) (J23 : MJ) => vc_X10_worthBy p1 p3 I22 J23 (fun (r27 : Int32) (I25 : MI) (J26 : MJ) => Q ((r24 - r27) + 9999) I25 J26))) ∧ (r20 = 0 → Q (-4) I18 J19))))))) ∧ (p2 = p3 → Q (-2) I9 J10)))))))))))
set_option maxRecDepth 100000 in
set_option maxHeartbeats 4000000 in
theorem c_X10_rent (l : Launch) (E : ET)  (p1 : Int32) (p2 : Int32) (p3 : Int32) : CI l yX10_rent wsX10_rent rmX10_rent E [.ref (ea E 0), .int p1, .int p2, .int p3] (vc_X10_rent p1 p2 p3) := by
  refine CI.of (cc := cX10_rent) (maxL := 4) (own := RX10) (by decide) rfl rfl (Nat.le_of_ble_eq_true rfl) ?_
  intro Z I J Q hE hl X R h
  subst hE
  subst hl
  show GW Z 4 I J 0 [(0, .ref (ea (zE Z) 0)), (1, .int p1), (2, .int p2), (3, .int p3)] []
  refine g_aload_n X dX10_rent_0 rfl 0 rfl ?_
  refine g_getr X (C := RX10) (T := TX10) (N := 9) (ci := 8) (k := 1) iX10_rent_X10 rfl kX10_rent_19 (Nat.le_of_ble_eq_true rfl) rfl (by decide) rfl rfl dX10_rent_1 ?_
  refine g_iload_n X dX10_rent_4 rfl 1 rfl ?_
  refine g_callVI X (As := [.int p1]) (rest := []) (T := TX1) (N := 12) (c_X1_hasCart (zl Z) (zE Z) p1) gX10_rent_X1_hasCart yo_X1_hasCart rfl ⟨Nat.le_of_ble_eq_true rfl, Nat.le_of_ble_eq_true rfl⟩ (Nat.le_of_ble_eq_true rfl) rfl rfl rfl dX10_rent_5 h (fun r3 I1 J2 h => ?_)
  refine g_if_eq X (tgt := 38) dX10_rent_8 (by decide) (fun c4 => ?_) (fun c4 => ?_)
  · have h := h.1 c4
    refine g_bipush X (v := (-2)) dX10_rent_38 (by decide) ?_
    exact g_iret X R dX10_rent_40 h
  · have h := h.2 c4
    refine g_aload_n X dX10_rent_11 rfl 0 rfl ?_
    refine g_getr X (C := RX10) (T := TX10) (N := 9) (ci := 8) (k := 1) iX10_rent_X10 rfl kX10_rent_19 (Nat.le_of_ble_eq_true rfl) rfl (by decide) rfl rfl dX10_rent_12 ?_
    refine g_iload_n X dX10_rent_15 rfl 2 rfl ?_
    refine g_callVI X (As := [.int p2]) (rest := []) (T := TX1) (N := 12) (c_X1_hasRoad (zl Z) (zE Z) p2) gX10_rent_X1_hasRoad yo_X1_hasRoad rfl ⟨Nat.le_of_ble_eq_true rfl, Nat.le_of_ble_eq_true rfl⟩ (Nat.le_of_ble_eq_true rfl) rfl rfl rfl dX10_rent_16 h (fun r7 I5 J6 h => ?_)
    refine g_if_eq X (tgt := 38) dX10_rent_19 (by decide) (fun c8 => ?_) (fun c8 => ?_)
    · have h := h.1 c8
      refine g_bipush X (v := (-2)) dX10_rent_38 (by decide) ?_
      exact g_iret X R dX10_rent_40 h
    · have h := h.2 c8
      refine g_aload_n X dX10_rent_22 rfl 0 rfl ?_
      refine g_getr X (C := RX10) (T := TX10) (N := 9) (ci := 8) (k := 1) iX10_rent_X10 rfl kX10_rent_19 (Nat.le_of_ble_eq_true rfl) rfl (by decide) rfl rfl dX10_rent_23 ?_
      refine g_iload_n X dX10_rent_26 rfl 3 rfl ?_
      refine g_callVI X (As := [.int p3]) (rest := []) (T := TX1) (N := 12) (c_X1_hasRoad (zl Z) (zE Z) p3) gX10_rent_X1_hasRoad yo_X1_hasRoad rfl ⟨Nat.le_of_ble_eq_true rfl, Nat.le_of_ble_eq_true rfl⟩ (Nat.le_of_ble_eq_true rfl) rfl rfl rfl dX10_rent_27 h (fun r11 I9 J10 h => ?_)
      refine g_if_eq X (tgt := 38) dX10_rent_30 (by decide) (fun c12 => ?_) (fun c12 => ?_)
      · have h := h.1 c12
        refine g_bipush X (v := (-2)) dX10_rent_38 (by decide) ?_
        exact g_iret X R dX10_rent_40 h
      · have h := h.2 c12
        refine g_iload_n X dX10_rent_33 rfl 2 rfl ?_
        refine g_iload_n X dX10_rent_34 rfl 3 rfl ?_
        refine g_icmp_ne X (tgt := 41) dX10_rent_35 (by decide) (fun c13 => ?_) (fun c13 => ?_)
        · have h := h.1 c13
          refine g_aload_n X dX10_rent_41 rfl 0 rfl ?_
          refine g_iload_n X dX10_rent_42 rfl 1 rfl ?_
          refine g_iload_n X dX10_rent_43 rfl 2 rfl ?_
          refine g_callVI X (As := [.int p1, .int p2]) (rest := []) (T := TX10) (N := 9) (c_X10_mayGo (zl Z) (zE Z) p1 p2) gX10_rent_X10_mayGo yo_X10_mayGo rfl ⟨Nat.le_of_ble_eq_true rfl, Nat.le_of_ble_eq_true rfl⟩ (Nat.le_of_ble_eq_true rfl) rfl rfl rfl dX10_rent_44 h (fun r16 I14 J15 h => ?_)
          refine g_if_eq X (tgt := 59) dX10_rent_47 (by decide) (fun c17 => ?_) (fun c17 => ?_)
          · have h := h.1 c17
            refine g_bipush X (v := (-4)) dX10_rent_59 (by decide) ?_
            exact g_iret X R dX10_rent_61 h
          · have h := h.2 c17
            refine g_aload_n X dX10_rent_50 rfl 0 rfl ?_
            refine g_iload_n X dX10_rent_51 rfl 1 rfl ?_
            refine g_iload_n X dX10_rent_52 rfl 3 rfl ?_
            refine g_callVI X (As := [.int p1, .int p3]) (rest := []) (T := TX10) (N := 9) (c_X10_mayGo (zl Z) (zE Z) p1 p3) gX10_rent_X10_mayGo yo_X10_mayGo rfl ⟨Nat.le_of_ble_eq_true rfl, Nat.le_of_ble_eq_true rfl⟩ (Nat.le_of_ble_eq_true rfl) rfl rfl rfl dX10_rent_53 h (fun r20 I18 J19 h => ?_)
            refine g_if_ne X (tgt := 62) dX10_rent_56 (by decide) (fun c21 => ?_) (fun c21 => ?_)
            · have h := h.1 c21
              refine g_aload_n X dX10_rent_62 rfl 0 rfl ?_
              refine g_iload_n X dX10_rent_63 rfl 1 rfl ?_
              refine g_iload_n X dX10_rent_64 rfl 2 rfl ?_
              refine g_callVI X (As := [.int p1, .int p2]) (rest := []) (T := TX10) (N := 9) (c_X10_worthBy (zl Z) (zE Z) p1 p2) gX10_rent_X10_worthBy yo_X10_worthBy rfl ⟨Nat.le_of_ble_eq_true rfl, Nat.le_of_ble_eq_true rfl⟩ (Nat.le_of_ble_eq_true rfl) rfl rfl rfl dX10_rent_65 h (fun r24 I22 J23 h => ?_)
              refine g_aload_n X dX10_rent_68 rfl 0 rfl ?_
              refine g_iload_n X dX10_rent_69 rfl 1 rfl ?_
              refine g_iload_n X dX10_rent_70 rfl 3 rfl ?_
              refine g_callVI X (As := [.int p1, .int p3]) (rest := [.int r24]) (T := TX10) (N := 9) (c_X10_worthBy (zl Z) (zE Z) p1 p3) gX10_rent_X10_worthBy yo_X10_worthBy rfl ⟨Nat.le_of_ble_eq_true rfl, Nat.le_of_ble_eq_true rfl⟩ (Nat.le_of_ble_eq_true rfl) rfl rfl rfl dX10_rent_71 h (fun r27 I25 J26 h => ?_)
              refine g_isub X dX10_rent_74 ?_
              refine g_sipush X (v := 9999) dX10_rent_75 (by decide) ?_
              refine g_iadd X dX10_rent_78 ?_
              exact g_iret X R dX10_rent_79 h
            · have h := h.2 c21
              refine g_bipush X (v := (-4)) dX10_rent_59 (by decide) ?_
              exact g_iret X R dX10_rent_61 h
        · have h := h.2 c13
          refine g_bipush X (v := (-2)) dX10_rent_38 (by decide) ?_
          exact g_iret X R dX10_rent_40 h

/-! X10_around.around(III)I -/
def rmX10_around : Room := { frames := 2, cells := 0, slots := 0, locals := 51 }
theorem yo_X10_around : yX10_around.cls = RX10 ∧ yX10_around.cls ≠ "java/lang/invoke/MethodHandle" ∧ yX10_around.cls ≠ "java/lang/invoke/VarHandle" ∧ (parseMethodDescriptor yX10_around.desc).map (fun d => d.parameters.length) = some 3 := by decide +kernel
theorem kX10_around_19 : Cond.fieldLink RX10 19 "SnowCourse" (TX10 1).2.1 (TX10 1).2.2.1 ∈ wsX10_around := by decide +kernel
theorem iX10_around_X10 : ∀ w ∈ u_ws RX10 TX10 9, w ∈ wsX10_around := by decide +kernel
theorem kX10_around_47 : Cond.fieldLink RX10 47 "SnowCourse" (TX10 5).2.1 (TX10 5).2.2.1 ∈ wsX10_around := by decide +kernel
def vc_X10_around (p1 : Int32) (p2 : Int32) (p3 : Int32) (I : MI) (J : MJ) (Q : Int32 → MI → MJ → Prop) : Prop := vc_X1_hasPlace p1 I J (fun (r3 : Int32) (I1 : MI) (J2 : MJ) => ((r3 = 0 → Q (-2) I1 J2) ∧ (¬ r3 = 0 → vc_X1_hasPlace p2 I1 J2 (fun (r7 : Int32) (I5 : MI) (J6 : MJ) => ((¬ r7 = 0 → vc_X10_within p3 0 2 I5 J6 (fun (r11 : Int32) (I9 : MI) (J10 : MJ) => ((¬ r11 = 0 → vc_X9_measure p2 I9 J10 (fun (I13 : MI) (J14 : MJ) => vc_X9_leadFrom p1 I13 J14 (fun (r17 : Int32) (I15 : MI) (J16 : MJ) => ((¬ r17 = 0 → ((¬ p3 = 2 → ((¬ p3 = 0 → vc_X9_hoursFrom p1 I15 J16 (fun (r23 : Int32) (I21 : MI) (J22 : MJ) => Q r23 I21 J22)) ∧ (p3 = 0 → vc_X9_banditsFrom p1 I15 J16 (fun (r26 : Int32) (I24 : MI) (J25 : MJ) => Q r26 I24 J25)))) ∧ (p3 = 2 → vc_X9_firstRoad p1 I15 J16 (fun (r29 : Int32) (I27 : MI) (J28 : MJ) => Q r29 I27 J28)))) ∧ (r17 = 0 → Q (-1) I15 J16))))) ∧ (r11 = 0 → Q (-3) I9 J10)))) ∧ (r7 = 0 → Q (-2) I5 J6))))))
set_option maxRecDepth 100000 in
set_option maxHeartbeats 4000000 in
theorem c_X10_around (l : Launch) (E : ET)  (p1 : Int32) (p2 : Int32) (p3 : Int32) : CI l yX10_around wsX10_around rmX10_around E [.ref (ea E 0), .int p1, .int p2, .int p3] (vc_X10_around p1 p2 p3) := by
  refine CI.of (cc := cX10_around) (maxL := 4) (own := RX10) (by decide) rfl rfl (Nat.le_of_ble_eq_true rfl) ?_
  intro Z I J Q hE hl X R h
  subst hE
  subst hl
  show GW Z 4 I J 0 [(0, .ref (ea (zE Z) 0)), (1, .int p1), (2, .int p2), (3, .int p3)] []
  refine g_aload_n X dX10_around_0 rfl 0 rfl ?_
  refine g_getr X (C := RX10) (T := TX10) (N := 9) (ci := 8) (k := 1) iX10_around_X10 rfl kX10_around_19 (Nat.le_of_ble_eq_true rfl) rfl (by decide) rfl rfl dX10_around_1 ?_
  refine g_iload_n X dX10_around_4 rfl 1 rfl ?_
  refine g_callVI X (As := [.int p1]) (rest := []) (T := TX1) (N := 12) (c_X1_hasPlace (zl Z) (zE Z) p1) gX10_around_X1_hasPlace yo_X1_hasPlace rfl ⟨Nat.le_of_ble_eq_true rfl, Nat.le_of_ble_eq_true rfl⟩ (Nat.le_of_ble_eq_true rfl) rfl rfl rfl dX10_around_5 h (fun r3 I1 J2 h => ?_)
  refine g_if_eq X (tgt := 22) dX10_around_8 (by decide) (fun c4 => ?_) (fun c4 => ?_)
  · have h := h.1 c4
    refine g_bipush X (v := (-2)) dX10_around_22 (by decide) ?_
    exact g_iret X R dX10_around_24 h
  · have h := h.2 c4
    refine g_aload_n X dX10_around_11 rfl 0 rfl ?_
    refine g_getr X (C := RX10) (T := TX10) (N := 9) (ci := 8) (k := 1) iX10_around_X10 rfl kX10_around_19 (Nat.le_of_ble_eq_true rfl) rfl (by decide) rfl rfl dX10_around_12 ?_
    refine g_iload_n X dX10_around_15 rfl 2 rfl ?_
    refine g_callVI X (As := [.int p2]) (rest := []) (T := TX1) (N := 12) (c_X1_hasPlace (zl Z) (zE Z) p2) gX10_around_X1_hasPlace yo_X1_hasPlace rfl ⟨Nat.le_of_ble_eq_true rfl, Nat.le_of_ble_eq_true rfl⟩ (Nat.le_of_ble_eq_true rfl) rfl rfl rfl dX10_around_16 h (fun r7 I5 J6 h => ?_)
    refine g_if_ne X (tgt := 25) dX10_around_19 (by decide) (fun c8 => ?_) (fun c8 => ?_)
    · have h := h.1 c8
      refine g_iload_n X dX10_around_25 rfl 3 rfl ?_
      refine g_iconst X (v := 0) dX10_around_26 (by decide) ?_
      refine g_iconst X (v := 2) dX10_around_27 (by decide) ?_
      refine g_callSI X (As := [.int p3, .int 0, .int 2]) (rest := []) (c_X10_within (zl Z) (zE Z) p3 0 2) gX10_around_X10_within yo_X10_within.2 rfl ⟨Nat.le_of_ble_eq_true rfl, Nat.le_of_ble_eq_true rfl⟩ rfl dX10_around_28 h (fun r11 I9 J10 h => ?_)
      refine g_if_ne X (tgt := 37) dX10_around_31 (by decide) (fun c12 => ?_) (fun c12 => ?_)
      · have h := h.1 c12
        refine g_aload_n X dX10_around_37 rfl 0 rfl ?_
        refine g_getr X (C := RX10) (T := TX10) (N := 9) (ci := 8) (k := 5) iX10_around_X10 rfl kX10_around_47 (Nat.le_of_ble_eq_true rfl) rfl (by decide) rfl rfl dX10_around_38 ?_
        refine g_aload_n X dX10_around_41 rfl 0 rfl ?_
        refine g_getr X (C := RX10) (T := TX10) (N := 9) (ci := 8) (k := 1) iX10_around_X10 rfl kX10_around_19 (Nat.le_of_ble_eq_true rfl) rfl (by decide) rfl rfl dX10_around_42 ?_
        refine g_iload_n X dX10_around_45 rfl 2 rfl ?_
        refine g_callVV X (As := [.ref (ea (zE Z) 5), .int p2]) (rest := []) (T := TX9) (N := 1) (c_X9_measure (zl Z) (zE Z) p2) gX10_around_X9_measure yo_X9_measure rfl ⟨Nat.le_of_ble_eq_true rfl, Nat.le_of_ble_eq_true rfl⟩ (Nat.le_of_ble_eq_true rfl) rfl rfl rfl dX10_around_46 h (fun  I13 J14 h => ?_)
        refine g_aload_n X dX10_around_49 rfl 0 rfl ?_
        refine g_getr X (C := RX10) (T := TX10) (N := 9) (ci := 8) (k := 5) iX10_around_X10 rfl kX10_around_47 (Nat.le_of_ble_eq_true rfl) rfl (by decide) rfl rfl dX10_around_50 ?_
        refine g_iload_n X dX10_around_53 rfl 1 rfl ?_
        refine g_callVI X (As := [.int p1]) (rest := []) (T := TX9) (N := 1) (c_X9_leadFrom (zl Z) (zE Z) p1) gX10_around_X9_leadFrom yo_X9_leadFrom rfl ⟨Nat.le_of_ble_eq_true rfl, Nat.le_of_ble_eq_true rfl⟩ (Nat.le_of_ble_eq_true rfl) rfl rfl rfl dX10_around_54 h (fun r17 I15 J16 h => ?_)
        refine g_if_ne X (tgt := 62) dX10_around_57 (by decide) (fun c18 => ?_) (fun c18 => ?_)
        · have h := h.1 c18
          refine g_iload_n X dX10_around_62 rfl 3 rfl ?_
          refine g_iconst X (v := 2) dX10_around_63 (by decide) ?_
          refine g_icmp_ne X (tgt := 80) dX10_around_64 (by decide) (fun c19 => ?_) (fun c19 => ?_)
          · have h := h.1 c19
            refine g_iload_n X dX10_around_80 rfl 3 rfl ?_
            refine g_if_ne X (tgt := 95) dX10_around_81 (by decide) (fun c20 => ?_) (fun c20 => ?_)
            · have h := h.1 c20
              refine g_aload_n X dX10_around_95 rfl 0 rfl ?_
              refine g_getr X (C := RX10) (T := TX10) (N := 9) (ci := 8) (k := 5) iX10_around_X10 rfl kX10_around_47 (Nat.le_of_ble_eq_true rfl) rfl (by decide) rfl rfl dX10_around_96 ?_
              refine g_iload_n X dX10_around_99 rfl 1 rfl ?_
              refine g_callVI X (As := [.int p1]) (rest := []) (T := TX9) (N := 1) (c_X9_hoursFrom (zl Z) (zE Z) p1) gX10_around_X9_hoursFrom yo_X9_hoursFrom rfl ⟨Nat.le_of_ble_eq_true rfl, Nat.le_of_ble_eq_true rfl⟩ (Nat.le_of_ble_eq_true rfl) rfl rfl rfl dX10_around_100 h (fun r23 I21 J22 h => ?_)
              exact g_iret X R dX10_around_103 h
            · have h := h.2 c20
              refine g_aload_n X dX10_around_84 rfl 0 rfl ?_
              refine g_getr X (C := RX10) (T := TX10) (N := 9) (ci := 8) (k := 5) iX10_around_X10 rfl kX10_around_47 (Nat.le_of_ble_eq_true rfl) rfl (by decide) rfl rfl dX10_around_85 ?_
              refine g_iload_n X dX10_around_88 rfl 1 rfl ?_
              refine g_callVI X (As := [.int p1]) (rest := []) (T := TX9) (N := 1) (c_X9_banditsFrom (zl Z) (zE Z) p1) gX10_around_X9_banditsFrom yo_X9_banditsFrom rfl ⟨Nat.le_of_ble_eq_true rfl, Nat.le_of_ble_eq_true rfl⟩ (Nat.le_of_ble_eq_true rfl) rfl rfl rfl dX10_around_89 h (fun r26 I24 J25 h => ?_)
              refine g_goto X (tgt := 103) dX10_around_92 (by decide) ?_
              exact g_iret X R dX10_around_103 h
          · have h := h.2 c19
            refine g_aload_n X dX10_around_67 rfl 0 rfl ?_
            refine g_getr X (C := RX10) (T := TX10) (N := 9) (ci := 8) (k := 5) iX10_around_X10 rfl kX10_around_47 (Nat.le_of_ble_eq_true rfl) rfl (by decide) rfl rfl dX10_around_68 ?_
            refine g_aload_n X dX10_around_71 rfl 0 rfl ?_
            refine g_getr X (C := RX10) (T := TX10) (N := 9) (ci := 8) (k := 1) iX10_around_X10 rfl kX10_around_19 (Nat.le_of_ble_eq_true rfl) rfl (by decide) rfl rfl dX10_around_72 ?_
            refine g_iload_n X dX10_around_75 rfl 1 rfl ?_
            refine g_callVI X (As := [.ref (ea (zE Z) 5), .int p1]) (rest := []) (T := TX9) (N := 1) (c_X9_firstRoad (zl Z) (zE Z) p1) gX10_around_X9_firstRoad yo_X9_firstRoad rfl ⟨Nat.le_of_ble_eq_true rfl, Nat.le_of_ble_eq_true rfl⟩ (Nat.le_of_ble_eq_true rfl) rfl rfl rfl dX10_around_76 h (fun r29 I27 J28 h => ?_)
            exact g_iret X R dX10_around_79 h
        · have h := h.2 c18
          refine g_iconst X (v := (-1)) dX10_around_60 (by decide) ?_
          exact g_iret X R dX10_around_61 h
      · have h := h.2 c12
        refine g_bipush X (v := (-3)) dX10_around_34 (by decide) ?_
        exact g_iret X R dX10_around_36 h
    · have h := h.2 c8
      refine g_bipush X (v := (-2)) dX10_around_22 (by decide) ?_
      exact g_iret X R dX10_around_24 h

/-! X10_put.put(I)I -/
def rmX10_put : Room := { frames := 1, cells := 0, slots := 0, locals := 22 }
theorem yo_X10_put : yX10_put.cls = RX10 ∧ yX10_put.cls ≠ "java/lang/invoke/MethodHandle" ∧ yX10_put.cls ≠ "java/lang/invoke/VarHandle" ∧ (parseMethodDescriptor yX10_put.desc).map (fun d => d.parameters.length) = some 1 := by decide +kernel
theorem kX10_put_40 : Cond.fieldLink RX10 40 "SnowCourse" (TX10 4).2.1 (TX10 4).2.2.1 ∈ wsX10_put := by decide +kernel
theorem iX10_put_X10 : ∀ w ∈ u_ws RX10 TX10 9, w ∈ wsX10_put := by decide +kernel
theorem kX10_put_93 : Cond.fieldLink RX10 93 "SnowCourse$PassRow" (TX4 1).2.1 (TX4 1).2.2.1 ∈ wsX10_put := by decide +kernel
theorem iX10_put_X4 : ∀ w ∈ u_ws RX4 TX4 4, w ∈ wsX10_put := by decide +kernel
def vc_X10_put (p1 : Int32) (I : MI) (J : MJ) (Q : Int32 → MI → MJ → Prop) : Prop := vc_X10_within p1 1 99 I J (fun (r3 : Int32) (I1 : MI) (J2 : MJ) => ((¬ r3 = 0 → vc_X4_append p1 I1 J2 (fun (r7 : Int32) (I5 : MI) (J6 : MJ) => ((r7 = 0 → Q (-5) I5 J6) ∧ (¬ r7 = 0 → Q (I5 20 1) I5 J6)))) ∧ (r3 = 0 → Q (-3) I1 J2)))
set_option maxRecDepth 100000 in
set_option maxHeartbeats 4000000 in
theorem c_X10_put (l : Launch) (E : ET)  (p1 : Int32) : CI l yX10_put wsX10_put rmX10_put E [.ref (ea E 0), .int p1] (vc_X10_put p1) := by
  refine CI.of (cc := cX10_put) (maxL := 2) (own := RX10) (by decide) rfl rfl (Nat.le_of_ble_eq_true rfl) ?_
  intro Z I J Q hE hl X R h
  subst hE
  subst hl
  show GW Z 2 I J 0 [(0, .ref (ea (zE Z) 0)), (1, .int p1)] []
  refine g_iload_n X dX10_put_0 rfl 1 rfl ?_
  refine g_iconst X (v := 1) dX10_put_1 (by decide) ?_
  refine g_bipush X (v := 99) dX10_put_2 (by decide) ?_
  refine g_callSI X (As := [.int p1, .int 1, .int 99]) (rest := []) (c_X10_within (zl Z) (zE Z) p1 1 99) gX10_put_X10_within yo_X10_within.2 rfl ⟨Nat.le_of_ble_eq_true rfl, Nat.le_of_ble_eq_true rfl⟩ rfl dX10_put_4 h (fun r3 I1 J2 h => ?_)
  refine g_if_ne X (tgt := 13) dX10_put_7 (by decide) (fun c4 => ?_) (fun c4 => ?_)
  · have h := h.1 c4
    refine g_aload_n X dX10_put_13 rfl 0 rfl ?_
    refine g_getr X (C := RX10) (T := TX10) (N := 9) (ci := 8) (k := 4) iX10_put_X10 rfl kX10_put_40 (Nat.le_of_ble_eq_true rfl) rfl (by decide) rfl rfl dX10_put_14 ?_
    refine g_iload_n X dX10_put_17 rfl 1 rfl ?_
    refine g_callVI X (As := [.int p1]) (rest := []) (T := TX4) (N := 4) (c_X4_append (zl Z) (zE Z) p1) gX10_put_X4_append yo_X4_append rfl ⟨Nat.le_of_ble_eq_true rfl, Nat.le_of_ble_eq_true rfl⟩ (Nat.le_of_ble_eq_true rfl) rfl rfl rfl dX10_put_18 h (fun r7 I5 J6 h => ?_)
    refine g_if_eq X (tgt := 34) dX10_put_21 (by decide) (fun c8 => ?_) (fun c8 => ?_)
    · have h := h.1 c8
      refine g_bipush X (v := (-5)) dX10_put_34 (by decide) ?_
      exact g_iret X R dX10_put_36 h
    · have h := h.2 c8
      refine g_aload_n X dX10_put_24 rfl 0 rfl ?_
      refine g_getr X (C := RX10) (T := TX10) (N := 9) (ci := 8) (k := 4) iX10_put_X10 rfl kX10_put_40 (Nat.le_of_ble_eq_true rfl) rfl (by decide) rfl rfl dX10_put_25 ?_
      refine g_geti X (C := RX4) (T := TX4) (N := 4) (ci := 2) (k := 1) iX10_put_X4 rfl kX10_put_93 (Nat.le_of_ble_eq_true rfl) rfl (by decide) rfl rfl dX10_put_28 ?_
      refine g_goto X (tgt := 36) dX10_put_31 (by decide) ?_
      exact g_iret X R dX10_put_36 h
  · have h := h.2 c4
    refine g_bipush X (v := (-3)) dX10_put_10 (by decide) ?_
    exact g_iret X R dX10_put_12 h

/-! X10_wipe.wipe()I -/
def rmX10_wipe : Room := { frames := 0, cells := 0, slots := 0, locals := 0 }
theorem yo_X10_wipe : yX10_wipe.cls = RX10 ∧ yX10_wipe.cls ≠ "java/lang/invoke/MethodHandle" ∧ yX10_wipe.cls ≠ "java/lang/invoke/VarHandle" ∧ (parseMethodDescriptor yX10_wipe.desc).map (fun d => d.parameters.length) = some 0 := by decide +kernel
theorem kX10_wipe_40 : Cond.fieldLink RX10 40 "SnowCourse" (TX10 4).2.1 (TX10 4).2.2.1 ∈ wsX10_wipe := by decide +kernel
theorem iX10_wipe_X10 : ∀ w ∈ u_ws RX10 TX10 9, w ∈ wsX10_wipe := by decide +kernel
theorem kX10_wipe_93 : Cond.fieldLink RX10 93 "SnowCourse$PassRow" (TX4 1).2.1 (TX4 1).2.2.1 ∈ wsX10_wipe := by decide +kernel
theorem iX10_wipe_X4 : ∀ w ∈ u_ws RX4 TX4 4, w ∈ wsX10_wipe := by decide +kernel
def vc_X10_wipe  (I : MI) (J : MJ) (Q : Int32 → MI → MJ → Prop) : Prop := ∀ x1 : Int32, x1 = I 20 1 → ∀ I2 : MI, I2 = wI I 20 1 0 → Q x1 I2 J
set_option maxRecDepth 100000 in
set_option maxHeartbeats 4000000 in
theorem c_X10_wipe (l : Launch) (E : ET)   : CI l yX10_wipe wsX10_wipe rmX10_wipe E [.ref (ea E 0)] (vc_X10_wipe ) := by
  refine CI.of (cc := cX10_wipe) (maxL := 2) (own := RX10) (by decide) rfl rfl (Nat.le_of_ble_eq_true rfl) ?_
  intro Z I J Q hE hl X R h
  subst hE
  subst hl
  show GW Z 2 I J 0 [(0, .ref (ea (zE Z) 0))] []
  refine g_aload_n X dX10_wipe_0 rfl 0 rfl ?_
  refine g_getr X (C := RX10) (T := TX10) (N := 9) (ci := 8) (k := 4) iX10_wipe_X10 rfl kX10_wipe_40 (Nat.le_of_ble_eq_true rfl) rfl (by decide) rfl rfl dX10_wipe_1 ?_
  refine g_geti X (C := RX4) (T := TX4) (N := 4) (ci := 2) (k := 1) iX10_wipe_X4 rfl kX10_wipe_93 (Nat.le_of_ble_eq_true rfl) rfl (by decide) rfl rfl dX10_wipe_4 ?_
  refine g_topi (fun x1 ex1 => ?_)
  have h := h x1 ex1
  refine g_istore_n X (lv' := [(1, .int x1), (0, .ref (ea (zE Z) 0))]) dX10_wipe_7 rfl (by decide) rfl ?_
  refine g_aload_n X dX10_wipe_8 rfl 1 rfl ?_
  refine g_getr X (C := RX10) (T := TX10) (N := 9) (ci := 8) (k := 4) iX10_wipe_X10 rfl kX10_wipe_40 (Nat.le_of_ble_eq_true rfl) rfl (by decide) rfl rfl dX10_wipe_9 ?_
  refine g_iconst X (v := 0) dX10_wipe_12 (by decide) ?_
  refine g_puti X (C := RX4) (T := TX4) (N := 4) (ci := 2) (k := 1) (ty0 := tyX4) iX10_wipe_X4 tyX4_ok nmX4 rfl kX10_wipe_93 (Nat.le_of_ble_eq_true rfl) rfl (by decide) rfl rfl (by decide +kernel) rfl dX10_wipe_13 ?_
  refine g_nmI (fun I2 eI2 => ?_)
  have h := h I2 eI2
  refine g_iload_n X dX10_wipe_16 rfl 0 rfl ?_
  exact g_iret X R dX10_wipe_17 h

/-! X10_pass.pass(II)I -/
def rmX10_pass : Room := { frames := 4, cells := 0, slots := 0, locals := 103 }
theorem yo_X10_pass : yX10_pass.cls = RX10 ∧ yX10_pass.cls ≠ "java/lang/invoke/MethodHandle" ∧ yX10_pass.cls ≠ "java/lang/invoke/VarHandle" ∧ (parseMethodDescriptor yX10_pass.desc).map (fun d => d.parameters.length) = some 2 := by decide +kernel
theorem kX10_pass_40 : Cond.fieldLink RX10 40 "SnowCourse" (TX10 4).2.1 (TX10 4).2.2.1 ∈ wsX10_pass := by decide +kernel
theorem iX10_pass_X10 : ∀ w ∈ u_ws RX10 TX10 9, w ∈ wsX10_pass := by decide +kernel
theorem kX10_pass_93 : Cond.fieldLink RX10 93 "SnowCourse$PassRow" (TX4 1).2.1 (TX4 1).2.2.1 ∈ wsX10_pass := by decide +kernel
theorem iX10_pass_X4 : ∀ w ∈ u_ws RX4 TX4 4, w ∈ wsX10_pass := by decide +kernel
theorem kX10_pass_19 : Cond.fieldLink RX10 19 "SnowCourse" (TX10 1).2.1 (TX10 1).2.2.1 ∈ wsX10_pass := by decide +kernel
theorem kX10_pass_292 : Cond.fieldLink RX10 292 "SnowCourse$Country" (TX1 11).2.1 (TX1 11).2.2.1 ∈ wsX10_pass := by decide +kernel
theorem iX10_pass_X1 : ∀ w ∈ u_ws RX1 TX1 12, w ∈ wsX10_pass := by decide +kernel
def vc_X10_pass (p1 : Int32) (p2 : Int32) (I : MI) (J : MJ) (Q : Int32 → MI → MJ → Prop) : Prop := vc_X10_within p1 0 43 I J (fun (r3 : Int32) (I1 : MI) (J2 : MJ) => ((r3 = 0 → Q (-3) I1 J2) ∧ (¬ r3 = 0 → (((-1) ≤ p2 → ((p2 < (I1 20 1) → vc_X4_weigh (J2 5 11) p1 I1 J2 (fun (I7 : MI) (J8 : MJ) => ((¬ p2 = (-1) → vc_X4_loadInTurn p2 I7 J8 (fun (r12 : Int32) (I10 : MI) (J11 : MJ) => Q r12 I10 J11)) ∧ (p2 = (-1) → vc_X4_mostThrough  I7 J8 (fun (r15 : Int32) (I13 : MI) (J14 : MJ) => Q r15 I13 J14))))) ∧ (¬ p2 < (I1 20 1) → Q (-1) I1 J2))) ∧ (¬ (-1) ≤ p2 → Q (-3) I1 J2)))))
set_option maxRecDepth 100000 in
set_option maxHeartbeats 4000000 in
theorem c_X10_pass (l : Launch) (E : ET)  (p1 : Int32) (p2 : Int32) : CI l yX10_pass wsX10_pass rmX10_pass E [.ref (ea E 0), .int p1, .int p2] (vc_X10_pass p1 p2) := by
  refine CI.of (cc := cX10_pass) (maxL := 3) (own := RX10) (by decide) rfl rfl (Nat.le_of_ble_eq_true rfl) ?_
  intro Z I J Q hE hl X R h
  subst hE
  subst hl
  show GW Z 3 I J 0 [(0, .ref (ea (zE Z) 0)), (1, .int p1), (2, .int p2)] []
  refine g_iload_n X dX10_pass_0 rfl 1 rfl ?_
  refine g_iconst X (v := 0) dX10_pass_1 (by decide) ?_
  refine g_bipush X (v := 43) dX10_pass_2 (by decide) ?_
  refine g_callSI X (As := [.int p1, .int 0, .int 43]) (rest := []) (c_X10_within (zl Z) (zE Z) p1 0 43) gX10_pass_X10_within yo_X10_within.2 rfl ⟨Nat.le_of_ble_eq_true rfl, Nat.le_of_ble_eq_true rfl⟩ rfl dX10_pass_4 h (fun r3 I1 J2 h => ?_)
  refine g_if_eq X (tgt := 15) dX10_pass_7 (by decide) (fun c4 => ?_) (fun c4 => ?_)
  · have h := h.1 c4
    refine g_bipush X (v := (-3)) dX10_pass_15 (by decide) ?_
    exact g_iret X R dX10_pass_17 h
  · have h := h.2 c4
    refine g_iload_n X dX10_pass_10 rfl 2 rfl ?_
    refine g_iconst X (v := (-1)) dX10_pass_11 (by decide) ?_
    refine g_icmp_ge X (tgt := 18) dX10_pass_12 (by decide) (fun c5 => ?_) (fun c5 => ?_)
    · have h := h.1 c5
      refine g_iload_n X dX10_pass_18 rfl 2 rfl ?_
      refine g_aload_n X dX10_pass_19 rfl 0 rfl ?_
      refine g_getr X (C := RX10) (T := TX10) (N := 9) (ci := 8) (k := 4) iX10_pass_X10 rfl kX10_pass_40 (Nat.le_of_ble_eq_true rfl) rfl (by decide) rfl rfl dX10_pass_20 ?_
      refine g_geti X (C := RX4) (T := TX4) (N := 4) (ci := 2) (k := 1) iX10_pass_X4 rfl kX10_pass_93 (Nat.le_of_ble_eq_true rfl) rfl (by decide) rfl rfl dX10_pass_23 ?_
      refine g_icmp_lt X (tgt := 31) dX10_pass_26 (by decide) (fun c6 => ?_) (fun c6 => ?_)
      · have h := h.1 c6
        refine g_aload_n X dX10_pass_31 rfl 0 rfl ?_
        refine g_getr X (C := RX10) (T := TX10) (N := 9) (ci := 8) (k := 4) iX10_pass_X10 rfl kX10_pass_40 (Nat.le_of_ble_eq_true rfl) rfl (by decide) rfl rfl dX10_pass_32 ?_
        refine g_aload_n X dX10_pass_35 rfl 0 rfl ?_
        refine g_getr X (C := RX10) (T := TX10) (N := 9) (ci := 8) (k := 1) iX10_pass_X10 rfl kX10_pass_19 (Nat.le_of_ble_eq_true rfl) rfl (by decide) rfl rfl dX10_pass_36 ?_
        refine g_getl X (C := RX1) (T := TX1) (N := 12) (ci := 1) (k := 11) iX10_pass_X1 rfl kX10_pass_292 (Nat.le_of_ble_eq_true rfl) rfl (by decide) rfl rfl dX10_pass_39 ?_
        refine g_iload_n X dX10_pass_42 rfl 1 rfl ?_
        refine g_callVV X (As := [.long (J2 5 11), .int p1]) (rest := []) (T := TX4) (N := 4) (c_X4_weigh (zl Z) (zE Z) (J2 5 11) p1) gX10_pass_X4_weigh yo_X4_weigh rfl ⟨Nat.le_of_ble_eq_true rfl, Nat.le_of_ble_eq_true rfl⟩ (Nat.le_of_ble_eq_true rfl) rfl rfl rfl dX10_pass_43 h (fun  I7 J8 h => ?_)
        refine g_iload_n X dX10_pass_46 rfl 2 rfl ?_
        refine g_iconst X (v := (-1)) dX10_pass_47 (by decide) ?_
        refine g_icmp_ne X (tgt := 61) dX10_pass_48 (by decide) (fun c9 => ?_) (fun c9 => ?_)
        · have h := h.1 c9
          refine g_aload_n X dX10_pass_61 rfl 0 rfl ?_
          refine g_getr X (C := RX10) (T := TX10) (N := 9) (ci := 8) (k := 4) iX10_pass_X10 rfl kX10_pass_40 (Nat.le_of_ble_eq_true rfl) rfl (by decide) rfl rfl dX10_pass_62 ?_
          refine g_iload_n X dX10_pass_65 rfl 2 rfl ?_
          refine g_callVI X (As := [.int p2]) (rest := []) (T := TX4) (N := 4) (c_X4_loadInTurn (zl Z) (zE Z) p2) gX10_pass_X4_loadInTurn yo_X4_loadInTurn rfl ⟨Nat.le_of_ble_eq_true rfl, Nat.le_of_ble_eq_true rfl⟩ (Nat.le_of_ble_eq_true rfl) rfl rfl rfl dX10_pass_66 h (fun r12 I10 J11 h => ?_)
          exact g_iret X R dX10_pass_69 h
        · have h := h.2 c9
          refine g_aload_n X dX10_pass_51 rfl 0 rfl ?_
          refine g_getr X (C := RX10) (T := TX10) (N := 9) (ci := 8) (k := 4) iX10_pass_X10 rfl kX10_pass_40 (Nat.le_of_ble_eq_true rfl) rfl (by decide) rfl rfl dX10_pass_52 ?_
          refine g_callVI X (As := []) (rest := []) (T := TX4) (N := 4) (c_X4_mostThrough (zl Z) (zE Z) ) gX10_pass_X4_mostThrough yo_X4_mostThrough rfl ⟨Nat.le_of_ble_eq_true rfl, Nat.le_of_ble_eq_true rfl⟩ (Nat.le_of_ble_eq_true rfl) rfl rfl rfl dX10_pass_55 h (fun r15 I13 J14 h => ?_)
          refine g_goto X (tgt := 69) dX10_pass_58 (by decide) ?_
          exact g_iret X R dX10_pass_69 h
      · have h := h.2 c6
        refine g_iconst X (v := (-1)) dX10_pass_29 (by decide) ?_
        exact g_iret X R dX10_pass_30 h
    · have h := h.2 c5
      refine g_bipush X (v := (-3)) dX10_pass_15 (by decide) ?_
      exact g_iret X R dX10_pass_17 h

/-! X10_winds.winds(IIII)I -/
def rmX10_winds : Room := { frames := 3, cells := 0, slots := 0, locals := 77 }
theorem yo_X10_winds : yX10_winds.cls = RX10 ∧ yX10_winds.cls ≠ "java/lang/invoke/MethodHandle" ∧ yX10_winds.cls ≠ "java/lang/invoke/VarHandle" ∧ (parseMethodDescriptor yX10_winds.desc).map (fun d => d.parameters.length) = some 4 := by decide +kernel
def vc_X10_winds (p1 : Int32) (p2 : Int32) (p3 : Int32) (p4 : Int32) (I : MI) (J : MJ) (Q : Int32 → MI → MJ → Prop) : Prop := vc_X10_within p1 0 9999 I J (fun (r3 : Int32) (I1 : MI) (J2 : MJ) => ((r3 = 0 → Q (-3) I1 J2) ∧ (¬ r3 = 0 → vc_X10_within p2 0 24 I1 J2 (fun (r7 : Int32) (I5 : MI) (J6 : MJ) => ((r7 = 0 → Q (-3) I5 J6) ∧ (¬ r7 = 0 → vc_X10_within p3 0 99 I5 J6 (fun (r11 : Int32) (I9 : MI) (J10 : MJ) => ((r11 = 0 → Q (-3) I9 J10) ∧ (¬ r11 = 0 → vc_X10_within p4 0 1 I9 J10 (fun (r15 : Int32) (I13 : MI) (J14 : MJ) => ((¬ r15 = 0 → vc_X3_warmByDraw p1 p2 I13 J14 (fun (r19 : Int64) (I17 : MI) (J18 : MJ) => ((¬ p4 = 0 → vc_X3_afterOpen r19 0 p2 p3 I17 J18 (fun (r23 : Int32) (I21 : MI) (J22 : MJ) => Q r23 I21 J22)) ∧ (p4 = 0 → vc_J13_bitCount_95d88 r19 I17 J18 (fun (r26 : Int32) (I24 : MI) (J25 : MJ) => Q r26 I24 J25))))) ∧ (r15 = 0 → Q (-3) I13 J14))))))))))))
set_option maxRecDepth 100000 in
set_option maxHeartbeats 4000000 in
theorem c_X10_winds (l : Launch) (E : ET)  (p1 : Int32) (p2 : Int32) (p3 : Int32) (p4 : Int32) : CI l yX10_winds wsX10_winds rmX10_winds E [.ref (ea E 0), .int p1, .int p2, .int p3, .int p4] (vc_X10_winds p1 p2 p3 p4) := by
  refine CI.of (cc := cX10_winds) (maxL := 7) (own := RX10) (by decide) rfl rfl (Nat.le_of_ble_eq_true rfl) ?_
  intro Z I J Q hE hl X R h
  subst hE
  subst hl
  show GW Z 7 I J 0 [(0, .ref (ea (zE Z) 0)), (1, .int p1), (2, .int p2), (3, .int p3), (4, .int p4)] []
  refine g_iload_n X dX10_winds_0 rfl 1 rfl ?_
  refine g_iconst X (v := 0) dX10_winds_1 (by decide) ?_
  refine g_sipush X (v := 9999) dX10_winds_2 (by decide) ?_
  refine g_callSI X (As := [.int p1, .int 0, .int 9999]) (rest := []) (c_X10_within (zl Z) (zE Z) p1 0 9999) gX10_winds_X10_within yo_X10_within.2 rfl ⟨Nat.le_of_ble_eq_true rfl, Nat.le_of_ble_eq_true rfl⟩ rfl dX10_winds_5 h (fun r3 I1 J2 h => ?_)
  refine g_if_eq X (tgt := 41) dX10_winds_8 (by decide) (fun c4 => ?_) (fun c4 => ?_)
  · have h := h.1 c4
    refine g_bipush X (v := (-3)) dX10_winds_41 (by decide) ?_
    exact g_iret X R dX10_winds_43 h
  · have h := h.2 c4
    refine g_iload_n X dX10_winds_11 rfl 2 rfl ?_
    refine g_iconst X (v := 0) dX10_winds_12 (by decide) ?_
    refine g_bipush X (v := 24) dX10_winds_13 (by decide) ?_
    refine g_callSI X (As := [.int p2, .int 0, .int 24]) (rest := []) (c_X10_within (zl Z) (zE Z) p2 0 24) gX10_winds_X10_within yo_X10_within.2 rfl ⟨Nat.le_of_ble_eq_true rfl, Nat.le_of_ble_eq_true rfl⟩ rfl dX10_winds_15 h (fun r7 I5 J6 h => ?_)
    refine g_if_eq X (tgt := 41) dX10_winds_18 (by decide) (fun c8 => ?_) (fun c8 => ?_)
    · have h := h.1 c8
      refine g_bipush X (v := (-3)) dX10_winds_41 (by decide) ?_
      exact g_iret X R dX10_winds_43 h
    · have h := h.2 c8
      refine g_iload_n X dX10_winds_21 rfl 3 rfl ?_
      refine g_iconst X (v := 0) dX10_winds_22 (by decide) ?_
      refine g_bipush X (v := 99) dX10_winds_23 (by decide) ?_
      refine g_callSI X (As := [.int p3, .int 0, .int 99]) (rest := []) (c_X10_within (zl Z) (zE Z) p3 0 99) gX10_winds_X10_within yo_X10_within.2 rfl ⟨Nat.le_of_ble_eq_true rfl, Nat.le_of_ble_eq_true rfl⟩ rfl dX10_winds_25 h (fun r11 I9 J10 h => ?_)
      refine g_if_eq X (tgt := 41) dX10_winds_28 (by decide) (fun c12 => ?_) (fun c12 => ?_)
      · have h := h.1 c12
        refine g_bipush X (v := (-3)) dX10_winds_41 (by decide) ?_
        exact g_iret X R dX10_winds_43 h
      · have h := h.2 c12
        refine g_iload X dX10_winds_31 4 rfl ?_
        refine g_iconst X (v := 0) dX10_winds_33 (by decide) ?_
        refine g_iconst X (v := 1) dX10_winds_34 (by decide) ?_
        refine g_callSI X (As := [.int p4, .int 0, .int 1]) (rest := []) (c_X10_within (zl Z) (zE Z) p4 0 1) gX10_winds_X10_within yo_X10_within.2 rfl ⟨Nat.le_of_ble_eq_true rfl, Nat.le_of_ble_eq_true rfl⟩ rfl dX10_winds_35 h (fun r15 I13 J14 h => ?_)
        refine g_if_ne X (tgt := 44) dX10_winds_38 (by decide) (fun c16 => ?_) (fun c16 => ?_)
        · have h := h.1 c16
          refine g_iload_n X dX10_winds_44 rfl 1 rfl ?_
          refine g_iload_n X dX10_winds_45 rfl 2 rfl ?_
          refine g_callSL X (As := [.int p1, .int p2]) (rest := []) (c_X3_warmByDraw (zl Z) (zE Z) p1 p2) gX10_winds_X3_warmByDraw yo_X3_warmByDraw.2 rfl ⟨Nat.le_of_ble_eq_true rfl, Nat.le_of_ble_eq_true rfl⟩ rfl dX10_winds_46 h (fun r19 I17 J18 h => ?_)
          refine g_lstore X (lv' := [(5, .long r19), (0, .ref (ea (zE Z) 0)), (1, .int p1), (2, .int p2), (3, .int p3), (4, .int p4)]) dX10_winds_49 (by decide) rfl ?_
          refine g_iload X dX10_winds_51 5 rfl ?_
          refine g_if_ne X (tgt := 64) dX10_winds_53 (by decide) (fun c20 => ?_) (fun c20 => ?_)
          · have h := h.1 c20
            refine g_lload X dX10_winds_64 0 rfl ?_
            refine g_iconst X (v := 0) dX10_winds_66 (by decide) ?_
            refine g_iload_n X dX10_winds_67 rfl 3 rfl ?_
            refine g_iload_n X dX10_winds_68 rfl 4 rfl ?_
            refine g_callSI X (As := [.long r19, .int 0, .int p2, .int p3]) (rest := []) (c_X3_afterOpen (zl Z) (zE Z) r19 0 p2 p3) gX10_winds_X3_afterOpen yo_X3_afterOpen.2 rfl ⟨Nat.le_of_ble_eq_true rfl, Nat.le_of_ble_eq_true rfl⟩ rfl dX10_winds_69 h (fun r23 I21 J22 h => ?_)
            exact g_iret X R dX10_winds_72 h
          · have h := h.2 c20
            refine g_lload X dX10_winds_56 0 rfl ?_
            refine g_callSI X (As := [.long r19]) (rest := []) (c_J13_bitCount_95d88 (zl Z) (zE Z) r19) gX10_winds_J13_bitCount_95d88 yo_J13_bitCount_95d88.2 rfl ⟨Nat.le_of_ble_eq_true rfl, Nat.le_of_ble_eq_true rfl⟩ rfl dX10_winds_58 h (fun r26 I24 J25 h => ?_)
            refine g_goto X (tgt := 72) dX10_winds_61 (by decide) ?_
            exact g_iret X R dX10_winds_72 h
        · have h := h.2 c16
          refine g_bipush X (v := (-3)) dX10_winds_41 (by decide) ?_
          exact g_iret X R dX10_winds_43 h

/-! X10_count.count(I)I -/
def rmX10_count : Room := { frames := 1, cells := 0, slots := 0, locals := 25 }
theorem yo_X10_count : yX10_count.cls = RX10 ∧ yX10_count.cls ≠ "java/lang/invoke/MethodHandle" ∧ yX10_count.cls ≠ "java/lang/invoke/VarHandle" ∧ (parseMethodDescriptor yX10_count.desc).map (fun d => d.parameters.length) = some 1 := by decide +kernel
theorem kX10_count_19 : Cond.fieldLink RX10 19 "SnowCourse" (TX10 1).2.1 (TX10 1).2.2.1 ∈ wsX10_count := by decide +kernel
theorem iX10_count_X10 : ∀ w ∈ u_ws RX10 TX10 9, w ∈ wsX10_count := by decide +kernel
theorem kX10_count_234 : Cond.fieldLink RX10 234 "SnowCourse$Country" (TX1 8).2.1 (TX1 8).2.2.1 ∈ wsX10_count := by decide +kernel
theorem iX10_count_X1 : ∀ w ∈ u_ws RX1 TX1 12, w ∈ wsX10_count := by decide +kernel
theorem kX10_count_252 : Cond.fieldLink RX10 252 "SnowCourse$Country" (TX1 9).2.1 (TX1 9).2.2.1 ∈ wsX10_count := by decide +kernel
theorem kX10_count_114 : Cond.fieldLink RX10 114 "SnowCourse$Country" (TX1 10).2.1 (TX1 10).2.2.1 ∈ wsX10_count := by decide +kernel
theorem kX10_count_292 : Cond.fieldLink RX10 292 "SnowCourse$Country" (TX1 11).2.1 (TX1 11).2.2.1 ∈ wsX10_count := by decide +kernel
theorem kX10_count_26 : Cond.fieldLink RX10 26 "SnowCourse" (TX10 2).2.1 (TX10 2).2.2.1 ∈ wsX10_count := by decide +kernel
theorem kX10_count_101 : Cond.fieldLink RX10 101 "SnowCourse$Chronicle" (TX0 0).2.1 (TX0 0).2.2.1 ∈ wsX10_count := by decide +kernel
theorem iX10_count_X0 : ∀ w ∈ u_ws RX0 TX0 6, w ∈ wsX10_count := by decide +kernel
theorem kX10_count_201 : Cond.fieldLink RX10 201 "SnowCourse$Standing" (TX7 4).2.1 (TX7 4).2.2.1 ∈ wsX10_count := by decide +kernel
theorem iX10_count_X7 : ∀ w ∈ u_ws RX7 TX7 5, w ∈ wsX10_count := by decide +kernel
theorem kX10_count_33 : Cond.fieldLink RX10 33 "SnowCourse" (TX10 3).2.1 (TX10 3).2.2.1 ∈ wsX10_count := by decide +kernel
theorem kX10_count_90 : Cond.fieldLink RX10 90 "SnowCourse$Takers" (TX8 1).2.1 (TX8 1).2.2.1 ∈ wsX10_count := by decide +kernel
theorem iX10_count_X8 : ∀ w ∈ u_ws RX8 TX8 2, w ∈ wsX10_count := by decide +kernel
theorem kX10_count_40 : Cond.fieldLink RX10 40 "SnowCourse" (TX10 4).2.1 (TX10 4).2.2.1 ∈ wsX10_count := by decide +kernel
theorem kX10_count_93 : Cond.fieldLink RX10 93 "SnowCourse$PassRow" (TX4 1).2.1 (TX4 1).2.2.1 ∈ wsX10_count := by decide +kernel
theorem iX10_count_X4 : ∀ w ∈ u_ws RX4 TX4 4, w ∈ wsX10_count := by decide +kernel
theorem kX10_count_208 : Cond.fieldLink RX10 208 "SnowCourse$Chronicle" (TX0 5).2.1 (TX0 5).2.2.1 ∈ wsX10_count := by decide +kernel
theorem kX10_count_10 : Cond.fieldLink RX10 10 "SnowCourse" (TX10 0).2.1 (TX10 0).2.2.1 ∈ wsX10_count := by decide +kernel
theorem kX10_count_72 : Cond.fieldLink RX10 72 "SnowCourse$Script" (TX6 1).2.1 (TX6 1).2.2.1 ∈ wsX10_count := by decide +kernel
theorem iX10_count_X6 : ∀ w ∈ u_ws RX6 TX6 10, w ∈ wsX10_count := by decide +kernel
def vc_X10_count (p1 : Int32) (I : MI) (J : MJ) (Q : Int32 → MI → MJ → Prop) : Prop := ((p1 = 0 → Q (I 5 8) I J) ∧ (¬ p1 = 0 → ((p1 = 1 → Q (I 5 9) I J) ∧ (¬ p1 = 1 → ((p1 = 2 → Q (I 5 10) I J) ∧ (¬ p1 = 2 → ((p1 = 3 → vc_J13_bitCount_95d88 (J 5 11) I J (fun (r7 : Int32) (I5 : MI) (J6 : MJ) => Q r7 I5 J6)) ∧ (¬ p1 = 3 → ((p1 = 4 → Q (I 32 4) I J) ∧ (¬ p1 = 4 → ((p1 = 5 → vc_X7_allSnow 32 I J (fun (r12 : Int32) (I10 : MI) (J11 : MJ) => Q r12 I10 J11)) ∧ (¬ p1 = 5 → ((p1 = 6 → vc_X7_allStock 32 I J (fun (r16 : Int32) (I14 : MI) (J15 : MJ) => Q r16 I14 J15)) ∧ (¬ p1 = 6 → ((p1 = 7 → Q (I 18 1) I J) ∧ (¬ p1 = 7 → ((p1 = 8 → Q (I 20 1) I J) ∧ (¬ p1 = 8 → ((p1 = 9 → Q (I 14 5) I J) ∧ (¬ p1 = 9 → ((p1 = 10 → Q (I 1 1) I J) ∧ (¬ p1 = 10 → Q (-3) I J))))))))))))))))))))))
set_option maxRecDepth 100000 in
set_option maxHeartbeats 4000000 in
theorem c_X10_count (l : Launch) (E : ET)  (p1 : Int32) : CI l yX10_count wsX10_count rmX10_count E [.ref (ea E 0), .int p1] (vc_X10_count p1) := by
  refine CI.of (cc := cX10_count) (maxL := 2) (own := RX10) (by decide) rfl rfl (Nat.le_of_ble_eq_true rfl) ?_
  intro Z I J Q hE hl X R h
  subst hE
  subst hl
  show GW Z 2 I J 0 [(0, .ref (ea (zE Z) 0)), (1, .int p1)] []
  refine g_iload_n X dX10_count_0 rfl 1 rfl ?_
  by_cases c1 : p1 = 0
  · have h := h.1 c1
    refine g_tin X (tgt := 60) dX10_count_1 c1 (by decide) (by decide) rfl (by decide) ?_
    refine g_aload_n X dX10_count_60 rfl 0 rfl ?_
    refine g_getr X (C := RX10) (T := TX10) (N := 9) (ci := 8) (k := 1) iX10_count_X10 rfl kX10_count_19 (Nat.le_of_ble_eq_true rfl) rfl (by decide) rfl rfl dX10_count_61 ?_
    refine g_geti X (C := RX1) (T := TX1) (N := 12) (ci := 1) (k := 8) iX10_count_X1 rfl kX10_count_234 (Nat.le_of_ble_eq_true rfl) rfl (by decide) rfl rfl dX10_count_64 ?_
    exact g_iret X R dX10_count_67 h
  have h := h.2 c1
  by_cases c2 : p1 = 1
  · have h := h.1 c2
    refine g_tin X (tgt := 68) dX10_count_1 c2 (by decide) (by decide) rfl (by decide) ?_
    refine g_aload_n X dX10_count_68 rfl 0 rfl ?_
    refine g_getr X (C := RX10) (T := TX10) (N := 9) (ci := 8) (k := 1) iX10_count_X10 rfl kX10_count_19 (Nat.le_of_ble_eq_true rfl) rfl (by decide) rfl rfl dX10_count_69 ?_
    refine g_geti X (C := RX1) (T := TX1) (N := 12) (ci := 1) (k := 9) iX10_count_X1 rfl kX10_count_252 (Nat.le_of_ble_eq_true rfl) rfl (by decide) rfl rfl dX10_count_72 ?_
    exact g_iret X R dX10_count_75 h
  have h := h.2 c2
  by_cases c3 : p1 = 2
  · have h := h.1 c3
    refine g_tin X (tgt := 76) dX10_count_1 c3 (by decide) (by decide) rfl (by decide) ?_
    refine g_aload_n X dX10_count_76 rfl 0 rfl ?_
    refine g_getr X (C := RX10) (T := TX10) (N := 9) (ci := 8) (k := 1) iX10_count_X10 rfl kX10_count_19 (Nat.le_of_ble_eq_true rfl) rfl (by decide) rfl rfl dX10_count_77 ?_
    refine g_geti X (C := RX1) (T := TX1) (N := 12) (ci := 1) (k := 10) iX10_count_X1 rfl kX10_count_114 (Nat.le_of_ble_eq_true rfl) rfl (by decide) rfl rfl dX10_count_80 ?_
    exact g_iret X R dX10_count_83 h
  have h := h.2 c3
  by_cases c4 : p1 = 3
  · have h := h.1 c4
    refine g_tin X (tgt := 84) dX10_count_1 c4 (by decide) (by decide) rfl (by decide) ?_
    refine g_aload_n X dX10_count_84 rfl 0 rfl ?_
    refine g_getr X (C := RX10) (T := TX10) (N := 9) (ci := 8) (k := 1) iX10_count_X10 rfl kX10_count_19 (Nat.le_of_ble_eq_true rfl) rfl (by decide) rfl rfl dX10_count_85 ?_
    refine g_getl X (C := RX1) (T := TX1) (N := 12) (ci := 1) (k := 11) iX10_count_X1 rfl kX10_count_292 (Nat.le_of_ble_eq_true rfl) rfl (by decide) rfl rfl dX10_count_88 ?_
    refine g_callSI X (As := [.long (J 5 11)]) (rest := []) (c_J13_bitCount_95d88 (zl Z) (zE Z) (J 5 11)) gX10_count_J13_bitCount_95d88 yo_J13_bitCount_95d88.2 rfl ⟨Nat.le_of_ble_eq_true rfl, Nat.le_of_ble_eq_true rfl⟩ rfl dX10_count_91 h (fun r7 I5 J6 h => ?_)
    exact g_iret X R dX10_count_94 h
  have h := h.2 c4
  by_cases c8 : p1 = 4
  · have h := h.1 c8
    refine g_tin X (tgt := 95) dX10_count_1 c8 (by decide) (by decide) rfl (by decide) ?_
    refine g_aload_n X dX10_count_95 rfl 0 rfl ?_
    refine g_getr X (C := RX10) (T := TX10) (N := 9) (ci := 8) (k := 2) iX10_count_X10 rfl kX10_count_26 (Nat.le_of_ble_eq_true rfl) rfl (by decide) rfl rfl dX10_count_96 ?_
    refine g_getr X (C := RX0) (T := TX0) (N := 6) (ci := 0) (k := 0) iX10_count_X0 rfl kX10_count_101 (Nat.le_of_ble_eq_true rfl) rfl (by decide) rfl rfl dX10_count_99 ?_
    refine g_geti X (C := RX7) (T := TX7) (N := 5) (ci := 5) (k := 4) iX10_count_X7 rfl kX10_count_201 (Nat.le_of_ble_eq_true rfl) rfl (by decide) rfl rfl dX10_count_102 ?_
    exact g_iret X R dX10_count_105 h
  have h := h.2 c8
  by_cases c9 : p1 = 5
  · have h := h.1 c9
    refine g_tin X (tgt := 106) dX10_count_1 c9 (by decide) (by decide) rfl (by decide) ?_
    refine g_aload_n X dX10_count_106 rfl 0 rfl ?_
    refine g_getr X (C := RX10) (T := TX10) (N := 9) (ci := 8) (k := 2) iX10_count_X10 rfl kX10_count_26 (Nat.le_of_ble_eq_true rfl) rfl (by decide) rfl rfl dX10_count_107 ?_
    refine g_getr X (C := RX0) (T := TX0) (N := 6) (ci := 0) (k := 0) iX10_count_X0 rfl kX10_count_101 (Nat.le_of_ble_eq_true rfl) rfl (by decide) rfl rfl dX10_count_110 ?_
    refine g_callVI X (As := []) (rest := []) (T := TX7) (N := 5) (c_X7_allSnow (zl Z) (zE Z) isSt_now) gX10_count_X7_allSnow yo_X7_allSnow rfl ⟨Nat.le_of_ble_eq_true rfl, Nat.le_of_ble_eq_true rfl⟩ (Nat.le_of_ble_eq_true rfl) rfl rfl rfl dX10_count_113 h (fun r12 I10 J11 h => ?_)
    exact g_iret X R dX10_count_116 h
  have h := h.2 c9
  by_cases c13 : p1 = 6
  · have h := h.1 c13
    refine g_tin X (tgt := 117) dX10_count_1 c13 (by decide) (by decide) rfl (by decide) ?_
    refine g_aload_n X dX10_count_117 rfl 0 rfl ?_
    refine g_getr X (C := RX10) (T := TX10) (N := 9) (ci := 8) (k := 2) iX10_count_X10 rfl kX10_count_26 (Nat.le_of_ble_eq_true rfl) rfl (by decide) rfl rfl dX10_count_118 ?_
    refine g_getr X (C := RX0) (T := TX0) (N := 6) (ci := 0) (k := 0) iX10_count_X0 rfl kX10_count_101 (Nat.le_of_ble_eq_true rfl) rfl (by decide) rfl rfl dX10_count_121 ?_
    refine g_callVI X (As := []) (rest := []) (T := TX7) (N := 5) (c_X7_allStock (zl Z) (zE Z) isSt_now) gX10_count_X7_allStock yo_X7_allStock rfl ⟨Nat.le_of_ble_eq_true rfl, Nat.le_of_ble_eq_true rfl⟩ (Nat.le_of_ble_eq_true rfl) rfl rfl rfl dX10_count_124 h (fun r16 I14 J15 h => ?_)
    exact g_iret X R dX10_count_127 h
  have h := h.2 c13
  by_cases c17 : p1 = 7
  · have h := h.1 c17
    refine g_tin X (tgt := 128) dX10_count_1 c17 (by decide) (by decide) rfl (by decide) ?_
    refine g_aload_n X dX10_count_128 rfl 0 rfl ?_
    refine g_getr X (C := RX10) (T := TX10) (N := 9) (ci := 8) (k := 3) iX10_count_X10 rfl kX10_count_33 (Nat.le_of_ble_eq_true rfl) rfl (by decide) rfl rfl dX10_count_129 ?_
    refine g_geti X (C := RX8) (T := TX8) (N := 2) (ci := 6) (k := 1) iX10_count_X8 rfl kX10_count_90 (Nat.le_of_ble_eq_true rfl) rfl (by decide) rfl rfl dX10_count_132 ?_
    exact g_iret X R dX10_count_135 h
  have h := h.2 c17
  by_cases c18 : p1 = 8
  · have h := h.1 c18
    refine g_tin X (tgt := 136) dX10_count_1 c18 (by decide) (by decide) rfl (by decide) ?_
    refine g_aload_n X dX10_count_136 rfl 0 rfl ?_
    refine g_getr X (C := RX10) (T := TX10) (N := 9) (ci := 8) (k := 4) iX10_count_X10 rfl kX10_count_40 (Nat.le_of_ble_eq_true rfl) rfl (by decide) rfl rfl dX10_count_137 ?_
    refine g_geti X (C := RX4) (T := TX4) (N := 4) (ci := 2) (k := 1) iX10_count_X4 rfl kX10_count_93 (Nat.le_of_ble_eq_true rfl) rfl (by decide) rfl rfl dX10_count_140 ?_
    exact g_iret X R dX10_count_143 h
  have h := h.2 c18
  by_cases c19 : p1 = 9
  · have h := h.1 c19
    refine g_tin X (tgt := 144) dX10_count_1 c19 (by decide) (by decide) rfl (by decide) ?_
    refine g_aload_n X dX10_count_144 rfl 0 rfl ?_
    refine g_getr X (C := RX10) (T := TX10) (N := 9) (ci := 8) (k := 2) iX10_count_X10 rfl kX10_count_26 (Nat.le_of_ble_eq_true rfl) rfl (by decide) rfl rfl dX10_count_145 ?_
    refine g_geti X (C := RX0) (T := TX0) (N := 6) (ci := 0) (k := 5) iX10_count_X0 rfl kX10_count_208 (Nat.le_of_ble_eq_true rfl) rfl (by decide) rfl rfl dX10_count_148 ?_
    exact g_iret X R dX10_count_151 h
  have h := h.2 c19
  by_cases c20 : p1 = 10
  · have h := h.1 c20
    refine g_tin X (tgt := 152) dX10_count_1 c20 (by decide) (by decide) rfl (by decide) ?_
    refine g_aload_n X dX10_count_152 rfl 0 rfl ?_
    refine g_getr X (C := RX10) (T := TX10) (N := 9) (ci := 8) (k := 0) iX10_count_X10 rfl kX10_count_10 (Nat.le_of_ble_eq_true rfl) rfl (by decide) rfl rfl dX10_count_153 ?_
    refine g_geti X (C := RX6) (T := TX6) (N := 10) (ci := 4) (k := 1) iX10_count_X6 rfl kX10_count_72 (Nat.le_of_ble_eq_true rfl) rfl (by decide) rfl rfl dX10_count_156 ?_
    exact g_iret X R dX10_count_159 h
  have h := h.2 c20
  refine g_tout X (tgt := 160) dX10_count_1 (sw_out (hi := 10) (fun k hk => by match k, hk with | 0, _ => exact c1 | 1, _ => exact c2 | 2, _ => exact c3 | 3, _ => exact c4 | 4, _ => exact c8 | 5, _ => exact c9 | 6, _ => exact c13 | 7, _ => exact c17 | 8, _ => exact c18 | 9, _ => exact c19 | 10, _ => exact c20 | k + 11, hk => exact absurd hk (by omega)) (by decide)) (by decide) ?_
  refine g_bipush X (v := (-3)) dX10_count_160 (by decide) ?_
  exact g_iret X R dX10_count_162 h
