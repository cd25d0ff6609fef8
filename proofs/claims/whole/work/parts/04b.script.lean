/-! X6_append.append(I)Z -/
def rmX6_append : Room := { frames := 0, cells := 0, slots := 0, locals := 0 }
theorem yo_X6_append : yX6_append.cls = RX6 ∧ yX6_append.cls ≠ "java/lang/invoke/MethodHandle" ∧ yX6_append.cls ≠ "java/lang/invoke/VarHandle" ∧ (parseMethodDescriptor yX6_append.desc).map (fun d => d.parameters.length) = some 1 := by decide +kernel
theorem kX6_append_22 : Cond.fieldLink RX6 22 "SnowCourse$Script" (TX6 1).2.1 (TX6 1).2.2.1 ∈ wsX6_append := by decide +kernel
theorem iX6_append_X6 : ∀ w ∈ u_ws RX6 TX6 10, w ∈ wsX6_append := by decide +kernel
theorem kX6_append_11 : Cond.fieldLink RX6 11 "SnowCourse$Script" (TX6 0).2.1 (TX6 0).2.2.1 ∈ wsX6_append := by decide +kernel
def vc_X6_append (p1 : Int32) (I : MI) (J : MJ) (Q : Int32 → MI → MJ → Prop) : Prop := (((I 1 1) < 160 → vp_in (I 1 1) 160 ∧ ∀ I3 : MI, I3 = wI I 2 (Int32.toNatClampNeg (I 1 1)) (vp_nar .char ((Int32.toUInt32 p1 % 65536).toInt32)) → ∀ I4 : MI, I4 = wI I3 1 1 ((I3 1 1) + 1) → Q 1 I4 J) ∧ (¬ (I 1 1) < 160 → Q 0 I J))
set_option maxRecDepth 100000 in
set_option maxHeartbeats 4000000 in
theorem c_X6_append (l : Launch) (E : ET)  (p1 : Int32) : CI l yX6_append wsX6_append rmX6_append E [.ref (ea E 1), .int p1] (vc_X6_append p1) := by
  refine CI.of (cc := cX6_append) (maxL := 2) (own := RX6) (by decide) rfl rfl (Nat.le_of_ble_eq_true rfl) ?_
  intro Z I J Q hE hl X R h
  subst hE
  subst hl
  show GW Z 2 I J 0 [(0, .ref (ea (zE Z) 1)), (1, .int p1)] []
  refine g_aload_n X dX6_append_0 rfl 0 rfl ?_
  refine g_geti X (C := RX6) (T := TX6) (N := 10) (ci := 4) (k := 1) iX6_append_X6 rfl kX6_append_22 (Nat.le_of_ble_eq_true rfl) rfl (by decide) rfl rfl dX6_append_1 ?_
  refine g_sipush X (v := 160) dX6_append_4 (by decide) ?_
  refine g_icmp_lt X (tgt := 12) dX6_append_7 (by decide) (fun c1 => ?_) (fun c1 => ?_)
  · have h := h.1 c1
    refine g_aload_n X dX6_append_12 rfl 0 rfl ?_
    refine g_getr X (C := RX6) (T := TX6) (N := 10) (ci := 4) (k := 0) iX6_append_X6 rfl kX6_append_11 (Nat.le_of_ble_eq_true rfl) rfl (by decide) rfl rfl dX6_append_13 ?_
    refine g_aload_n X dX6_append_16 rfl 0 rfl ?_
    refine g_geti X (C := RX6) (T := TX6) (N := 10) (ci := 4) (k := 1) iX6_append_X6 rfl kX6_append_22 (Nat.le_of_ble_eq_true rfl) rfl (by decide) rfl rfl dX6_append_17 ?_
    refine g_iload_n X dX6_append_20 rfl 1 rfl ?_
    refine g_i2c X dX6_append_21 ?_
    obtain ⟨b2, h⟩ := h
    refine g_cast X (Nat.le_of_ble_eq_true rfl) rfl b2 dX6_append_22 ?_
    refine g_nmI (fun I3 eI3 => ?_)
    have h := h I3 eI3
    refine g_aload_n X dX6_append_23 rfl 0 rfl ?_
    refine g_dup X dX6_append_24 rfl ?_
    refine g_geti X (C := RX6) (T := TX6) (N := 10) (ci := 4) (k := 1) iX6_append_X6 rfl kX6_append_22 (Nat.le_of_ble_eq_true rfl) rfl (by decide) rfl rfl dX6_append_25 ?_
    refine g_iconst X (v := 1) dX6_append_28 (by decide) ?_
    refine g_iadd X dX6_append_29 ?_
    refine g_puti X (C := RX6) (T := TX6) (N := 10) (ci := 4) (k := 1) (ty0 := tyX6) iX6_append_X6 tyX6_ok nmX6 rfl kX6_append_22 (Nat.le_of_ble_eq_true rfl) rfl (by decide) rfl rfl (by decide +kernel) rfl dX6_append_30 ?_
    refine g_nmI (fun I4 eI4 => ?_)
    have h := h I4 eI4
    refine g_iconst X (v := 1) dX6_append_33 (by decide) ?_
    exact g_zret X R (by decide) dX6_append_34 h
  · have h := h.2 c1
    refine g_iconst X (v := 0) dX6_append_10 (by decide) ?_
    exact g_zret X R (by decide) dX6_append_11 h

/-! X6_isSmall.isSmall(C)Z -/
def rmX6_isSmall : Room := { frames := 0, cells := 0, slots := 0, locals := 0 }
theorem yo_X6_isSmall : yX6_isSmall.cls = RX6 ∧ yX6_isSmall.cls ≠ "java/lang/invoke/MethodHandle" ∧ yX6_isSmall.cls ≠ "java/lang/invoke/VarHandle" ∧ (parseMethodDescriptor yX6_isSmall.desc).map (fun d => d.parameters.length) = some 1 := by decide +kernel
def vc_X6_isSmall (p0 : Int32) (I : MI) (J : MJ) (Q : Int32 → MI → MJ → Prop) : Prop := ((p0 < 97 → Q 0 I J) ∧ (¬ p0 < 97 → ((122 < p0 → Q 0 I J) ∧ (¬ 122 < p0 → Q 1 I J))))
set_option maxRecDepth 100000 in
set_option maxHeartbeats 4000000 in
theorem c_X6_isSmall (l : Launch) (E : ET)  (p0 : Int32) : CI l yX6_isSmall wsX6_isSmall rmX6_isSmall E [.int p0] (vc_X6_isSmall p0) := by
  refine CI.of (cc := cX6_isSmall) (maxL := 1) (own := RX6) (by decide) rfl rfl (Nat.le_of_ble_eq_true rfl) ?_
  intro Z I J Q hE hl X R h
  subst hE
  subst hl
  show GW Z 1 I J 0 [(0, .int p0)] []
  refine g_iload_n X dX6_isSmall_0 rfl 0 rfl ?_
  refine g_bipush X (v := 97) dX6_isSmall_1 (by decide) ?_
  refine g_icmp_lt X (tgt := 16) dX6_isSmall_3 (by decide) (fun c1 => ?_) (fun c1 => ?_)
  · have h := h.1 c1
    refine g_iconst X (v := 0) dX6_isSmall_16 (by decide) ?_
    exact g_zret X R (by decide) dX6_isSmall_17 h
  · have h := h.2 c1
    refine g_iload_n X dX6_isSmall_6 rfl 0 rfl ?_
    refine g_bipush X (v := 122) dX6_isSmall_7 (by decide) ?_
    refine g_icmp_gt X (tgt := 16) dX6_isSmall_9 (by decide) (fun c2 => ?_) (fun c2 => ?_)
    · have h := h.1 c2
      refine g_iconst X (v := 0) dX6_isSmall_16 (by decide) ?_
      exact g_zret X R (by decide) dX6_isSmall_17 h
    · have h := h.2 c2
      refine g_iconst X (v := 1) dX6_isSmall_12 (by decide) ?_
      refine g_goto X (tgt := 17) dX6_isSmall_13 (by decide) ?_
      exact g_zret X R (by decide) dX6_isSmall_17 h

/-! X6_isDigit.isDigit(C)Z -/
def rmX6_isDigit : Room := { frames := 0, cells := 0, slots := 0, locals := 0 }
theorem yo_X6_isDigit : yX6_isDigit.cls = RX6 ∧ yX6_isDigit.cls ≠ "java/lang/invoke/MethodHandle" ∧ yX6_isDigit.cls ≠ "java/lang/invoke/VarHandle" ∧ (parseMethodDescriptor yX6_isDigit.desc).map (fun d => d.parameters.length) = some 1 := by decide +kernel
def vc_X6_isDigit (p0 : Int32) (I : MI) (J : MJ) (Q : Int32 → MI → MJ → Prop) : Prop := ((p0 < 48 → Q 0 I J) ∧ (¬ p0 < 48 → ((57 < p0 → Q 0 I J) ∧ (¬ 57 < p0 → Q 1 I J))))
set_option maxRecDepth 100000 in
set_option maxHeartbeats 4000000 in
theorem c_X6_isDigit (l : Launch) (E : ET)  (p0 : Int32) : CI l yX6_isDigit wsX6_isDigit rmX6_isDigit E [.int p0] (vc_X6_isDigit p0) := by
  refine CI.of (cc := cX6_isDigit) (maxL := 1) (own := RX6) (by decide) rfl rfl (Nat.le_of_ble_eq_true rfl) ?_
  intro Z I J Q hE hl X R h
  subst hE
  subst hl
  show GW Z 1 I J 0 [(0, .int p0)] []
  refine g_iload_n X dX6_isDigit_0 rfl 0 rfl ?_
  refine g_bipush X (v := 48) dX6_isDigit_1 (by decide) ?_
  refine g_icmp_lt X (tgt := 16) dX6_isDigit_3 (by decide) (fun c1 => ?_) (fun c1 => ?_)
  · have h := h.1 c1
    refine g_iconst X (v := 0) dX6_isDigit_16 (by decide) ?_
    exact g_zret X R (by decide) dX6_isDigit_17 h
  · have h := h.2 c1
    refine g_iload_n X dX6_isDigit_6 rfl 0 rfl ?_
    refine g_bipush X (v := 57) dX6_isDigit_7 (by decide) ?_
    refine g_icmp_gt X (tgt := 16) dX6_isDigit_9 (by decide) (fun c2 => ?_) (fun c2 => ?_)
    · have h := h.1 c2
      refine g_iconst X (v := 0) dX6_isDigit_16 (by decide) ?_
      exact g_zret X R (by decide) dX6_isDigit_17 h
    · have h := h.2 c2
      refine g_iconst X (v := 1) dX6_isDigit_12 (by decide) ?_
      refine g_goto X (tgt := 17) dX6_isDigit_13 (by decide) ?_
      exact g_zret X R (by decide) dX6_isDigit_17 h

/-! X6_nextToken.nextToken()V -/
def rmX6_nextToken : Room := { frames := 1, cells := 0, slots := 0, locals := 20 }
theorem yo_X6_nextToken : yX6_nextToken.cls = RX6 ∧ yX6_nextToken.cls ≠ "java/lang/invoke/MethodHandle" ∧ yX6_nextToken.cls ≠ "java/lang/invoke/VarHandle" ∧ (parseMethodDescriptor yX6_nextToken.desc).map (fun d => d.parameters.length) = some 0 := by decide +kernel
theorem kX6_nextToken_43 : Cond.fieldLink RX6 43 "SnowCourse$Script" (TX6 6).2.1 (TX6 6).2.2.1 ∈ wsX6_nextToken := by decide +kernel
theorem iX6_nextToken_X6 : ∀ w ∈ u_ws RX6 TX6 10, w ∈ wsX6_nextToken := by decide +kernel
theorem kX6_nextToken_11 : Cond.fieldLink RX6 11 "SnowCourse$Script" (TX6 0).2.1 (TX6 0).2.2.1 ∈ wsX6_nextToken := by decide +kernel
theorem kX6_nextToken_22 : Cond.fieldLink RX6 22 "SnowCourse$Script" (TX6 1).2.1 (TX6 1).2.2.1 ∈ wsX6_nextToken := by decide +kernel
theorem kX6_nextToken_53 : Cond.fieldLink RX6 53 "SnowCourse$Script" (TX6 5).2.1 (TX6 5).2.2.1 ∈ wsX6_nextToken := by decide +kernel
def vc_X6_nextToken_B151  (Q : MI → MJ → Prop) (k102 : Int32 → Int32 → MI → MJ → Prop) (v1 : Int32) (v2 : Int32) (I : MI) (J : MJ) : Prop := ∀ I1 : MI, I1 = wI I 1 6 ((I 1 6) + 1) → k102 v1 v2 I1 J
set_option maxRecDepth 100000 in
set_option maxHeartbeats 4000000 in
theorem w_X6_nextToken_B151 {Z : RT}  (X : Cx Z cX6_nextToken 3 RX6 wsX6_nextToken rmX6_nextToken none) {Q : MI → MJ → Prop} (R : RV Z Q)  {k102 : Int32 → Int32 → MI → MJ → Prop} (hk102 : ∀ (v1 : Int32) (v2 : Int32) (I : MI) (J : MJ), k102 v1 v2 I J → GW Z 3 I J 102 [(0, .ref (ea (zE Z) 1)), (1, .int v1), (2, .int v2)] []) (v1 : Int32) (v2 : Int32) (I : MI) (J : MJ) (h : vc_X6_nextToken_B151  Q k102 v1 v2 I J) : GW Z 3 I J 151 [(0, .ref (ea (zE Z) 1)), (1, .int v1), (2, .int v2)] [] := by
  refine g_aload_n X dX6_nextToken_151 rfl 0 rfl ?_
  refine g_dup X dX6_nextToken_152 rfl ?_
  refine g_geti X (C := RX6) (T := TX6) (N := 10) (ci := 4) (k := 6) iX6_nextToken_X6 rfl kX6_nextToken_43 (Nat.le_of_ble_eq_true rfl) rfl (by decide) rfl rfl dX6_nextToken_153 ?_
  refine g_iconst X (v := 1) dX6_nextToken_156 (by decide) ?_
  refine g_iadd X dX6_nextToken_157 ?_
  refine g_puti X (C := RX6) (T := TX6) (N := 10) (ci := 4) (k := 6) (ty0 := tyX6) iX6_nextToken_X6 tyX6_ok nmX6 rfl kX6_nextToken_43 (Nat.le_of_ble_eq_true rfl) rfl (by decide) rfl rfl (by decide +kernel) rfl dX6_nextToken_158 ?_
  refine g_nmI (fun I1 eI1 => ?_)
  have h := h I1 eI1
  refine g_goto X (tgt := 102) dX6_nextToken_161 (by decide) ?_
  refine GW.sub (lv' := [(0, .ref (ea (zE Z) 1)), (1, .int v1), (2, .int v2)]) [0, 1, 2] rfl ?_
  exact hk102 v1 v2 I1 J h
def vc_X6_nextToken_B132  (Q : MI → MJ → Prop) (k102 : Int32 → Int32 → MI → MJ → Prop) (v1 : Int32) (v2 : Int32) (I : MI) (J : MJ) : Prop := ((v2 = 0 → Q I J) ∧ (¬ v2 = 0 → vp_in (I 1 6) 160 ∧ vc_X6_isDigit (I 2 (Int32.toNatClampNeg (I 1 6))) I J (fun (r6 : Int32) (I4 : MI) (J5 : MJ) => ((r6 = 0 → Q I4 J5) ∧ (¬ r6 = 0 → vc_X6_nextToken_B151  Q k102 v1 v2 I4 J5)))))
set_option maxRecDepth 100000 in
set_option maxHeartbeats 4000000 in
theorem w_X6_nextToken_B132 {Z : RT}  (X : Cx Z cX6_nextToken 3 RX6 wsX6_nextToken rmX6_nextToken none) {Q : MI → MJ → Prop} (R : RV Z Q)  {k102 : Int32 → Int32 → MI → MJ → Prop} (hk102 : ∀ (v1 : Int32) (v2 : Int32) (I : MI) (J : MJ), k102 v1 v2 I J → GW Z 3 I J 102 [(0, .ref (ea (zE Z) 1)), (1, .int v1), (2, .int v2)] []) (v1 : Int32) (v2 : Int32) (I : MI) (J : MJ) (h : vc_X6_nextToken_B132  Q k102 v1 v2 I J) : GW Z 3 I J 132 [(0, .ref (ea (zE Z) 1)), (1, .int v1), (2, .int v2)] [] := by
  refine g_iload_n X dX6_nextToken_132 rfl 2 rfl ?_
  refine g_if_eq X (tgt := 164) dX6_nextToken_133 (by decide) (fun c2 => ?_) (fun c2 => ?_)
  · have h := h.1 c2
    exact g_vret X R dX6_nextToken_164 h
  · have h := h.2 c2
    refine g_aload_n X dX6_nextToken_136 rfl 0 rfl ?_
    refine g_getr X (C := RX6) (T := TX6) (N := 10) (ci := 4) (k := 0) iX6_nextToken_X6 rfl kX6_nextToken_11 (Nat.le_of_ble_eq_true rfl) rfl (by decide) rfl rfl dX6_nextToken_137 ?_
    refine g_aload_n X dX6_nextToken_140 rfl 0 rfl ?_
    refine g_geti X (C := RX6) (T := TX6) (N := 10) (ci := 4) (k := 6) iX6_nextToken_X6 rfl kX6_nextToken_43 (Nat.le_of_ble_eq_true rfl) rfl (by decide) rfl rfl dX6_nextToken_141 ?_
    obtain ⟨b3, h⟩ := h
    refine g_cald X (Nat.le_of_ble_eq_true rfl) rfl b3 dX6_nextToken_144 ?_
    refine g_callSI X (As := [.int (I 2 (Int32.toNatClampNeg (I 1 6)))]) (rest := []) (c_X6_isDigit (zl Z) (zE Z) (I 2 (Int32.toNatClampNeg (I 1 6)))) gX6_nextToken_X6_isDigit yo_X6_isDigit.2 rfl ⟨Nat.le_of_ble_eq_true rfl, Nat.le_of_ble_eq_true rfl⟩ rfl dX6_nextToken_145 h (fun r6 I4 J5 h => ?_)
    refine g_if_eq X (tgt := 164) dX6_nextToken_148 (by decide) (fun c7 => ?_) (fun c7 => ?_)
    · have h := h.1 c7
      exact g_vret X R dX6_nextToken_164 h
    · have h := h.2 c7
      refine GW.sub (lv' := [(0, .ref (ea (zE Z) 1)), (1, .int v1), (2, .int v2)]) [0, 1, 2] rfl ?_
      exact w_X6_nextToken_B151 X R  hk102 v1 v2 I4 J5 h
def vc_X6_nextToken_L102s  (Q : MI → MJ → Prop)  (k102 : Int32 → Int32 → MI → MJ → Prop) (v1 : Int32) (v2 : Int32) (I : MI) (J : MJ) : Prop := (((I 1 1) ≤ (I 1 6) → Q I J) ∧ (¬ (I 1 1) ≤ (I 1 6) → ((v1 = 0 → vc_X6_nextToken_B132  Q k102 v1 v2 I J) ∧ (¬ v1 = 0 → vp_in (I 1 6) 160 ∧ vc_X6_isSmall (I 2 (Int32.toNatClampNeg (I 1 6))) I J (fun (r13 : Int32) (I11 : MI) (J12 : MJ) => ((¬ r13 = 0 → vc_X6_nextToken_B151  Q k102 v1 v2 I11 J12) ∧ (r13 = 0 → vc_X6_nextToken_B132  Q k102 v1 v2 I11 J12)))))))
def vc_X6_nextToken_L102  (Q : MI → MJ → Prop)  (n : Nat) : Int32 → Int32 → MI → MJ → Prop := Nat.rec (fun _ _ _ _ => False) (fun _ ih => vc_X6_nextToken_L102s  Q  ih) n
set_option maxRecDepth 100000 in
set_option maxHeartbeats 4000000 in
theorem w_X6_nextToken_L102s {Z : RT}  (X : Cx Z cX6_nextToken 3 RX6 wsX6_nextToken rmX6_nextToken none) {Q : MI → MJ → Prop} (R : RV Z Q)    {k102 : Int32 → Int32 → MI → MJ → Prop} (hk102 : ∀ (v1 : Int32) (v2 : Int32) (I : MI) (J : MJ), k102 v1 v2 I J → GW Z 3 I J 102 [(0, .ref (ea (zE Z) 1)), (1, .int v1), (2, .int v2)] []) (v1 : Int32) (v2 : Int32) (I : MI) (J : MJ) (h : vc_X6_nextToken_L102s  Q  k102 v1 v2 I J) : GW Z 3 I J 102 [(0, .ref (ea (zE Z) 1)), (1, .int v1), (2, .int v2)] [] := by
  refine g_aload_n X dX6_nextToken_102 rfl 0 rfl ?_
  refine g_geti X (C := RX6) (T := TX6) (N := 10) (ci := 4) (k := 6) iX6_nextToken_X6 rfl kX6_nextToken_43 (Nat.le_of_ble_eq_true rfl) rfl (by decide) rfl rfl dX6_nextToken_103 ?_
  refine g_aload_n X dX6_nextToken_106 rfl 0 rfl ?_
  refine g_geti X (C := RX6) (T := TX6) (N := 10) (ci := 4) (k := 1) iX6_nextToken_X6 rfl kX6_nextToken_22 (Nat.le_of_ble_eq_true rfl) rfl (by decide) rfl rfl dX6_nextToken_107 ?_
  refine g_icmp_ge X (tgt := 164) dX6_nextToken_110 (by decide) (fun c8 => ?_) (fun c8 => ?_)
  · have h := h.1 c8
    exact g_vret X R dX6_nextToken_164 h
  · have h := h.2 c8
    refine g_iload_n X dX6_nextToken_113 rfl 1 rfl ?_
    refine g_if_eq X (tgt := 132) dX6_nextToken_114 (by decide) (fun c9 => ?_) (fun c9 => ?_)
    · have h := h.1 c9
      refine GW.sub (lv' := [(0, .ref (ea (zE Z) 1)), (1, .int v1), (2, .int v2)]) [0, 1, 2] rfl ?_
      exact w_X6_nextToken_B132 X R  hk102 v1 v2 I J h
    · have h := h.2 c9
      refine g_aload_n X dX6_nextToken_117 rfl 0 rfl ?_
      refine g_getr X (C := RX6) (T := TX6) (N := 10) (ci := 4) (k := 0) iX6_nextToken_X6 rfl kX6_nextToken_11 (Nat.le_of_ble_eq_true rfl) rfl (by decide) rfl rfl dX6_nextToken_118 ?_
      refine g_aload_n X dX6_nextToken_121 rfl 0 rfl ?_
      refine g_geti X (C := RX6) (T := TX6) (N := 10) (ci := 4) (k := 6) iX6_nextToken_X6 rfl kX6_nextToken_43 (Nat.le_of_ble_eq_true rfl) rfl (by decide) rfl rfl dX6_nextToken_122 ?_
      obtain ⟨b10, h⟩ := h
      refine g_cald X (Nat.le_of_ble_eq_true rfl) rfl b10 dX6_nextToken_125 ?_
      refine g_callSI X (As := [.int (I 2 (Int32.toNatClampNeg (I 1 6)))]) (rest := []) (c_X6_isSmall (zl Z) (zE Z) (I 2 (Int32.toNatClampNeg (I 1 6)))) gX6_nextToken_X6_isSmall yo_X6_isSmall.2 rfl ⟨Nat.le_of_ble_eq_true rfl, Nat.le_of_ble_eq_true rfl⟩ rfl dX6_nextToken_126 h (fun r13 I11 J12 h => ?_)
      refine g_if_ne X (tgt := 151) dX6_nextToken_129 (by decide) (fun c14 => ?_) (fun c14 => ?_)
      · have h := h.1 c14
        refine GW.sub (lv' := [(0, .ref (ea (zE Z) 1)), (1, .int v1), (2, .int v2)]) [0, 1, 2] rfl ?_
        exact w_X6_nextToken_B151 X R  hk102 v1 v2 I11 J12 h
      · have h := h.2 c14
        refine GW.sub (lv' := [(0, .ref (ea (zE Z) 1)), (1, .int v1), (2, .int v2)]) [0, 1, 2] rfl ?_
        exact w_X6_nextToken_B132 X R  hk102 v1 v2 I11 J12 h
theorem w_X6_nextToken_L102 {Z : RT}  (X : Cx Z cX6_nextToken 3 RX6 wsX6_nextToken rmX6_nextToken none) {Q : MI → MJ → Prop} (R : RV Z Q)    : ∀ (n : Nat) (v1 : Int32) (v2 : Int32) (I : MI) (J : MJ) (h : vc_X6_nextToken_L102  Q  n v1 v2 I J), GW Z 3 I J 102 [(0, .ref (ea (zE Z) 1)), (1, .int v1), (2, .int v2)] [] := by
  intro n
  induction n with
  | zero => intro v1 v2 I J h; exact h.elim
  | succ n ih => intro v1 v2 I J h; exact w_X6_nextToken_L102s X R   ih v1 v2 I J h
def vc_X6_nextToken_B46  (Q : MI → MJ → Prop)   (I : MI) (J : MJ) : Prop := ∀ I15 : MI, I15 = wI I 1 6 (I 1 5) → (((I15 1 6) < (I15 1 1) → vp_in (I15 1 5) 160 ∧ vc_X6_isSmall (I15 2 (Int32.toNatClampNeg (I15 1 5))) I15 J (fun (r20 : Int32) (I18 : MI) (J19 : MJ) => vp_in (I18 1 5) 160 ∧ vc_X6_isDigit (I18 2 (Int32.toNatClampNeg (I18 1 5))) I18 J19 (fun (r24 : Int32) (I22 : MI) (J23 : MJ) => ∀ I25 : MI, I25 = wI I22 1 6 ((I22 1 6) + 1) → (∃ n, vc_X6_nextToken_L102  Q  n r20 r24 I25 J23)))) ∧ (¬ (I15 1 6) < (I15 1 1) → Q I15 J))
set_option maxRecDepth 100000 in
set_option maxHeartbeats 4000000 in
theorem w_X6_nextToken_B46 {Z : RT}  (X : Cx Z cX6_nextToken 3 RX6 wsX6_nextToken rmX6_nextToken none) {Q : MI → MJ → Prop} (R : RV Z Q)     (I : MI) (J : MJ) (h : vc_X6_nextToken_B46  Q   I J) : GW Z 3 I J 46 [(0, .ref (ea (zE Z) 1))] [] := by
  refine g_aload_n X dX6_nextToken_46 rfl 0 rfl ?_
  refine g_aload_n X dX6_nextToken_47 rfl 0 rfl ?_
  refine g_geti X (C := RX6) (T := TX6) (N := 10) (ci := 4) (k := 5) iX6_nextToken_X6 rfl kX6_nextToken_53 (Nat.le_of_ble_eq_true rfl) rfl (by decide) rfl rfl dX6_nextToken_48 ?_
  refine g_puti X (C := RX6) (T := TX6) (N := 10) (ci := 4) (k := 6) (ty0 := tyX6) iX6_nextToken_X6 tyX6_ok nmX6 rfl kX6_nextToken_43 (Nat.le_of_ble_eq_true rfl) rfl (by decide) rfl rfl (by decide +kernel) rfl dX6_nextToken_51 ?_
  refine g_nmI (fun I15 eI15 => ?_)
  have h := h I15 eI15
  refine g_aload_n X dX6_nextToken_54 rfl 0 rfl ?_
  refine g_geti X (C := RX6) (T := TX6) (N := 10) (ci := 4) (k := 6) iX6_nextToken_X6 rfl kX6_nextToken_43 (Nat.le_of_ble_eq_true rfl) rfl (by decide) rfl rfl dX6_nextToken_55 ?_
  refine g_aload_n X dX6_nextToken_58 rfl 0 rfl ?_
  refine g_geti X (C := RX6) (T := TX6) (N := 10) (ci := 4) (k := 1) iX6_nextToken_X6 rfl kX6_nextToken_22 (Nat.le_of_ble_eq_true rfl) rfl (by decide) rfl rfl dX6_nextToken_59 ?_
  refine g_icmp_lt X (tgt := 66) dX6_nextToken_62 (by decide) (fun c16 => ?_) (fun c16 => ?_)
  · have h := h.1 c16
    refine g_aload_n X dX6_nextToken_66 rfl 0 rfl ?_
    refine g_getr X (C := RX6) (T := TX6) (N := 10) (ci := 4) (k := 0) iX6_nextToken_X6 rfl kX6_nextToken_11 (Nat.le_of_ble_eq_true rfl) rfl (by decide) rfl rfl dX6_nextToken_67 ?_
    refine g_aload_n X dX6_nextToken_70 rfl 0 rfl ?_
    refine g_geti X (C := RX6) (T := TX6) (N := 10) (ci := 4) (k := 5) iX6_nextToken_X6 rfl kX6_nextToken_53 (Nat.le_of_ble_eq_true rfl) rfl (by decide) rfl rfl dX6_nextToken_71 ?_
    obtain ⟨b17, h⟩ := h
    refine g_cald X (Nat.le_of_ble_eq_true rfl) rfl b17 dX6_nextToken_74 ?_
    refine g_callSI X (As := [.int (I15 2 (Int32.toNatClampNeg (I15 1 5)))]) (rest := []) (c_X6_isSmall (zl Z) (zE Z) (I15 2 (Int32.toNatClampNeg (I15 1 5)))) gX6_nextToken_X6_isSmall yo_X6_isSmall.2 rfl ⟨Nat.le_of_ble_eq_true rfl, Nat.le_of_ble_eq_true rfl⟩ rfl dX6_nextToken_75 h (fun r20 I18 J19 h => ?_)
    refine g_istore_n X (lv' := [(1, .int r20), (0, .ref (ea (zE Z) 1))]) dX6_nextToken_78 rfl (by decide) rfl ?_
    refine g_aload_n X dX6_nextToken_79 rfl 1 rfl ?_
    refine g_getr X (C := RX6) (T := TX6) (N := 10) (ci := 4) (k := 0) iX6_nextToken_X6 rfl kX6_nextToken_11 (Nat.le_of_ble_eq_true rfl) rfl (by decide) rfl rfl dX6_nextToken_80 ?_
    refine g_aload_n X dX6_nextToken_83 rfl 1 rfl ?_
    refine g_geti X (C := RX6) (T := TX6) (N := 10) (ci := 4) (k := 5) iX6_nextToken_X6 rfl kX6_nextToken_53 (Nat.le_of_ble_eq_true rfl) rfl (by decide) rfl rfl dX6_nextToken_84 ?_
    obtain ⟨b21, h⟩ := h
    refine g_cald X (Nat.le_of_ble_eq_true rfl) rfl b21 dX6_nextToken_87 ?_
    refine g_callSI X (As := [.int (I18 2 (Int32.toNatClampNeg (I18 1 5)))]) (rest := []) (c_X6_isDigit (zl Z) (zE Z) (I18 2 (Int32.toNatClampNeg (I18 1 5)))) gX6_nextToken_X6_isDigit yo_X6_isDigit.2 rfl ⟨Nat.le_of_ble_eq_true rfl, Nat.le_of_ble_eq_true rfl⟩ rfl dX6_nextToken_88 h (fun r24 I22 J23 h => ?_)
    refine g_istore_n X (lv' := [(2, .int r24), (1, .int r20), (0, .ref (ea (zE Z) 1))]) dX6_nextToken_91 rfl (by decide) rfl ?_
    refine g_aload_n X dX6_nextToken_92 rfl 2 rfl ?_
    refine g_dup X dX6_nextToken_93 rfl ?_
    refine g_geti X (C := RX6) (T := TX6) (N := 10) (ci := 4) (k := 6) iX6_nextToken_X6 rfl kX6_nextToken_43 (Nat.le_of_ble_eq_true rfl) rfl (by decide) rfl rfl dX6_nextToken_94 ?_
    refine g_iconst X (v := 1) dX6_nextToken_97 (by decide) ?_
    refine g_iadd X dX6_nextToken_98 ?_
    refine g_puti X (C := RX6) (T := TX6) (N := 10) (ci := 4) (k := 6) (ty0 := tyX6) iX6_nextToken_X6 tyX6_ok nmX6 rfl kX6_nextToken_43 (Nat.le_of_ble_eq_true rfl) rfl (by decide) rfl rfl (by decide +kernel) rfl dX6_nextToken_99 ?_
    refine g_nmI (fun I25 eI25 => ?_)
    have h := h I25 eI25
    refine GW.sub (lv' := [(0, .ref (ea (zE Z) 1)), (1, .int r20), (2, .int r24)]) [2, 1, 0] rfl ?_
    obtain ⟨n, h⟩ := h
    exact w_X6_nextToken_L102 X R   n r20 r24 I25 J23 h
  · have h := h.2 c16
    exact g_vret X R dX6_nextToken_65 h
def vc_X6_nextToken_L8s  (Q : MI → MJ → Prop)  (k8 : MI → MJ → Prop)  (I : MI) (J : MJ) : Prop := (((I 1 1) ≤ (I 1 5) → vc_X6_nextToken_B46  Q  I J) ∧ (¬ (I 1 1) ≤ (I 1 5) → vp_in (I 1 5) 160 ∧ ((¬ (I 2 (Int32.toNatClampNeg (I 1 5))) = 32 → vc_X6_nextToken_B46  Q  I J) ∧ ((I 2 (Int32.toNatClampNeg (I 1 5))) = 32 → ∀ I29 : MI, I29 = wI I 1 5 ((I 1 5) + 1) → k8 I29 J))))
def vc_X6_nextToken_L8  (Q : MI → MJ → Prop)  (n : Nat) : MI → MJ → Prop := Nat.rec (fun  _ _ => False) (fun _ ih => vc_X6_nextToken_L8s  Q  ih) n
set_option maxRecDepth 100000 in
set_option maxHeartbeats 4000000 in
theorem w_X6_nextToken_L8s {Z : RT}  (X : Cx Z cX6_nextToken 3 RX6 wsX6_nextToken rmX6_nextToken none) {Q : MI → MJ → Prop} (R : RV Z Q)    {k8 : MI → MJ → Prop} (hk8 : ∀  (I : MI) (J : MJ), k8  I J → GW Z 3 I J 8 [(0, .ref (ea (zE Z) 1))] [])  (I : MI) (J : MJ) (h : vc_X6_nextToken_L8s  Q  k8  I J) : GW Z 3 I J 8 [(0, .ref (ea (zE Z) 1))] [] := by
  refine g_aload_n X dX6_nextToken_8 rfl 0 rfl ?_
  refine g_geti X (C := RX6) (T := TX6) (N := 10) (ci := 4) (k := 5) iX6_nextToken_X6 rfl kX6_nextToken_53 (Nat.le_of_ble_eq_true rfl) rfl (by decide) rfl rfl dX6_nextToken_9 ?_
  refine g_aload_n X dX6_nextToken_12 rfl 0 rfl ?_
  refine g_geti X (C := RX6) (T := TX6) (N := 10) (ci := 4) (k := 1) iX6_nextToken_X6 rfl kX6_nextToken_22 (Nat.le_of_ble_eq_true rfl) rfl (by decide) rfl rfl dX6_nextToken_13 ?_
  refine g_icmp_ge X (tgt := 46) dX6_nextToken_16 (by decide) (fun c26 => ?_) (fun c26 => ?_)
  · have h := h.1 c26
    refine GW.sub (lv' := [(0, .ref (ea (zE Z) 1))]) [0] rfl ?_
    exact w_X6_nextToken_B46 X R   I J h
  · have h := h.2 c26
    refine g_aload_n X dX6_nextToken_19 rfl 0 rfl ?_
    refine g_getr X (C := RX6) (T := TX6) (N := 10) (ci := 4) (k := 0) iX6_nextToken_X6 rfl kX6_nextToken_11 (Nat.le_of_ble_eq_true rfl) rfl (by decide) rfl rfl dX6_nextToken_20 ?_
    refine g_aload_n X dX6_nextToken_23 rfl 0 rfl ?_
    refine g_geti X (C := RX6) (T := TX6) (N := 10) (ci := 4) (k := 5) iX6_nextToken_X6 rfl kX6_nextToken_53 (Nat.le_of_ble_eq_true rfl) rfl (by decide) rfl rfl dX6_nextToken_24 ?_
    obtain ⟨b27, h⟩ := h
    refine g_cald X (Nat.le_of_ble_eq_true rfl) rfl b27 dX6_nextToken_27 ?_
    refine g_bipush X (v := 32) dX6_nextToken_28 (by decide) ?_
    refine g_icmp_ne X (tgt := 46) dX6_nextToken_30 (by decide) (fun c28 => ?_) (fun c28 => ?_)
    · have h := h.1 c28
      refine GW.sub (lv' := [(0, .ref (ea (zE Z) 1))]) [0] rfl ?_
      exact w_X6_nextToken_B46 X R   I J h
    · have h := h.2 c28
      refine g_aload_n X dX6_nextToken_33 rfl 0 rfl ?_
      refine g_dup X dX6_nextToken_34 rfl ?_
      refine g_geti X (C := RX6) (T := TX6) (N := 10) (ci := 4) (k := 5) iX6_nextToken_X6 rfl kX6_nextToken_53 (Nat.le_of_ble_eq_true rfl) rfl (by decide) rfl rfl dX6_nextToken_35 ?_
      refine g_iconst X (v := 1) dX6_nextToken_38 (by decide) ?_
      refine g_iadd X dX6_nextToken_39 ?_
      refine g_puti X (C := RX6) (T := TX6) (N := 10) (ci := 4) (k := 5) (ty0 := tyX6) iX6_nextToken_X6 tyX6_ok nmX6 rfl kX6_nextToken_53 (Nat.le_of_ble_eq_true rfl) rfl (by decide) rfl rfl (by decide +kernel) rfl dX6_nextToken_40 ?_
      refine g_nmI (fun I29 eI29 => ?_)
      have h := h I29 eI29
      refine g_goto X (tgt := 8) dX6_nextToken_43 (by decide) ?_
      refine GW.sub (lv' := [(0, .ref (ea (zE Z) 1))]) [0] rfl ?_
      exact hk8 I29 J h
theorem w_X6_nextToken_L8 {Z : RT}  (X : Cx Z cX6_nextToken 3 RX6 wsX6_nextToken rmX6_nextToken none) {Q : MI → MJ → Prop} (R : RV Z Q)    : ∀ (n : Nat)  (I : MI) (J : MJ) (h : vc_X6_nextToken_L8  Q  n  I J), GW Z 3 I J 8 [(0, .ref (ea (zE Z) 1))] [] := by
  intro n
  induction n with
  | zero => intro  I J h; exact h.elim
  | succ n ih => intro  I J h; exact w_X6_nextToken_L8s X R   ih  I J h
def vc_X6_nextToken  (I : MI) (J : MJ) (Q : MI → MJ → Prop) : Prop := ∀ I30 : MI, I30 = wI I 1 5 (I 1 6) → (∃ n, vc_X6_nextToken_L8  Q  n I30 J)
set_option maxRecDepth 100000 in
set_option maxHeartbeats 4000000 in
theorem c_X6_nextToken (l : Launch) (E : ET)   : CV l yX6_nextToken wsX6_nextToken rmX6_nextToken E [.ref (ea E 1)] (vc_X6_nextToken ) := by
  refine CV.of (cc := cX6_nextToken) (maxL := 3) (own := RX6) (by decide) rfl rfl (Nat.le_of_ble_eq_true rfl) ?_
  intro Z I J Q hE hl X R h
  subst hE
  subst hl
  show GW Z 3 I J 0 [(0, .ref (ea (zE Z) 1))] []
  refine g_aload_n X dX6_nextToken_0 rfl 0 rfl ?_
  refine g_aload_n X dX6_nextToken_1 rfl 0 rfl ?_
  refine g_geti X (C := RX6) (T := TX6) (N := 10) (ci := 4) (k := 6) iX6_nextToken_X6 rfl kX6_nextToken_43 (Nat.le_of_ble_eq_true rfl) rfl (by decide) rfl rfl dX6_nextToken_2 ?_
  refine g_puti X (C := RX6) (T := TX6) (N := 10) (ci := 4) (k := 5) (ty0 := tyX6) iX6_nextToken_X6 tyX6_ok nmX6 rfl kX6_nextToken_53 (Nat.le_of_ble_eq_true rfl) rfl (by decide) rfl rfl (by decide +kernel) rfl dX6_nextToken_5 ?_
  refine g_nmI (fun I30 eI30 => ?_)
  have h := h I30 eI30
  refine GW.sub (lv' := [(0, .ref (ea (zE Z) 1))]) [0] rfl ?_
  obtain ⟨n, h⟩ := h
  exact w_X6_nextToken_L8 X R   n I30 J h

/-! X6_spells.spells(Ljava/lang/String;)Z -/
def rmX6_spells : Room := { frames := 4, cells := 0, slots := 0, locals := 93 }
theorem yo_X6_spells : yX6_spells.cls = RX6 ∧ yX6_spells.cls ≠ "java/lang/invoke/MethodHandle" ∧ yX6_spells.cls ≠ "java/lang/invoke/VarHandle" ∧ (parseMethodDescriptor yX6_spells.desc).map (fun d => d.parameters.length) = some 1 := by decide +kernel
theorem kX6_spells_11 : Cond.fieldLink RX6 11 "SnowCourse$Script" (TX6 0).2.1 (TX6 0).2.2.1 ∈ wsX6_spells := by decide +kernel
theorem iX6_spells_X6 : ∀ w ∈ u_ws RX6 TX6 10, w ∈ wsX6_spells := by decide +kernel
theorem kX6_spells_53 : Cond.fieldLink RX6 53 "SnowCourse$Script" (TX6 5).2.1 (TX6 5).2.2.1 ∈ wsX6_spells := by decide +kernel
theorem kX6_spells_43 : Cond.fieldLink RX6 43 "SnowCourse$Script" (TX6 6).2.1 (TX6 6).2.2.1 ∈ wsX6_spells := by decide +kernel
def vc_X6_spells_L27s (a1 : Nat) (Q : Int32 → MI → MJ → Prop)  (k27 : Int32 → MI → MJ → Prop) (v2 : Int32) (I : MI) (J : MJ) : Prop := vc_J0_length_8abf5 a1 I J (fun (r3 : Int32) (I1 : MI) (J2 : MJ) => ((r3 ≤ v2 → Q 1 I1 J2) ∧ (¬ r3 ≤ v2 → vp_in ((I1 1 5) + v2) 160 ∧ vc_J0_charAt_5068e a1 v2 I1 J2 (fun (r8 : Int32) (I6 : MI) (J7 : MJ) => (((I1 2 (Int32.toNatClampNeg ((I1 1 5) + v2))) = r8 → ∀ x10 : Int32, x10 = v2 + 1 → k27 x10 I6 J7) ∧ (¬ (I1 2 (Int32.toNatClampNeg ((I1 1 5) + v2))) = r8 → Q 0 I6 J7))))))
def vc_X6_spells_L27 (a1 : Nat) (Q : Int32 → MI → MJ → Prop)  (n : Nat) : Int32 → MI → MJ → Prop := Nat.rec (fun _ _ _ => False) (fun _ ih => vc_X6_spells_L27s a1 Q  ih) n
set_option maxRecDepth 100000 in
set_option maxHeartbeats 4000000 in
theorem w_X6_spells_L27s {Z : RT} {a1 : Nat} (X : Cx Z cX6_spells 3 RX6 wsX6_spells rmX6_spells (some .boolean)) {Q : Int32 → MI → MJ → Prop} (R : RI Z Q) (h1 : a1 < 14)   {k27 : Int32 → MI → MJ → Prop} (hk27 : ∀ (v2 : Int32) (I : MI) (J : MJ), k27 v2 I J → GW Z 3 I J 27 [(0, .ref (ea (zE Z) 1)), (1, .ref (eK (zE Z) a1)), (2, .int v2)] []) (v2 : Int32) (I : MI) (J : MJ) (h : vc_X6_spells_L27s a1 Q  k27 v2 I J) : GW Z 3 I J 27 [(0, .ref (ea (zE Z) 1)), (1, .ref (eK (zE Z) a1)), (2, .int v2)] [] := by
  refine g_iload_n X dX6_spells_27 rfl 2 rfl ?_
  refine g_aload_n X dX6_spells_28 rfl 1 rfl ?_
  refine g_callTI X (As := []) (rest := [.int v2]) (c_J0_length_8abf5 (zl Z) (zE Z) h1) gX6_spells_J0_length_8abf5 yo_J0_length_8abf5 rfl ⟨Nat.le_of_ble_eq_true rfl, Nat.le_of_ble_eq_true rfl⟩ h1 rfl dX6_spells_29 h (fun r3 I1 J2 h => ?_)
  refine g_icmp_ge X (tgt := 62) dX6_spells_32 (by decide) (fun c4 => ?_) (fun c4 => ?_)
  · have h := h.1 c4
    refine g_iconst X (v := 1) dX6_spells_62 (by decide) ?_
    exact g_zret X R (by decide) dX6_spells_63 h
  · have h := h.2 c4
    refine g_aload_n X dX6_spells_35 rfl 0 rfl ?_
    refine g_getr X (C := RX6) (T := TX6) (N := 10) (ci := 4) (k := 0) iX6_spells_X6 rfl kX6_spells_11 (Nat.le_of_ble_eq_true rfl) rfl (by decide) rfl rfl dX6_spells_36 ?_
    refine g_aload_n X dX6_spells_39 rfl 0 rfl ?_
    refine g_geti X (C := RX6) (T := TX6) (N := 10) (ci := 4) (k := 5) iX6_spells_X6 rfl kX6_spells_53 (Nat.le_of_ble_eq_true rfl) rfl (by decide) rfl rfl dX6_spells_40 ?_
    refine g_iload_n X dX6_spells_43 rfl 2 rfl ?_
    refine g_iadd X dX6_spells_44 ?_
    obtain ⟨b5, h⟩ := h
    refine g_cald X (Nat.le_of_ble_eq_true rfl) rfl b5 dX6_spells_45 ?_
    refine g_aload_n X dX6_spells_46 rfl 1 rfl ?_
    refine g_iload_n X dX6_spells_47 rfl 2 rfl ?_
    refine g_callTI X (As := [.int v2]) (rest := [.int (I1 2 (Int32.toNatClampNeg ((I1 1 5) + v2)))]) (c_J0_charAt_5068e (zl Z) (zE Z) h1 v2) gX6_spells_J0_charAt_5068e yo_J0_charAt_5068e rfl ⟨Nat.le_of_ble_eq_true rfl, Nat.le_of_ble_eq_true rfl⟩ h1 rfl dX6_spells_48 h (fun r8 I6 J7 h => ?_)
    refine g_icmp_eq X (tgt := 56) dX6_spells_51 (by decide) (fun c9 => ?_) (fun c9 => ?_)
    · have h := h.1 c9
      obtain ⟨x10, ex10⟩ : ∃ y : Int32, y = v2 + 1 := ⟨_, rfl⟩
      have h := h x10 ex10
      refine g_iinc X (q := 2) (v := x10) (lv' := [(2, .int x10), (0, .ref (ea (zE Z) 1)), (1, .ref (eK (zE Z) a1))]) dX6_spells_56 rfl (by rw [ex10]; rfl) (by decide) rfl ?_
      refine g_goto X (tgt := 27) dX6_spells_59 (by decide) ?_
      refine GW.sub (lv' := [(0, .ref (ea (zE Z) 1)), (1, .ref (eK (zE Z) a1)), (2, .int x10)]) [1, 2, 0] rfl ?_
      exact hk27 x10 I6 J7 h
    · have h := h.2 c9
      refine g_iconst X (v := 0) dX6_spells_54 (by decide) ?_
      exact g_zret X R (by decide) dX6_spells_55 h
theorem w_X6_spells_L27 {Z : RT} {a1 : Nat} (X : Cx Z cX6_spells 3 RX6 wsX6_spells rmX6_spells (some .boolean)) {Q : Int32 → MI → MJ → Prop} (R : RI Z Q) (h1 : a1 < 14)   : ∀ (n : Nat) (v2 : Int32) (I : MI) (J : MJ) (h : vc_X6_spells_L27 a1 Q  n v2 I J), GW Z 3 I J 27 [(0, .ref (ea (zE Z) 1)), (1, .ref (eK (zE Z) a1)), (2, .int v2)] [] := by
  intro n
  induction n with
  | zero => intro v2 I J h; exact h.elim
  | succ n ih => intro v2 I J h; exact w_X6_spells_L27s X R h1  ih v2 I J h
def vc_X6_spells (a1 : Nat) (I : MI) (J : MJ) (Q : Int32 → MI → MJ → Prop) : Prop := vc_J0_isEmpty_aae02 a1 I J (fun (r13 : Int32) (I11 : MI) (J12 : MJ) => ((¬ r13 = 0 → Q 0 I11 J12) ∧ (r13 = 0 → vc_J0_length_8abf5 a1 I11 J12 (fun (r17 : Int32) (I15 : MI) (J16 : MJ) => ((((I11 1 6) - (I11 1 5)) = r17 → (∃ n, vc_X6_spells_L27 a1 Q  n 0 I15 J16)) ∧ (¬ ((I11 1 6) - (I11 1 5)) = r17 → Q 0 I15 J16))))))
set_option maxRecDepth 100000 in
set_option maxHeartbeats 4000000 in
theorem c_X6_spells (l : Launch) (E : ET) {a1 : Nat} (h1 : a1 < 14) : CI l yX6_spells wsX6_spells rmX6_spells E [.ref (ea E 1), .ref (eK E a1)] (vc_X6_spells a1) := by
  refine CI.of (cc := cX6_spells) (maxL := 3) (own := RX6) (by decide) rfl rfl (Nat.le_of_ble_eq_true rfl) ?_
  intro Z I J Q hE hl X R h
  subst hE
  subst hl
  show GW Z 3 I J 0 [(0, .ref (ea (zE Z) 1)), (1, .ref (eK (zE Z) a1))] []
  refine g_aload_n X dX6_spells_0 rfl 1 rfl ?_
  refine g_callTI X (As := []) (rest := []) (c_J0_isEmpty_aae02 (zl Z) (zE Z) h1) gX6_spells_J0_isEmpty_aae02 yo_J0_isEmpty_aae02 rfl ⟨Nat.le_of_ble_eq_true rfl, Nat.le_of_ble_eq_true rfl⟩ h1 rfl dX6_spells_1 h (fun r13 I11 J12 h => ?_)
  refine g_if_ne X (tgt := 23) dX6_spells_4 (by decide) (fun c14 => ?_) (fun c14 => ?_)
  · have h := h.1 c14
    refine g_iconst X (v := 0) dX6_spells_23 (by decide) ?_
    exact g_zret X R (by decide) dX6_spells_24 h
  · have h := h.2 c14
    refine g_aload_n X dX6_spells_7 rfl 0 rfl ?_
    refine g_geti X (C := RX6) (T := TX6) (N := 10) (ci := 4) (k := 6) iX6_spells_X6 rfl kX6_spells_43 (Nat.le_of_ble_eq_true rfl) rfl (by decide) rfl rfl dX6_spells_8 ?_
    refine g_aload_n X dX6_spells_11 rfl 0 rfl ?_
    refine g_geti X (C := RX6) (T := TX6) (N := 10) (ci := 4) (k := 5) iX6_spells_X6 rfl kX6_spells_53 (Nat.le_of_ble_eq_true rfl) rfl (by decide) rfl rfl dX6_spells_12 ?_
    refine g_isub X dX6_spells_15 ?_
    refine g_aload_n X dX6_spells_16 rfl 1 rfl ?_
    refine g_callTI X (As := []) (rest := [.int ((I11 1 6) - (I11 1 5))]) (c_J0_length_8abf5 (zl Z) (zE Z) h1) gX6_spells_J0_length_8abf5 yo_J0_length_8abf5 rfl ⟨Nat.le_of_ble_eq_true rfl, Nat.le_of_ble_eq_true rfl⟩ h1 rfl dX6_spells_17 h (fun r17 I15 J16 h => ?_)
    refine g_icmp_eq X (tgt := 25) dX6_spells_20 (by decide) (fun c18 => ?_) (fun c18 => ?_)
    · have h := h.1 c18
      refine g_iconst X (v := 0) dX6_spells_25 (by decide) ?_
      refine g_istore_n X (lv' := [(2, .int 0), (0, .ref (ea (zE Z) 1)), (1, .ref (eK (zE Z) a1))]) dX6_spells_26 rfl (by decide) rfl ?_
      refine GW.sub (lv' := [(0, .ref (ea (zE Z) 1)), (1, .ref (eK (zE Z) a1)), (2, .int 0)]) [1, 2, 0] rfl ?_
      obtain ⟨n, h⟩ := h
      exact w_X6_spells_L27 X R h1  n 0 I15 J16 h
    · have h := h.2 c18
      refine g_iconst X (v := 0) dX6_spells_23 (by decide) ?_
      exact g_zret X R (by decide) dX6_spells_24 h

/-! X6_kindOf.kindOf(Ljava/lang/String;Ljava/lang/String;Ljava/lang/String;Ljava/lang/String;)I -/
def rmX6_kindOf : Room := { frames := 5, cells := 0, slots := 0, locals := 115 }
theorem yo_X6_kindOf : yX6_kindOf.cls = RX6 ∧ yX6_kindOf.cls ≠ "java/lang/invoke/MethodHandle" ∧ yX6_kindOf.cls ≠ "java/lang/invoke/VarHandle" ∧ (parseMethodDescriptor yX6_kindOf.desc).map (fun d => d.parameters.length) = some 4 := by decide +kernel
def vc_X6_kindOf (a1 : Nat) (a2 : Nat) (a3 : Nat) (a4 : Nat) (I : MI) (J : MJ) (Q : Int32 → MI → MJ → Prop) : Prop := vc_X6_spells a1 I J (fun (r3 : Int32) (I1 : MI) (J2 : MJ) => ((r3 = 0 → vc_X6_spells a2 I1 J2 (fun (r7 : Int32) (I5 : MI) (J6 : MJ) => ((r7 = 0 → vc_X6_spells a3 I5 J6 (fun (r11 : Int32) (I9 : MI) (J10 : MJ) => ((r11 = 0 → vc_X6_spells a4 I9 J10 (fun (r15 : Int32) (I13 : MI) (J14 : MJ) => ((r15 = 0 → Q (-1) I13 J14) ∧ (¬ r15 = 0 → Q 3 I13 J14)))) ∧ (¬ r11 = 0 → Q 2 I9 J10)))) ∧ (¬ r7 = 0 → Q 1 I5 J6)))) ∧ (¬ r3 = 0 → Q 0 I1 J2)))
set_option maxRecDepth 100000 in
set_option maxHeartbeats 4000000 in
theorem c_X6_kindOf (l : Launch) (E : ET) {a1 : Nat} {a2 : Nat} {a3 : Nat} {a4 : Nat} (h1 : a1 < 14) (h2 : a2 < 14) (h3 : a3 < 14) (h4 : a4 < 14) : CI l yX6_kindOf wsX6_kindOf rmX6_kindOf E [.ref (ea E 1), .ref (eK E a1), .ref (eK E a2), .ref (eK E a3), .ref (eK E a4)] (vc_X6_kindOf a1 a2 a3 a4) := by
  refine CI.of (cc := cX6_kindOf) (maxL := 5) (own := RX6) (by decide) rfl rfl (Nat.le_of_ble_eq_true rfl) ?_
  intro Z I J Q hE hl X R h
  subst hE
  subst hl
  show GW Z 5 I J 0 [(0, .ref (ea (zE Z) 1)), (1, .ref (eK (zE Z) a1)), (2, .ref (eK (zE Z) a2)), (3, .ref (eK (zE Z) a3)), (4, .ref (eK (zE Z) a4))] []
  refine g_aload_n X dX6_kindOf_0 rfl 0 rfl ?_
  refine g_aload_n X dX6_kindOf_1 rfl 1 rfl ?_
  refine g_callVI X (As := [.ref (eK (zE Z) a1)]) (rest := []) (T := TX6) (N := 10) (c_X6_spells (zl Z) (zE Z) h1) gX6_kindOf_X6_spells yo_X6_spells rfl ⟨Nat.le_of_ble_eq_true rfl, Nat.le_of_ble_eq_true rfl⟩ (Nat.le_of_ble_eq_true rfl) rfl rfl rfl dX6_kindOf_2 h (fun r3 I1 J2 h => ?_)
  refine g_if_eq X (tgt := 10) dX6_kindOf_5 (by decide) (fun c4 => ?_) (fun c4 => ?_)
  · have h := h.1 c4
    refine g_aload_n X dX6_kindOf_10 rfl 0 rfl ?_
    refine g_aload_n X dX6_kindOf_11 rfl 2 rfl ?_
    refine g_callVI X (As := [.ref (eK (zE Z) a2)]) (rest := []) (T := TX6) (N := 10) (c_X6_spells (zl Z) (zE Z) h2) gX6_kindOf_X6_spells yo_X6_spells rfl ⟨Nat.le_of_ble_eq_true rfl, Nat.le_of_ble_eq_true rfl⟩ (Nat.le_of_ble_eq_true rfl) rfl rfl rfl dX6_kindOf_12 h (fun r7 I5 J6 h => ?_)
    refine g_if_eq X (tgt := 20) dX6_kindOf_15 (by decide) (fun c8 => ?_) (fun c8 => ?_)
    · have h := h.1 c8
      refine g_aload_n X dX6_kindOf_20 rfl 0 rfl ?_
      refine g_aload_n X dX6_kindOf_21 rfl 3 rfl ?_
      refine g_callVI X (As := [.ref (eK (zE Z) a3)]) (rest := []) (T := TX6) (N := 10) (c_X6_spells (zl Z) (zE Z) h3) gX6_kindOf_X6_spells yo_X6_spells rfl ⟨Nat.le_of_ble_eq_true rfl, Nat.le_of_ble_eq_true rfl⟩ (Nat.le_of_ble_eq_true rfl) rfl rfl rfl dX6_kindOf_22 h (fun r11 I9 J10 h => ?_)
      refine g_if_eq X (tgt := 30) dX6_kindOf_25 (by decide) (fun c12 => ?_) (fun c12 => ?_)
      · have h := h.1 c12
        refine g_aload_n X dX6_kindOf_30 rfl 0 rfl ?_
        refine g_aload X dX6_kindOf_31 4 rfl ?_
        refine g_callVI X (As := [.ref (eK (zE Z) a4)]) (rest := []) (T := TX6) (N := 10) (c_X6_spells (zl Z) (zE Z) h4) gX6_kindOf_X6_spells yo_X6_spells rfl ⟨Nat.le_of_ble_eq_true rfl, Nat.le_of_ble_eq_true rfl⟩ (Nat.le_of_ble_eq_true rfl) rfl rfl rfl dX6_kindOf_33 h (fun r15 I13 J14 h => ?_)
        refine g_if_eq X (tgt := 43) dX6_kindOf_36 (by decide) (fun c16 => ?_) (fun c16 => ?_)
        · have h := h.1 c16
          refine g_iconst X (v := (-1)) dX6_kindOf_43 (by decide) ?_
          exact g_iret X R dX6_kindOf_44 h
        · have h := h.2 c16
          refine g_iconst X (v := 3) dX6_kindOf_39 (by decide) ?_
          refine g_goto X (tgt := 44) dX6_kindOf_40 (by decide) ?_
          exact g_iret X R dX6_kindOf_44 h
      · have h := h.2 c12
        refine g_iconst X (v := 2) dX6_kindOf_28 (by decide) ?_
        exact g_iret X R dX6_kindOf_29 h
    · have h := h.2 c8
      refine g_iconst X (v := 1) dX6_kindOf_18 (by decide) ?_
      exact g_iret X R dX6_kindOf_19 h
  · have h := h.2 c4
    refine g_iconst X (v := 0) dX6_kindOf_8 (by decide) ?_
    exact g_iret X R dX6_kindOf_9 h

/-! X6_wordInHand.wordInHand()I -/
def rmX6_wordInHand : Room := { frames := 6, cells := 0, slots := 0, locals := 139 }
theorem yo_X6_wordInHand : yX6_wordInHand.cls = RX6 ∧ yX6_wordInHand.cls ≠ "java/lang/invoke/MethodHandle" ∧ yX6_wordInHand.cls ≠ "java/lang/invoke/VarHandle" ∧ (parseMethodDescriptor yX6_wordInHand.desc).map (fun d => d.parameters.length) = some 0 := by decide +kernel
def vc_X6_wordInHand  (I : MI) (J : MJ) (Q : Int32 → MI → MJ → Prop) : Prop := vc_X6_spells 0 I J (fun (r3 : Int32) (I1 : MI) (J2 : MJ) => ((r3 = 0 → vc_X6_spells 1 I1 J2 (fun (r7 : Int32) (I5 : MI) (J6 : MJ) => ((r7 = 0 → vc_X6_spells 2 I5 J6 (fun (r11 : Int32) (I9 : MI) (J10 : MJ) => ((r11 = 0 → vc_X6_kindOf 3 4 5 6 I9 J10 (fun (r15 : Int32) (I13 : MI) (J14 : MJ) => ((r15 = (-1) → vc_X6_kindOf 7 8 9 10 I13 J14 (fun (r19 : Int32) (I17 : MI) (J18 : MJ) => ((r19 = (-1) → vc_X6_kindOf 11 12 13 10 I17 J18 (fun (r23 : Int32) (I21 : MI) (J22 : MJ) => ((r23 = (-1) → Q (-1) I21 J22) ∧ (¬ r23 = (-1) → Q (8 + r23) I21 J22)))) ∧ (¬ r19 = (-1) → Q (5 + r19) I17 J18)))) ∧ (¬ r15 = (-1) → Q (1 + r15) I13 J14)))) ∧ (¬ r11 = 0 → Q 12 I9 J10)))) ∧ (¬ r7 = 0 → Q 11 I5 J6)))) ∧ (¬ r3 = 0 → Q 0 I1 J2)))
set_option maxRecDepth 100000 in
set_option maxHeartbeats 4000000 in
theorem c_X6_wordInHand (l : Launch) (E : ET)   : CI l yX6_wordInHand wsX6_wordInHand rmX6_wordInHand E [.ref (ea E 1)] (vc_X6_wordInHand ) := by
  refine CI.of (cc := cX6_wordInHand) (maxL := 4) (own := RX6) (by decide) rfl rfl (Nat.le_of_ble_eq_true rfl) ?_
  intro Z I J Q hE hl X R h
  subst hE
  subst hl
  show GW Z 4 I J 0 [(0, .ref (ea (zE Z) 1))] []
  refine g_aload_n X dX6_wordInHand_0 rfl 0 rfl ?_
  refine g_ldcS X 0 (by decide) rfl dX6_wordInHand_1 ?_
  refine g_callVI X (As := [.ref (eK (zE Z) 0)]) (rest := []) (T := TX6) (N := 10) (c_X6_spells (zl Z) (zE Z) (by decide)) gX6_wordInHand_X6_spells yo_X6_spells rfl ⟨Nat.le_of_ble_eq_true rfl, Nat.le_of_ble_eq_true rfl⟩ (Nat.le_of_ble_eq_true rfl) rfl rfl rfl dX6_wordInHand_3 h (fun r3 I1 J2 h => ?_)
  refine g_if_eq X (tgt := 11) dX6_wordInHand_6 (by decide) (fun c4 => ?_) (fun c4 => ?_)
  · have h := h.1 c4
    refine g_aload_n X dX6_wordInHand_11 rfl 0 rfl ?_
    refine g_ldcS X 1 (by decide) rfl dX6_wordInHand_12 ?_
    refine g_callVI X (As := [.ref (eK (zE Z) 1)]) (rest := []) (T := TX6) (N := 10) (c_X6_spells (zl Z) (zE Z) (by decide)) gX6_wordInHand_X6_spells yo_X6_spells rfl ⟨Nat.le_of_ble_eq_true rfl, Nat.le_of_ble_eq_true rfl⟩ (Nat.le_of_ble_eq_true rfl) rfl rfl rfl dX6_wordInHand_14 h (fun r7 I5 J6 h => ?_)
    refine g_if_eq X (tgt := 23) dX6_wordInHand_17 (by decide) (fun c8 => ?_) (fun c8 => ?_)
    · have h := h.1 c8
      refine g_aload_n X dX6_wordInHand_23 rfl 0 rfl ?_
      refine g_ldcS X 2 (by decide) rfl dX6_wordInHand_24 ?_
      refine g_callVI X (As := [.ref (eK (zE Z) 2)]) (rest := []) (T := TX6) (N := 10) (c_X6_spells (zl Z) (zE Z) (by decide)) gX6_wordInHand_X6_spells yo_X6_spells rfl ⟨Nat.le_of_ble_eq_true rfl, Nat.le_of_ble_eq_true rfl⟩ (Nat.le_of_ble_eq_true rfl) rfl rfl rfl dX6_wordInHand_26 h (fun r11 I9 J10 h => ?_)
      refine g_if_eq X (tgt := 35) dX6_wordInHand_29 (by decide) (fun c12 => ?_) (fun c12 => ?_)
      · have h := h.1 c12
        refine g_aload_n X dX6_wordInHand_35 rfl 0 rfl ?_
        refine g_ldcS X 3 (by decide) rfl dX6_wordInHand_36 ?_
        refine g_ldcS X 4 (by decide) rfl dX6_wordInHand_38 ?_
        refine g_ldcS X 5 (by decide) rfl dX6_wordInHand_40 ?_
        refine g_ldcS X 6 (by decide) rfl dX6_wordInHand_42 ?_
        refine g_callVI X (As := [.ref (eK (zE Z) 3), .ref (eK (zE Z) 4), .ref (eK (zE Z) 5), .ref (eK (zE Z) 6)]) (rest := []) (T := TX6) (N := 10) (c_X6_kindOf (zl Z) (zE Z) (by decide) (by decide) (by decide) (by decide)) gX6_wordInHand_X6_kindOf yo_X6_kindOf rfl ⟨Nat.le_of_ble_eq_true rfl, Nat.le_of_ble_eq_true rfl⟩ (Nat.le_of_ble_eq_true rfl) rfl rfl rfl dX6_wordInHand_44 h (fun r15 I13 J14 h => ?_)
        refine g_istore_n X (lv' := [(1, .int r15), (0, .ref (ea (zE Z) 1))]) dX6_wordInHand_47 rfl (by decide) rfl ?_
        refine g_iload_n X dX6_wordInHand_48 rfl 0 rfl ?_
        refine g_iconst X (v := (-1)) dX6_wordInHand_49 (by decide) ?_
        refine g_icmp_eq X (tgt := 57) dX6_wordInHand_50 (by decide) (fun c16 => ?_) (fun c16 => ?_)
        · have h := h.1 c16
          refine g_aload_n X dX6_wordInHand_57 rfl 1 rfl ?_
          refine g_ldcS X 7 (by decide) rfl dX6_wordInHand_58 ?_
          refine g_ldcS X 8 (by decide) rfl dX6_wordInHand_60 ?_
          refine g_ldcS X 9 (by decide) rfl dX6_wordInHand_62 ?_
          refine g_ldcS X 10 (by decide) rfl dX6_wordInHand_64 ?_
          refine g_callVI X (As := [.ref (eK (zE Z) 7), .ref (eK (zE Z) 8), .ref (eK (zE Z) 9), .ref (eK (zE Z) 10)]) (rest := []) (T := TX6) (N := 10) (c_X6_kindOf (zl Z) (zE Z) (by decide) (by decide) (by decide) (by decide)) gX6_wordInHand_X6_kindOf yo_X6_kindOf rfl ⟨Nat.le_of_ble_eq_true rfl, Nat.le_of_ble_eq_true rfl⟩ (Nat.le_of_ble_eq_true rfl) rfl rfl rfl dX6_wordInHand_66 h (fun r19 I17 J18 h => ?_)
          refine g_istore_n X (lv' := [(2, .int r19), (1, .int r15), (0, .ref (ea (zE Z) 1))]) dX6_wordInHand_69 rfl (by decide) rfl ?_
          refine g_iload_n X dX6_wordInHand_70 rfl 0 rfl ?_
          refine g_iconst X (v := (-1)) dX6_wordInHand_71 (by decide) ?_
          refine g_icmp_eq X (tgt := 79) dX6_wordInHand_72 (by decide) (fun c20 => ?_) (fun c20 => ?_)
          · have h := h.1 c20
            refine g_aload_n X dX6_wordInHand_79 rfl 2 rfl ?_
            refine g_ldcS X 11 (by decide) rfl dX6_wordInHand_80 ?_
            refine g_ldcS X 12 (by decide) rfl dX6_wordInHand_82 ?_
            refine g_ldcS X 13 (by decide) rfl dX6_wordInHand_84 ?_
            refine g_ldcS X 10 (by decide) rfl dX6_wordInHand_86 ?_
            refine g_callVI X (As := [.ref (eK (zE Z) 11), .ref (eK (zE Z) 12), .ref (eK (zE Z) 13), .ref (eK (zE Z) 10)]) (rest := []) (T := TX6) (N := 10) (c_X6_kindOf (zl Z) (zE Z) (by decide) (by decide) (by decide) (by decide)) gX6_wordInHand_X6_kindOf yo_X6_kindOf rfl ⟨Nat.le_of_ble_eq_true rfl, Nat.le_of_ble_eq_true rfl⟩ (Nat.le_of_ble_eq_true rfl) rfl rfl rfl dX6_wordInHand_88 h (fun r23 I21 J22 h => ?_)
            refine g_istore_n X (lv' := [(3, .int r23), (2, .int r19), (1, .int r15), (0, .ref (ea (zE Z) 1))]) dX6_wordInHand_91 rfl (by decide) rfl ?_
            refine g_iload_n X dX6_wordInHand_92 rfl 0 rfl ?_
            refine g_iconst X (v := (-1)) dX6_wordInHand_93 (by decide) ?_
            refine g_icmp_eq X (tgt := 104) dX6_wordInHand_94 (by decide) (fun c24 => ?_) (fun c24 => ?_)
            · have h := h.1 c24
              refine g_iconst X (v := (-1)) dX6_wordInHand_104 (by decide) ?_
              exact g_iret X R dX6_wordInHand_105 h
            · have h := h.2 c24
              refine g_bipush X (v := 8) dX6_wordInHand_97 (by decide) ?_
              refine g_iload_n X dX6_wordInHand_99 rfl 0 rfl ?_
              refine g_iadd X dX6_wordInHand_100 ?_
              refine g_goto X (tgt := 105) dX6_wordInHand_101 (by decide) ?_
              exact g_iret X R dX6_wordInHand_105 h
          · have h := h.2 c20
            refine g_iconst X (v := 5) dX6_wordInHand_75 (by decide) ?_
            refine g_iload_n X dX6_wordInHand_76 rfl 0 rfl ?_
            refine g_iadd X dX6_wordInHand_77 ?_
            exact g_iret X R dX6_wordInHand_78 h
        · have h := h.2 c16
          refine g_iconst X (v := 1) dX6_wordInHand_53 (by decide) ?_
          refine g_iload_n X dX6_wordInHand_54 rfl 0 rfl ?_
          refine g_iadd X dX6_wordInHand_55 ?_
          exact g_iret X R dX6_wordInHand_56 h
      · have h := h.2 c12
        refine g_bipush X (v := 12) dX6_wordInHand_32 (by decide) ?_
        exact g_iret X R dX6_wordInHand_34 h
    · have h := h.2 c8
      refine g_bipush X (v := 11) dX6_wordInHand_20 (by decide) ?_
      exact g_iret X R dX6_wordInHand_22 h
  · have h := h.2 c4
    refine g_iconst X (v := 0) dX6_wordInHand_9 (by decide) ?_
    exact g_iret X R dX6_wordInHand_10 h

/-! X6_readNumber.readNumber(IIII)Z -/
def rmX6_readNumber : Room := { frames := 2, cells := 0, slots := 0, locals := 42 }
theorem yo_X6_readNumber : yX6_readNumber.cls = RX6 ∧ yX6_readNumber.cls ≠ "java/lang/invoke/MethodHandle" ∧ yX6_readNumber.cls ≠ "java/lang/invoke/VarHandle" ∧ (parseMethodDescriptor yX6_readNumber.desc).map (fun d => d.parameters.length) = some 4 := by decide +kernel
theorem kX6_readNumber_iniX10_within : Cond.initialized yX10_within.cls ∈ wsX6_readNumber := by decide +kernel
theorem kX6_readNumber_staX10_within : Cond.static yX10_within ∈ wsX6_readNumber := by decide +kernel
theorem kX6_readNumber_19 : Cond.fieldLink RX6 19 "SnowCourse$Script" (TX6 3).2.1 (TX6 3).2.2.1 ∈ wsX6_readNumber := by decide +kernel
theorem iX6_readNumber_X6 : ∀ w ∈ u_ws RX6 TX6 10, w ∈ wsX6_readNumber := by decide +kernel
theorem kX6_readNumber_40 : Cond.fieldLink RX6 40 "SnowCourse$Script" (TX6 4).2.1 (TX6 4).2.2.1 ∈ wsX6_readNumber := by decide +kernel
theorem kX6_readNumber_43 : Cond.fieldLink RX6 43 "SnowCourse$Script" (TX6 6).2.1 (TX6 6).2.2.1 ∈ wsX6_readNumber := by decide +kernel
theorem kX6_readNumber_53 : Cond.fieldLink RX6 53 "SnowCourse$Script" (TX6 5).2.1 (TX6 5).2.2.1 ∈ wsX6_readNumber := by decide +kernel
theorem kX6_readNumber_11 : Cond.fieldLink RX6 11 "SnowCourse$Script" (TX6 0).2.1 (TX6 0).2.2.1 ∈ wsX6_readNumber := by decide +kernel
def vc_X6_readNumber_B82  (Q : Int32 → MI → MJ → Prop)  (v1 : Int32) (v2 : Int32) (v3 : Int32) (v4 : Int32) (v6 : Int32) (I : MI) (J : MJ) : Prop := vc_X10_within v6 v2 v3 I J (fun (r3 : Int32) (I1 : MI) (J2 : MJ) => ((r3 = 0 → Q 0 I1 J2) ∧ (¬ r3 = 0 → ((¬ v6 = v4 → vp_in (((I1 1 4) * 3) + v1) 42 ∧ ∀ I7 : MI, I7 = wI I1 4 (Int32.toNatClampNeg (((I1 1 4) * 3) + v1)) v6 → vc_X6_nextToken  I7 J2 (fun (I8 : MI) (J9 : MJ) => Q 1 I8 J9)) ∧ (v6 = v4 → Q 0 I1 J2)))))
set_option maxRecDepth 100000 in
set_option maxHeartbeats 4000000 in
theorem w_X6_readNumber_B82 {Z : RT}  (X : Cx Z cX6_readNumber 7 RX6 wsX6_readNumber rmX6_readNumber (some .boolean)) {Q : Int32 → MI → MJ → Prop} (R : RI Z Q)    (v1 : Int32) (v2 : Int32) (v3 : Int32) (v4 : Int32) (v6 : Int32) (I : MI) (J : MJ) (h : vc_X6_readNumber_B82  Q  v1 v2 v3 v4 v6 I J) : GW Z 7 I J 82 [(0, .ref (ea (zE Z) 1)), (1, .int v1), (2, .int v2), (3, .int v3), (4, .int v4), (6, .int v6)] [] := by
  refine g_iload X dX6_readNumber_82 5 rfl ?_
  refine g_iload_n X dX6_readNumber_84 rfl 2 rfl ?_
  refine g_iload_n X dX6_readNumber_85 rfl 3 rfl ?_
  refine g_callNI X (As := [.int v6, .int v2, .int v3]) (rest := []) (c_X10_within (zl Z) (zE Z) v6 v2 v3) ggX6_readNumber_X10_within (cx_Sx X).2.2.2.1 kX6_readNumber_iniX10_within kX6_readNumber_staX10_within yo_X10_within.2 rfl ⟨Nat.le_of_ble_eq_true rfl, Nat.le_of_ble_eq_true rfl⟩ rfl dX6_readNumber_86 h (fun r3 I1 J2 h => ?_)
  refine g_if_eq X (tgt := 99) dX6_readNumber_89 (by decide) (fun c4 => ?_) (fun c4 => ?_)
  · have h := h.1 c4
    refine g_iconst X (v := 0) dX6_readNumber_99 (by decide) ?_
    exact g_zret X R (by decide) dX6_readNumber_100 h
  · have h := h.2 c4
    refine g_iload X dX6_readNumber_92 5 rfl ?_
    refine g_iload X dX6_readNumber_94 4 rfl ?_
    refine g_icmp_ne X (tgt := 101) dX6_readNumber_96 (by decide) (fun c5 => ?_) (fun c5 => ?_)
    · have h := h.1 c5
      refine g_aload_n X dX6_readNumber_101 rfl 0 rfl ?_
      refine g_getr X (C := RX6) (T := TX6) (N := 10) (ci := 4) (k := 3) iX6_readNumber_X6 rfl kX6_readNumber_19 (Nat.le_of_ble_eq_true rfl) rfl (by decide) rfl rfl dX6_readNumber_102 ?_
      refine g_aload_n X dX6_readNumber_105 rfl 0 rfl ?_
      refine g_geti X (C := RX6) (T := TX6) (N := 10) (ci := 4) (k := 4) iX6_readNumber_X6 rfl kX6_readNumber_40 (Nat.le_of_ble_eq_true rfl) rfl (by decide) rfl rfl dX6_readNumber_106 ?_
      refine g_iconst X (v := 3) dX6_readNumber_109 (by decide) ?_
      refine g_imul X dX6_readNumber_110 ?_
      refine g_iload_n X dX6_readNumber_111 rfl 1 rfl ?_
      refine g_iadd X dX6_readNumber_112 ?_
      refine g_iload X dX6_readNumber_113 5 rfl ?_
      obtain ⟨b6, h⟩ := h
      refine g_iast X (Nat.le_of_ble_eq_true rfl) rfl b6 dX6_readNumber_115 ?_
      refine g_nmI (fun I7 eI7 => ?_)
      have h := h I7 eI7
      refine g_aload_n X dX6_readNumber_116 rfl 0 rfl ?_
      refine g_callVV X (As := []) (rest := []) (T := TX6) (N := 10) (c_X6_nextToken (zl Z) (zE Z) ) gX6_readNumber_X6_nextToken yo_X6_nextToken rfl ⟨Nat.le_of_ble_eq_true rfl, Nat.le_of_ble_eq_true rfl⟩ (Nat.le_of_ble_eq_true rfl) rfl rfl rfl dX6_readNumber_117 h (fun  I8 J9 h => ?_)
      refine g_iconst X (v := 1) dX6_readNumber_120 (by decide) ?_
      exact g_zret X R (by decide) dX6_readNumber_121 h
    · have h := h.2 c5
      refine g_iconst X (v := 0) dX6_readNumber_99 (by decide) ?_
      exact g_zret X R (by decide) dX6_readNumber_100 h
def vc_X6_readNumber (p1 : Int32) (p2 : Int32) (p3 : Int32) (p4 : Int32) (I : MI) (J : MJ) (Q : Int32 → MI → MJ → Prop) : Prop := ∀ x10 : Int32, x10 = (I 1 6) - (I 1 5) → ((x10 < 1 → Q 0 I J) ∧ (¬ x10 < 1 → ((2 < x10 → Q 0 I J) ∧ (¬ 2 < x10 → vp_in (I 1 5) 160 ∧ vc_X6_isDigit (I 2 (Int32.toNatClampNeg (I 1 5))) I J (fun (r16 : Int32) (I14 : MI) (J15 : MJ) => ((¬ r16 = 0 → vp_in (I14 1 5) 160 ∧ ∀ x19 : Int32, x19 = (I14 2 (Int32.toNatClampNeg (I14 1 5))) - 48 → ((¬ x10 = 2 → vc_X6_readNumber_B82  Q  p1 p2 p3 p4 x19 I14 J15) ∧ (x10 = 2 → vp_in ((I14 1 5) + 1) 160 ∧ ∀ x22 : Int32, x22 = ((10 * x19) + (I14 2 (Int32.toNatClampNeg ((I14 1 5) + 1)))) - 48 → vc_X6_readNumber_B82  Q  p1 p2 p3 p4 x22 I14 J15))) ∧ (r16 = 0 → Q 0 I14 J15)))))))
set_option maxRecDepth 100000 in
set_option maxHeartbeats 4000000 in
theorem c_X6_readNumber (l : Launch) (E : ET)  (p1 : Int32) (p2 : Int32) (p3 : Int32) (p4 : Int32) : CI l yX6_readNumber wsX6_readNumber rmX6_readNumber E [.ref (ea E 1), .int p1, .int p2, .int p3, .int p4] (vc_X6_readNumber p1 p2 p3 p4) := by
  refine CI.of (cc := cX6_readNumber) (maxL := 7) (own := RX6) (by decide) rfl rfl (Nat.le_of_ble_eq_true rfl) ?_
  intro Z I J Q hE hl X R h
  subst hE
  subst hl
  show GW Z 7 I J 0 [(0, .ref (ea (zE Z) 1)), (1, .int p1), (2, .int p2), (3, .int p3), (4, .int p4)] []
  refine g_aload_n X dX6_readNumber_0 rfl 0 rfl ?_
  refine g_geti X (C := RX6) (T := TX6) (N := 10) (ci := 4) (k := 6) iX6_readNumber_X6 rfl kX6_readNumber_43 (Nat.le_of_ble_eq_true rfl) rfl (by decide) rfl rfl dX6_readNumber_1 ?_
  refine g_aload_n X dX6_readNumber_4 rfl 0 rfl ?_
  refine g_geti X (C := RX6) (T := TX6) (N := 10) (ci := 4) (k := 5) iX6_readNumber_X6 rfl kX6_readNumber_53 (Nat.le_of_ble_eq_true rfl) rfl (by decide) rfl rfl dX6_readNumber_5 ?_
  refine g_isub X dX6_readNumber_8 ?_
  refine g_topi (fun x10 ex10 => ?_)
  have h := h x10 ex10
  refine g_istore X (lv' := [(5, .int x10), (0, .ref (ea (zE Z) 1)), (1, .int p1), (2, .int p2), (3, .int p3), (4, .int p4)]) dX6_readNumber_9 (by decide) rfl ?_
  refine g_iload X dX6_readNumber_11 0 rfl ?_
  refine g_iconst X (v := 1) dX6_readNumber_13 (by decide) ?_
  refine g_icmp_lt X (tgt := 38) dX6_readNumber_14 (by decide) (fun c11 => ?_) (fun c11 => ?_)
  · have h := h.1 c11
    refine g_iconst X (v := 0) dX6_readNumber_38 (by decide) ?_
    exact g_zret X R (by decide) dX6_readNumber_39 h
  · have h := h.2 c11
    refine g_iload X dX6_readNumber_17 0 rfl ?_
    refine g_iconst X (v := 2) dX6_readNumber_19 (by decide) ?_
    refine g_icmp_gt X (tgt := 38) dX6_readNumber_20 (by decide) (fun c12 => ?_) (fun c12 => ?_)
    · have h := h.1 c12
      refine g_iconst X (v := 0) dX6_readNumber_38 (by decide) ?_
      exact g_zret X R (by decide) dX6_readNumber_39 h
    · have h := h.2 c12
      refine g_aload_n X dX6_readNumber_23 rfl 1 rfl ?_
      refine g_getr X (C := RX6) (T := TX6) (N := 10) (ci := 4) (k := 0) iX6_readNumber_X6 rfl kX6_readNumber_11 (Nat.le_of_ble_eq_true rfl) rfl (by decide) rfl rfl dX6_readNumber_24 ?_
      refine g_aload_n X dX6_readNumber_27 rfl 1 rfl ?_
      refine g_geti X (C := RX6) (T := TX6) (N := 10) (ci := 4) (k := 5) iX6_readNumber_X6 rfl kX6_readNumber_53 (Nat.le_of_ble_eq_true rfl) rfl (by decide) rfl rfl dX6_readNumber_28 ?_
      obtain ⟨b13, h⟩ := h
      refine g_cald X (Nat.le_of_ble_eq_true rfl) rfl b13 dX6_readNumber_31 ?_
      refine g_callSI X (As := [.int (I 2 (Int32.toNatClampNeg (I 1 5)))]) (rest := []) (c_X6_isDigit (zl Z) (zE Z) (I 2 (Int32.toNatClampNeg (I 1 5)))) gX6_readNumber_X6_isDigit yo_X6_isDigit.2 rfl ⟨Nat.le_of_ble_eq_true rfl, Nat.le_of_ble_eq_true rfl⟩ rfl dX6_readNumber_32 h (fun r16 I14 J15 h => ?_)
      refine g_if_ne X (tgt := 40) dX6_readNumber_35 (by decide) (fun c17 => ?_) (fun c17 => ?_)
      · have h := h.1 c17
        refine g_aload_n X dX6_readNumber_40 rfl 1 rfl ?_
        refine g_getr X (C := RX6) (T := TX6) (N := 10) (ci := 4) (k := 0) iX6_readNumber_X6 rfl kX6_readNumber_11 (Nat.le_of_ble_eq_true rfl) rfl (by decide) rfl rfl dX6_readNumber_41 ?_
        refine g_aload_n X dX6_readNumber_44 rfl 1 rfl ?_
        refine g_geti X (C := RX6) (T := TX6) (N := 10) (ci := 4) (k := 5) iX6_readNumber_X6 rfl kX6_readNumber_53 (Nat.le_of_ble_eq_true rfl) rfl (by decide) rfl rfl dX6_readNumber_45 ?_
        obtain ⟨b18, h⟩ := h
        refine g_cald X (Nat.le_of_ble_eq_true rfl) rfl b18 dX6_readNumber_48 ?_
        refine g_bipush X (v := 48) dX6_readNumber_49 (by decide) ?_
        refine g_isub X dX6_readNumber_51 ?_
        refine g_topi (fun x19 ex19 => ?_)
        have h := h x19 ex19
        refine g_istore X (lv' := [(6, .int x19), (5, .int x10), (0, .ref (ea (zE Z) 1)), (1, .int p1), (2, .int p2), (3, .int p3), (4, .int p4)]) dX6_readNumber_52 (by decide) rfl ?_
        refine g_iload X dX6_readNumber_54 1 rfl ?_
        refine g_iconst X (v := 2) dX6_readNumber_56 (by decide) ?_
        refine g_icmp_ne X (tgt := 82) dX6_readNumber_57 (by decide) (fun c20 => ?_) (fun c20 => ?_)
        · have h := h.1 c20
          refine GW.sub (lv' := [(0, .ref (ea (zE Z) 1)), (1, .int p1), (2, .int p2), (3, .int p3), (4, .int p4), (6, .int x19)]) [2, 3, 4, 5, 6, 0] rfl ?_
          exact w_X6_readNumber_B82 X R   p1 p2 p3 p4 x19 I14 J15 h
        · have h := h.2 c20
          refine g_bipush X (v := 10) dX6_readNumber_60 (by decide) ?_
          refine g_iload X dX6_readNumber_62 0 rfl ?_
          refine g_imul X dX6_readNumber_64 ?_
          refine g_aload_n X dX6_readNumber_65 rfl 2 rfl ?_
          refine g_getr X (C := RX6) (T := TX6) (N := 10) (ci := 4) (k := 0) iX6_readNumber_X6 rfl kX6_readNumber_11 (Nat.le_of_ble_eq_true rfl) rfl (by decide) rfl rfl dX6_readNumber_66 ?_
          refine g_aload_n X dX6_readNumber_69 rfl 2 rfl ?_
          refine g_geti X (C := RX6) (T := TX6) (N := 10) (ci := 4) (k := 5) iX6_readNumber_X6 rfl kX6_readNumber_53 (Nat.le_of_ble_eq_true rfl) rfl (by decide) rfl rfl dX6_readNumber_70 ?_
          refine g_iconst X (v := 1) dX6_readNumber_73 (by decide) ?_
          refine g_iadd X dX6_readNumber_74 ?_
          obtain ⟨b21, h⟩ := h
          refine g_cald X (Nat.le_of_ble_eq_true rfl) rfl b21 dX6_readNumber_75 ?_
          refine g_iadd X dX6_readNumber_76 ?_
          refine g_bipush X (v := 48) dX6_readNumber_77 (by decide) ?_
          refine g_isub X dX6_readNumber_79 ?_
          refine g_topi (fun x22 ex22 => ?_)
          have h := h x22 ex22
          refine g_istore X (lv' := [(6, .int x22), (5, .int x10), (0, .ref (ea (zE Z) 1)), (1, .int p1), (2, .int p2), (3, .int p3), (4, .int p4)]) dX6_readNumber_80 (by decide) rfl ?_
          refine GW.sub (lv' := [(0, .ref (ea (zE Z) 1)), (1, .int p1), (2, .int p2), (3, .int p3), (4, .int p4), (6, .int x22)]) [2, 3, 4, 5, 6, 0] rfl ?_
          exact w_X6_readNumber_B82 X R   p1 p2 p3 p4 x22 I14 J15 h
      · have h := h.2 c17
        refine g_iconst X (v := 0) dX6_readNumber_38 (by decide) ?_
        exact g_zret X R (by decide) dX6_readNumber_39 h

/-! X6_readPlace.readPlace()Z -/
def rmX6_readPlace : Room := { frames := 2, cells := 0, slots := 0, locals := 42 }
theorem yo_X6_readPlace : yX6_readPlace.cls = RX6 ∧ yX6_readPlace.cls ≠ "java/lang/invoke/MethodHandle" ∧ yX6_readPlace.cls ≠ "java/lang/invoke/VarHandle" ∧ (parseMethodDescriptor yX6_readPlace.desc).map (fun d => d.parameters.length) = some 0 := by decide +kernel
theorem kX6_readPlace_31 : Cond.fieldLink RX6 31 "SnowCourse$Script" (TX6 7).2.1 (TX6 7).2.2.1 ∈ wsX6_readPlace := by decide +kernel
theorem iX6_readPlace_X6 : ∀ w ∈ u_ws RX6 TX6 10, w ∈ wsX6_readPlace := by decide +kernel
def vc_X6_readPlace  (I : MI) (J : MJ) (Q : Int32 → MI → MJ → Prop) : Prop := (((I 1 7) < 7 → ∀ I2 : MI, I2 = wI I 1 7 ((I 1 7) + 1) → vc_X6_nextToken  I2 J (fun (I3 : MI) (J4 : MJ) => Q 1 I3 J4)) ∧ (¬ (I 1 7) < 7 → Q 0 I J))
set_option maxRecDepth 100000 in
set_option maxHeartbeats 4000000 in
theorem c_X6_readPlace (l : Launch) (E : ET)   : CI l yX6_readPlace wsX6_readPlace rmX6_readPlace E [.ref (ea E 1)] (vc_X6_readPlace ) := by
  refine CI.of (cc := cX6_readPlace) (maxL := 1) (own := RX6) (by decide) rfl rfl (Nat.le_of_ble_eq_true rfl) ?_
  intro Z I J Q hE hl X R h
  subst hE
  subst hl
  show GW Z 1 I J 0 [(0, .ref (ea (zE Z) 1))] []
  refine g_aload_n X dX6_readPlace_0 rfl 0 rfl ?_
  refine g_geti X (C := RX6) (T := TX6) (N := 10) (ci := 4) (k := 7) iX6_readPlace_X6 rfl kX6_readPlace_31 (Nat.le_of_ble_eq_true rfl) rfl (by decide) rfl rfl dX6_readPlace_1 ?_
  refine g_bipush X (v := 7) dX6_readPlace_4 (by decide) ?_
  refine g_icmp_lt X (tgt := 11) dX6_readPlace_6 (by decide) (fun c1 => ?_) (fun c1 => ?_)
  · have h := h.1 c1
    refine g_aload_n X dX6_readPlace_11 rfl 0 rfl ?_
    refine g_dup X dX6_readPlace_12 rfl ?_
    refine g_geti X (C := RX6) (T := TX6) (N := 10) (ci := 4) (k := 7) iX6_readPlace_X6 rfl kX6_readPlace_31 (Nat.le_of_ble_eq_true rfl) rfl (by decide) rfl rfl dX6_readPlace_13 ?_
    refine g_iconst X (v := 1) dX6_readPlace_16 (by decide) ?_
    refine g_iadd X dX6_readPlace_17 ?_
    refine g_puti X (C := RX6) (T := TX6) (N := 10) (ci := 4) (k := 7) (ty0 := tyX6) iX6_readPlace_X6 tyX6_ok nmX6 rfl kX6_readPlace_31 (Nat.le_of_ble_eq_true rfl) rfl (by decide) rfl rfl (by decide +kernel) rfl dX6_readPlace_18 ?_
    refine g_nmI (fun I2 eI2 => ?_)
    have h := h I2 eI2
    refine g_aload_n X dX6_readPlace_21 rfl 0 rfl ?_
    refine g_callVV X (As := []) (rest := []) (T := TX6) (N := 10) (c_X6_nextToken (zl Z) (zE Z) ) gX6_readPlace_X6_nextToken yo_X6_nextToken rfl ⟨Nat.le_of_ble_eq_true rfl, Nat.le_of_ble_eq_true rfl⟩ (Nat.le_of_ble_eq_true rfl) rfl rfl rfl dX6_readPlace_22 h (fun  I3 J4 h => ?_)
    refine g_iconst X (v := 1) dX6_readPlace_25 (by decide) ?_
    exact g_zret X R (by decide) dX6_readPlace_26 h
  · have h := h.2 c1
    refine g_iconst X (v := 0) dX6_readPlace_9 (by decide) ?_
    exact g_zret X R (by decide) dX6_readPlace_10 h

/-! X6_readRoad.readRoad()Z -/
def rmX6_readRoad : Room := { frames := 3, cells := 0, slots := 0, locals := 68 }
theorem yo_X6_readRoad : yX6_readRoad.cls = RX6 ∧ yX6_readRoad.cls ≠ "java/lang/invoke/MethodHandle" ∧ yX6_readRoad.cls ≠ "java/lang/invoke/VarHandle" ∧ (parseMethodDescriptor yX6_readRoad.desc).map (fun d => d.parameters.length) = some 0 := by decide +kernel
theorem kX6_readRoad_35 : Cond.fieldLink RX6 35 "SnowCourse$Script" (TX6 8).2.1 (TX6 8).2.2.1 ∈ wsX6_readRoad := by decide +kernel
theorem iX6_readRoad_X6 : ∀ w ∈ u_ws RX6 TX6 10, w ∈ wsX6_readRoad := by decide +kernel
theorem kX6_readRoad_31 : Cond.fieldLink RX6 31 "SnowCourse$Script" (TX6 7).2.1 (TX6 7).2.2.1 ∈ wsX6_readRoad := by decide +kernel
theorem kX6_readRoad_19 : Cond.fieldLink RX6 19 "SnowCourse$Script" (TX6 3).2.1 (TX6 3).2.2.1 ∈ wsX6_readRoad := by decide +kernel
theorem kX6_readRoad_40 : Cond.fieldLink RX6 40 "SnowCourse$Script" (TX6 4).2.1 (TX6 4).2.2.1 ∈ wsX6_readRoad := by decide +kernel
def vc_X6_readRoad  (I : MI) (J : MJ) (Q : Int32 → MI → MJ → Prop) : Prop := (((I 1 8) < 9 → ∀ I2 : MI, I2 = wI I 1 8 ((I 1 8) + 1) → vc_X6_nextToken  I2 J (fun (I3 : MI) (J4 : MJ) => vc_X6_readNumber 0 0 ((I3 1 7) - 1) (-1) I3 J4 (fun (r7 : Int32) (I5 : MI) (J6 : MJ) => ((r7 = 0 → Q 0 I5 J6) ∧ (¬ r7 = 0 → vp_in ((I5 1 4) * 3) 42 ∧ vc_X6_readNumber 1 0 ((I5 1 7) - 1) (I5 4 (Int32.toNatClampNeg ((I5 1 4) * 3))) I5 J6 (fun (r12 : Int32) (I10 : MI) (J11 : MJ) => ((r12 = 0 → Q 0 I10 J11) ∧ (¬ r12 = 0 → vc_X6_readNumber 2 1 6 (-1) I10 J11 (fun (r16 : Int32) (I14 : MI) (J15 : MJ) => ((r16 = 0 → Q 0 I14 J15) ∧ (¬ r16 = 0 → Q 1 I14 J15))))))))))) ∧ (¬ (I 1 8) < 9 → Q 0 I J))
set_option maxRecDepth 100000 in
set_option maxHeartbeats 4000000 in
theorem c_X6_readRoad (l : Launch) (E : ET)   : CI l yX6_readRoad wsX6_readRoad rmX6_readRoad E [.ref (ea E 1)] (vc_X6_readRoad ) := by
  refine CI.of (cc := cX6_readRoad) (maxL := 1) (own := RX6) (by decide) rfl rfl (Nat.le_of_ble_eq_true rfl) ?_
  intro Z I J Q hE hl X R h
  subst hE
  subst hl
  show GW Z 1 I J 0 [(0, .ref (ea (zE Z) 1))] []
  refine g_aload_n X dX6_readRoad_0 rfl 0 rfl ?_
  refine g_geti X (C := RX6) (T := TX6) (N := 10) (ci := 4) (k := 8) iX6_readRoad_X6 rfl kX6_readRoad_35 (Nat.le_of_ble_eq_true rfl) rfl (by decide) rfl rfl dX6_readRoad_1 ?_
  refine g_bipush X (v := 9) dX6_readRoad_4 (by decide) ?_
  refine g_icmp_lt X (tgt := 11) dX6_readRoad_6 (by decide) (fun c1 => ?_) (fun c1 => ?_)
  · have h := h.1 c1
    refine g_aload_n X dX6_readRoad_11 rfl 0 rfl ?_
    refine g_dup X dX6_readRoad_12 rfl ?_
    refine g_geti X (C := RX6) (T := TX6) (N := 10) (ci := 4) (k := 8) iX6_readRoad_X6 rfl kX6_readRoad_35 (Nat.le_of_ble_eq_true rfl) rfl (by decide) rfl rfl dX6_readRoad_13 ?_
    refine g_iconst X (v := 1) dX6_readRoad_16 (by decide) ?_
    refine g_iadd X dX6_readRoad_17 ?_
    refine g_puti X (C := RX6) (T := TX6) (N := 10) (ci := 4) (k := 8) (ty0 := tyX6) iX6_readRoad_X6 tyX6_ok nmX6 rfl kX6_readRoad_35 (Nat.le_of_ble_eq_true rfl) rfl (by decide) rfl rfl (by decide +kernel) rfl dX6_readRoad_18 ?_
    refine g_nmI (fun I2 eI2 => ?_)
    have h := h I2 eI2
    refine g_aload_n X dX6_readRoad_21 rfl 0 rfl ?_
    refine g_callVV X (As := []) (rest := []) (T := TX6) (N := 10) (c_X6_nextToken (zl Z) (zE Z) ) gX6_readRoad_X6_nextToken yo_X6_nextToken rfl ⟨Nat.le_of_ble_eq_true rfl, Nat.le_of_ble_eq_true rfl⟩ (Nat.le_of_ble_eq_true rfl) rfl rfl rfl dX6_readRoad_22 h (fun  I3 J4 h => ?_)
    refine g_aload_n X dX6_readRoad_25 rfl 0 rfl ?_
    refine g_iconst X (v := 0) dX6_readRoad_26 (by decide) ?_
    refine g_iconst X (v := 0) dX6_readRoad_27 (by decide) ?_
    refine g_aload_n X dX6_readRoad_28 rfl 0 rfl ?_
    refine g_geti X (C := RX6) (T := TX6) (N := 10) (ci := 4) (k := 7) iX6_readRoad_X6 rfl kX6_readRoad_31 (Nat.le_of_ble_eq_true rfl) rfl (by decide) rfl rfl dX6_readRoad_29 ?_
    refine g_iconst X (v := 1) dX6_readRoad_32 (by decide) ?_
    refine g_isub X dX6_readRoad_33 ?_
    refine g_iconst X (v := (-1)) dX6_readRoad_34 (by decide) ?_
    refine g_callVI X (As := [.int 0, .int 0, .int ((I3 1 7) - 1), .int (-1)]) (rest := []) (T := TX6) (N := 10) (c_X6_readNumber (zl Z) (zE Z) 0 0 ((I3 1 7) - 1) (-1)) gX6_readRoad_X6_readNumber yo_X6_readNumber rfl ⟨Nat.le_of_ble_eq_true rfl, Nat.le_of_ble_eq_true rfl⟩ (Nat.le_of_ble_eq_true rfl) rfl rfl rfl dX6_readRoad_35 h (fun r7 I5 J6 h => ?_)
    refine g_if_eq X (tgt := 83) dX6_readRoad_38 (by decide) (fun c8 => ?_) (fun c8 => ?_)
    · have h := h.1 c8
      refine g_iconst X (v := 0) dX6_readRoad_83 (by decide) ?_
      exact g_zret X R (by decide) dX6_readRoad_84 h
    · have h := h.2 c8
      refine g_aload_n X dX6_readRoad_41 rfl 0 rfl ?_
      refine g_iconst X (v := 1) dX6_readRoad_42 (by decide) ?_
      refine g_iconst X (v := 0) dX6_readRoad_43 (by decide) ?_
      refine g_aload_n X dX6_readRoad_44 rfl 0 rfl ?_
      refine g_geti X (C := RX6) (T := TX6) (N := 10) (ci := 4) (k := 7) iX6_readRoad_X6 rfl kX6_readRoad_31 (Nat.le_of_ble_eq_true rfl) rfl (by decide) rfl rfl dX6_readRoad_45 ?_
      refine g_iconst X (v := 1) dX6_readRoad_48 (by decide) ?_
      refine g_isub X dX6_readRoad_49 ?_
      refine g_aload_n X dX6_readRoad_50 rfl 0 rfl ?_
      refine g_getr X (C := RX6) (T := TX6) (N := 10) (ci := 4) (k := 3) iX6_readRoad_X6 rfl kX6_readRoad_19 (Nat.le_of_ble_eq_true rfl) rfl (by decide) rfl rfl dX6_readRoad_51 ?_
      refine g_aload_n X dX6_readRoad_54 rfl 0 rfl ?_
      refine g_geti X (C := RX6) (T := TX6) (N := 10) (ci := 4) (k := 4) iX6_readRoad_X6 rfl kX6_readRoad_40 (Nat.le_of_ble_eq_true rfl) rfl (by decide) rfl rfl dX6_readRoad_55 ?_
      refine g_iconst X (v := 3) dX6_readRoad_58 (by decide) ?_
      refine g_imul X dX6_readRoad_59 ?_
      obtain ⟨b9, h⟩ := h
      refine g_iald X (Nat.le_of_ble_eq_true rfl) rfl b9 dX6_readRoad_60 ?_
      refine g_callVI X (As := [.int 1, .int 0, .int ((I5 1 7) - 1), .int (I5 4 (Int32.toNatClampNeg ((I5 1 4) * 3)))]) (rest := []) (T := TX6) (N := 10) (c_X6_readNumber (zl Z) (zE Z) 1 0 ((I5 1 7) - 1) (I5 4 (Int32.toNatClampNeg ((I5 1 4) * 3)))) gX6_readRoad_X6_readNumber yo_X6_readNumber rfl ⟨Nat.le_of_ble_eq_true rfl, Nat.le_of_ble_eq_true rfl⟩ (Nat.le_of_ble_eq_true rfl) rfl rfl rfl dX6_readRoad_61 h (fun r12 I10 J11 h => ?_)
      refine g_if_eq X (tgt := 83) dX6_readRoad_64 (by decide) (fun c13 => ?_) (fun c13 => ?_)
      · have h := h.1 c13
        refine g_iconst X (v := 0) dX6_readRoad_83 (by decide) ?_
        exact g_zret X R (by decide) dX6_readRoad_84 h
      · have h := h.2 c13
        refine g_aload_n X dX6_readRoad_67 rfl 0 rfl ?_
        refine g_iconst X (v := 2) dX6_readRoad_68 (by decide) ?_
        refine g_iconst X (v := 1) dX6_readRoad_69 (by decide) ?_
        refine g_bipush X (v := 6) dX6_readRoad_70 (by decide) ?_
        refine g_iconst X (v := (-1)) dX6_readRoad_72 (by decide) ?_
        refine g_callVI X (As := [.int 2, .int 1, .int 6, .int (-1)]) (rest := []) (T := TX6) (N := 10) (c_X6_readNumber (zl Z) (zE Z) 2 1 6 (-1)) gX6_readRoad_X6_readNumber yo_X6_readNumber rfl ⟨Nat.le_of_ble_eq_true rfl, Nat.le_of_ble_eq_true rfl⟩ (Nat.le_of_ble_eq_true rfl) rfl rfl rfl dX6_readRoad_73 h (fun r16 I14 J15 h => ?_)
        refine g_if_eq X (tgt := 83) dX6_readRoad_76 (by decide) (fun c17 => ?_) (fun c17 => ?_)
        · have h := h.1 c17
          refine g_iconst X (v := 0) dX6_readRoad_83 (by decide) ?_
          exact g_zret X R (by decide) dX6_readRoad_84 h
        · have h := h.2 c17
          refine g_iconst X (v := 1) dX6_readRoad_79 (by decide) ?_
          refine g_goto X (tgt := 84) dX6_readRoad_80 (by decide) ?_
          exact g_zret X R (by decide) dX6_readRoad_84 h
  · have h := h.2 c1
    refine g_iconst X (v := 0) dX6_readRoad_9 (by decide) ?_
    exact g_zret X R (by decide) dX6_readRoad_10 h

/-! X6_readCart.readCart()Z -/
def rmX6_readCart : Room := { frames := 3, cells := 0, slots := 0, locals := 68 }
theorem yo_X6_readCart : yX6_readCart.cls = RX6 ∧ yX6_readCart.cls ≠ "java/lang/invoke/MethodHandle" ∧ yX6_readCart.cls ≠ "java/lang/invoke/VarHandle" ∧ (parseMethodDescriptor yX6_readCart.desc).map (fun d => d.parameters.length) = some 0 := by decide +kernel
theorem kX6_readCart_39 : Cond.fieldLink RX6 39 "SnowCourse$Script" (TX6 9).2.1 (TX6 9).2.2.1 ∈ wsX6_readCart := by decide +kernel
theorem iX6_readCart_X6 : ∀ w ∈ u_ws RX6 TX6 10, w ∈ wsX6_readCart := by decide +kernel
theorem kX6_readCart_31 : Cond.fieldLink RX6 31 "SnowCourse$Script" (TX6 7).2.1 (TX6 7).2.2.1 ∈ wsX6_readCart := by decide +kernel
def vc_X6_readCart  (I : MI) (J : MJ) (Q : Int32 → MI → MJ → Prop) : Prop := (((I 1 9) < 4 → ∀ I2 : MI, I2 = wI I 1 9 ((I 1 9) + 1) → vc_X6_nextToken  I2 J (fun (I3 : MI) (J4 : MJ) => vc_X6_readNumber 0 0 ((I3 1 7) - 1) (-1) I3 J4 (fun (r7 : Int32) (I5 : MI) (J6 : MJ) => ((r7 = 0 → Q 0 I5 J6) ∧ (¬ r7 = 0 → vc_X6_readNumber 1 0 3 (-1) I5 J6 (fun (r11 : Int32) (I9 : MI) (J10 : MJ) => ((r11 = 0 → Q 0 I9 J10) ∧ (¬ r11 = 0 → Q 1 I9 J10)))))))) ∧ (¬ (I 1 9) < 4 → Q 0 I J))
set_option maxRecDepth 100000 in
set_option maxHeartbeats 4000000 in
theorem c_X6_readCart (l : Launch) (E : ET)   : CI l yX6_readCart wsX6_readCart rmX6_readCart E [.ref (ea E 1)] (vc_X6_readCart ) := by
  refine CI.of (cc := cX6_readCart) (maxL := 1) (own := RX6) (by decide) rfl rfl (Nat.le_of_ble_eq_true rfl) ?_
  intro Z I J Q hE hl X R h
  subst hE
  subst hl
  show GW Z 1 I J 0 [(0, .ref (ea (zE Z) 1))] []
  refine g_aload_n X dX6_readCart_0 rfl 0 rfl ?_
  refine g_geti X (C := RX6) (T := TX6) (N := 10) (ci := 4) (k := 9) iX6_readCart_X6 rfl kX6_readCart_39 (Nat.le_of_ble_eq_true rfl) rfl (by decide) rfl rfl dX6_readCart_1 ?_
  refine g_iconst X (v := 4) dX6_readCart_4 (by decide) ?_
  refine g_icmp_lt X (tgt := 10) dX6_readCart_5 (by decide) (fun c1 => ?_) (fun c1 => ?_)
  · have h := h.1 c1
    refine g_aload_n X dX6_readCart_10 rfl 0 rfl ?_
    refine g_dup X dX6_readCart_11 rfl ?_
    refine g_geti X (C := RX6) (T := TX6) (N := 10) (ci := 4) (k := 9) iX6_readCart_X6 rfl kX6_readCart_39 (Nat.le_of_ble_eq_true rfl) rfl (by decide) rfl rfl dX6_readCart_12 ?_
    refine g_iconst X (v := 1) dX6_readCart_15 (by decide) ?_
    refine g_iadd X dX6_readCart_16 ?_
    refine g_puti X (C := RX6) (T := TX6) (N := 10) (ci := 4) (k := 9) (ty0 := tyX6) iX6_readCart_X6 tyX6_ok nmX6 rfl kX6_readCart_39 (Nat.le_of_ble_eq_true rfl) rfl (by decide) rfl rfl (by decide +kernel) rfl dX6_readCart_17 ?_
    refine g_nmI (fun I2 eI2 => ?_)
    have h := h I2 eI2
    refine g_aload_n X dX6_readCart_20 rfl 0 rfl ?_
    refine g_callVV X (As := []) (rest := []) (T := TX6) (N := 10) (c_X6_nextToken (zl Z) (zE Z) ) gX6_readCart_X6_nextToken yo_X6_nextToken rfl ⟨Nat.le_of_ble_eq_true rfl, Nat.le_of_ble_eq_true rfl⟩ (Nat.le_of_ble_eq_true rfl) rfl rfl rfl dX6_readCart_21 h (fun  I3 J4 h => ?_)
    refine g_aload_n X dX6_readCart_24 rfl 0 rfl ?_
    refine g_iconst X (v := 0) dX6_readCart_25 (by decide) ?_
    refine g_iconst X (v := 0) dX6_readCart_26 (by decide) ?_
    refine g_aload_n X dX6_readCart_27 rfl 0 rfl ?_
    refine g_geti X (C := RX6) (T := TX6) (N := 10) (ci := 4) (k := 7) iX6_readCart_X6 rfl kX6_readCart_31 (Nat.le_of_ble_eq_true rfl) rfl (by decide) rfl rfl dX6_readCart_28 ?_
    refine g_iconst X (v := 1) dX6_readCart_31 (by decide) ?_
    refine g_isub X dX6_readCart_32 ?_
    refine g_iconst X (v := (-1)) dX6_readCart_33 (by decide) ?_
    refine g_callVI X (As := [.int 0, .int 0, .int ((I3 1 7) - 1), .int (-1)]) (rest := []) (T := TX6) (N := 10) (c_X6_readNumber (zl Z) (zE Z) 0 0 ((I3 1 7) - 1) (-1)) gX6_readCart_X6_readNumber yo_X6_readNumber rfl ⟨Nat.le_of_ble_eq_true rfl, Nat.le_of_ble_eq_true rfl⟩ (Nat.le_of_ble_eq_true rfl) rfl rfl rfl dX6_readCart_34 h (fun r7 I5 J6 h => ?_)
    refine g_if_eq X (tgt := 55) dX6_readCart_37 (by decide) (fun c8 => ?_) (fun c8 => ?_)
    · have h := h.1 c8
      refine g_iconst X (v := 0) dX6_readCart_55 (by decide) ?_
      exact g_zret X R (by decide) dX6_readCart_56 h
    · have h := h.2 c8
      refine g_aload_n X dX6_readCart_40 rfl 0 rfl ?_
      refine g_iconst X (v := 1) dX6_readCart_41 (by decide) ?_
      refine g_iconst X (v := 0) dX6_readCart_42 (by decide) ?_
      refine g_iconst X (v := 3) dX6_readCart_43 (by decide) ?_
      refine g_iconst X (v := (-1)) dX6_readCart_44 (by decide) ?_
      refine g_callVI X (As := [.int 1, .int 0, .int 3, .int (-1)]) (rest := []) (T := TX6) (N := 10) (c_X6_readNumber (zl Z) (zE Z) 1 0 3 (-1)) gX6_readCart_X6_readNumber yo_X6_readNumber rfl ⟨Nat.le_of_ble_eq_true rfl, Nat.le_of_ble_eq_true rfl⟩ (Nat.le_of_ble_eq_true rfl) rfl rfl rfl dX6_readCart_45 h (fun r11 I9 J10 h => ?_)
      refine g_if_eq X (tgt := 55) dX6_readCart_48 (by decide) (fun c12 => ?_) (fun c12 => ?_)
      · have h := h.1 c12
        refine g_iconst X (v := 0) dX6_readCart_55 (by decide) ?_
        exact g_zret X R (by decide) dX6_readCart_56 h
      · have h := h.2 c12
        refine g_iconst X (v := 1) dX6_readCart_51 (by decide) ?_
        refine g_goto X (tgt := 56) dX6_readCart_52 (by decide) ?_
        exact g_zret X R (by decide) dX6_readCart_56 h
  · have h := h.2 c1
    refine g_iconst X (v := 0) dX6_readCart_8 (by decide) ?_
    exact g_zret X R (by decide) dX6_readCart_9 h

/-! X6_readClause.readClause()Z -/
def rmX6_readClause : Room := { frames := 7, cells := 0, slots := 0, locals := 162 }
theorem yo_X6_readClause : yX6_readClause.cls = RX6 ∧ yX6_readClause.cls ≠ "java/lang/invoke/MethodHandle" ∧ yX6_readClause.cls ≠ "java/lang/invoke/VarHandle" ∧ (parseMethodDescriptor yX6_readClause.desc).map (fun d => d.parameters.length) = some 0 := by decide +kernel
theorem kX6_readClause_15 : Cond.fieldLink RX6 15 "SnowCourse$Script" (TX6 2).2.1 (TX6 2).2.2.1 ∈ wsX6_readClause := by decide +kernel
theorem iX6_readClause_X6 : ∀ w ∈ u_ws RX6 TX6 10, w ∈ wsX6_readClause := by decide +kernel
theorem kX6_readClause_40 : Cond.fieldLink RX6 40 "SnowCourse$Script" (TX6 4).2.1 (TX6 4).2.2.1 ∈ wsX6_readClause := by decide +kernel
theorem kX6_readClause_31 : Cond.fieldLink RX6 31 "SnowCourse$Script" (TX6 7).2.1 (TX6 7).2.2.1 ∈ wsX6_readClause := by decide +kernel
theorem kX6_readClause_35 : Cond.fieldLink RX6 35 "SnowCourse$Script" (TX6 8).2.1 (TX6 8).2.2.1 ∈ wsX6_readClause := by decide +kernel
theorem kX6_readClause_39 : Cond.fieldLink RX6 39 "SnowCourse$Script" (TX6 9).2.1 (TX6 9).2.2.1 ∈ wsX6_readClause := by decide +kernel
def vc_X6_readClause  (I : MI) (J : MJ) (Q : Int32 → MI → MJ → Prop) : Prop := vc_X6_wordInHand  I J (fun (r3 : Int32) (I1 : MI) (J2 : MJ) => ((¬ r3 = (-1) → vp_in (I1 1 4) 14 ∧ ∀ I6 : MI, I6 = wI I1 3 (Int32.toNatClampNeg (I1 1 4)) r3 → ((¬ r3 = 0 → ((5 ≤ r3 → ((8 ≤ r3 → ((11 ≤ r3 → vc_X6_nextToken  I6 J2 (fun (I11 : MI) (J12 : MJ) => ((r3 = 12 → Q 1 I11 J12) ∧ (¬ r3 = 12 → vc_X6_readNumber 0 0 47 (-1) I11 J12 (fun (r16 : Int32) (I14 : MI) (J15 : MJ) => ((r16 = 0 → Q 0 I14 J15) ∧ (¬ r16 = 0 → Q 1 I14 J15))))))) ∧ (¬ 11 ≤ r3 → vc_X6_readCart  I6 J2 (fun (r20 : Int32) (I18 : MI) (J19 : MJ) => ((r20 = 0 ∨ r20 = 1) ∧ Q r20 I18 J19))))) ∧ (¬ 8 ≤ r3 → vc_X6_readRoad  I6 J2 (fun (r23 : Int32) (I21 : MI) (J22 : MJ) => ((r23 = 0 ∨ r23 = 1) ∧ Q r23 I21 J22))))) ∧ (¬ 5 ≤ r3 → vc_X6_readPlace  I6 J2 (fun (r26 : Int32) (I24 : MI) (J25 : MJ) => ((r26 = 0 ∨ r26 = 1) ∧ Q r26 I24 J25))))) ∧ (r3 = 0 → ∀ I27 : MI, I27 = wI I6 1 7 0 → ∀ I28 : MI, I28 = wI I27 1 8 0 → ∀ I29 : MI, I29 = wI I28 1 9 0 → vc_X6_nextToken  I29 J2 (fun (I30 : MI) (J31 : MJ) => Q 1 I30 J31)))) ∧ (r3 = (-1) → Q 0 I1 J2)))
set_option maxRecDepth 100000 in
set_option maxHeartbeats 4000000 in
theorem c_X6_readClause (l : Launch) (E : ET)   : CI l yX6_readClause wsX6_readClause rmX6_readClause E [.ref (ea E 1)] (vc_X6_readClause ) := by
  refine CI.of (cc := cX6_readClause) (maxL := 2) (own := RX6) (by decide) rfl rfl (Nat.le_of_ble_eq_true rfl) ?_
  intro Z I J Q hE hl X R h
  subst hE
  subst hl
  show GW Z 2 I J 0 [(0, .ref (ea (zE Z) 1))] []
  refine g_aload_n X dX6_readClause_0 rfl 0 rfl ?_
  refine g_callVI X (As := []) (rest := []) (T := TX6) (N := 10) (c_X6_wordInHand (zl Z) (zE Z) ) gX6_readClause_X6_wordInHand yo_X6_wordInHand rfl ⟨Nat.le_of_ble_eq_true rfl, Nat.le_of_ble_eq_true rfl⟩ (Nat.le_of_ble_eq_true rfl) rfl rfl rfl dX6_readClause_1 h (fun r3 I1 J2 h => ?_)
  refine g_istore_n X (lv' := [(1, .int r3), (0, .ref (ea (zE Z) 1))]) dX6_readClause_4 rfl (by decide) rfl ?_
  refine g_iload_n X dX6_readClause_5 rfl 0 rfl ?_
  refine g_iconst X (v := (-1)) dX6_readClause_6 (by decide) ?_
  refine g_icmp_ne X (tgt := 12) dX6_readClause_7 (by decide) (fun c4 => ?_) (fun c4 => ?_)
  · have h := h.1 c4
    refine g_aload_n X dX6_readClause_12 rfl 1 rfl ?_
    refine g_getr X (C := RX6) (T := TX6) (N := 10) (ci := 4) (k := 2) iX6_readClause_X6 rfl kX6_readClause_15 (Nat.le_of_ble_eq_true rfl) rfl (by decide) rfl rfl dX6_readClause_13 ?_
    refine g_aload_n X dX6_readClause_16 rfl 1 rfl ?_
    refine g_geti X (C := RX6) (T := TX6) (N := 10) (ci := 4) (k := 4) iX6_readClause_X6 rfl kX6_readClause_40 (Nat.le_of_ble_eq_true rfl) rfl (by decide) rfl rfl dX6_readClause_17 ?_
    refine g_iload_n X dX6_readClause_20 rfl 0 rfl ?_
    obtain ⟨b5, h⟩ := h
    refine g_iast X (Nat.le_of_ble_eq_true rfl) rfl b5 dX6_readClause_21 ?_
    refine g_nmI (fun I6 eI6 => ?_)
    have h := h I6 eI6
    refine g_iload_n X dX6_readClause_22 rfl 0 rfl ?_
    refine g_if_ne X (tgt := 47) dX6_readClause_23 (by decide) (fun c7 => ?_) (fun c7 => ?_)
    · have h := h.1 c7
      refine g_iload_n X dX6_readClause_47 rfl 0 rfl ?_
      refine g_iconst X (v := 5) dX6_readClause_48 (by decide) ?_
      refine g_icmp_ge X (tgt := 57) dX6_readClause_49 (by decide) (fun c8 => ?_) (fun c8 => ?_)
      · have h := h.1 c8
        refine g_iload_n X dX6_readClause_57 rfl 0 rfl ?_
        refine g_bipush X (v := 8) dX6_readClause_58 (by decide) ?_
        refine g_icmp_ge X (tgt := 68) dX6_readClause_60 (by decide) (fun c9 => ?_) (fun c9 => ?_)
        · have h := h.1 c9
          refine g_iload_n X dX6_readClause_68 rfl 0 rfl ?_
          refine g_bipush X (v := 11) dX6_readClause_69 (by decide) ?_
          refine g_icmp_ge X (tgt := 79) dX6_readClause_71 (by decide) (fun c10 => ?_) (fun c10 => ?_)
          · have h := h.1 c10
            refine g_aload_n X dX6_readClause_79 rfl 1 rfl ?_
            refine g_callVV X (As := []) (rest := []) (T := TX6) (N := 10) (c_X6_nextToken (zl Z) (zE Z) ) gX6_readClause_X6_nextToken yo_X6_nextToken rfl ⟨Nat.le_of_ble_eq_true rfl, Nat.le_of_ble_eq_true rfl⟩ (Nat.le_of_ble_eq_true rfl) rfl rfl rfl dX6_readClause_80 h (fun  I11 J12 h => ?_)
            refine g_iload_n X dX6_readClause_83 rfl 0 rfl ?_
            refine g_bipush X (v := 12) dX6_readClause_84 (by decide) ?_
            refine g_icmp_eq X (tgt := 101) dX6_readClause_86 (by decide) (fun c13 => ?_) (fun c13 => ?_)
            · have h := h.1 c13
              refine g_iconst X (v := 1) dX6_readClause_101 (by decide) ?_
              refine g_goto X (tgt := 106) dX6_readClause_102 (by decide) ?_
              exact g_zret X R (by decide) dX6_readClause_106 h
            · have h := h.2 c13
              refine g_aload_n X dX6_readClause_89 rfl 1 rfl ?_
              refine g_iconst X (v := 0) dX6_readClause_90 (by decide) ?_
              refine g_iconst X (v := 0) dX6_readClause_91 (by decide) ?_
              refine g_bipush X (v := 47) dX6_readClause_92 (by decide) ?_
              refine g_iconst X (v := (-1)) dX6_readClause_94 (by decide) ?_
              refine g_callVI X (As := [.int 0, .int 0, .int 47, .int (-1)]) (rest := []) (T := TX6) (N := 10) (c_X6_readNumber (zl Z) (zE Z) 0 0 47 (-1)) gX6_readClause_X6_readNumber yo_X6_readNumber rfl ⟨Nat.le_of_ble_eq_true rfl, Nat.le_of_ble_eq_true rfl⟩ (Nat.le_of_ble_eq_true rfl) rfl rfl rfl dX6_readClause_95 h (fun r16 I14 J15 h => ?_)
              refine g_if_eq X (tgt := 105) dX6_readClause_98 (by decide) (fun c17 => ?_) (fun c17 => ?_)
              · have h := h.1 c17
                refine g_iconst X (v := 0) dX6_readClause_105 (by decide) ?_
                exact g_zret X R (by decide) dX6_readClause_106 h
              · have h := h.2 c17
                refine g_iconst X (v := 1) dX6_readClause_101 (by decide) ?_
                refine g_goto X (tgt := 106) dX6_readClause_102 (by decide) ?_
                exact g_zret X R (by decide) dX6_readClause_106 h
          · have h := h.2 c10
            refine g_aload_n X dX6_readClause_74 rfl 1 rfl ?_
            refine g_callVI X (As := []) (rest := []) (T := TX6) (N := 10) (c_X6_readCart (zl Z) (zE Z) ) gX6_readClause_X6_readCart yo_X6_readCart rfl ⟨Nat.le_of_ble_eq_true rfl, Nat.le_of_ble_eq_true rfl⟩ (Nat.le_of_ble_eq_true rfl) rfl rfl rfl dX6_readClause_75 h (fun r20 I18 J19 h => ?_)
            exact g_zret X R h.1 dX6_readClause_78 h.2
        · have h := h.2 c9
          refine g_aload_n X dX6_readClause_63 rfl 1 rfl ?_
          refine g_callVI X (As := []) (rest := []) (T := TX6) (N := 10) (c_X6_readRoad (zl Z) (zE Z) ) gX6_readClause_X6_readRoad yo_X6_readRoad rfl ⟨Nat.le_of_ble_eq_true rfl, Nat.le_of_ble_eq_true rfl⟩ (Nat.le_of_ble_eq_true rfl) rfl rfl rfl dX6_readClause_64 h (fun r23 I21 J22 h => ?_)
          exact g_zret X R h.1 dX6_readClause_67 h.2
      · have h := h.2 c8
        refine g_aload_n X dX6_readClause_52 rfl 1 rfl ?_
        refine g_callVI X (As := []) (rest := []) (T := TX6) (N := 10) (c_X6_readPlace (zl Z) (zE Z) ) gX6_readClause_X6_readPlace yo_X6_readPlace rfl ⟨Nat.le_of_ble_eq_true rfl, Nat.le_of_ble_eq_true rfl⟩ (Nat.le_of_ble_eq_true rfl) rfl rfl rfl dX6_readClause_53 h (fun r26 I24 J25 h => ?_)
        exact g_zret X R h.1 dX6_readClause_56 h.2
    · have h := h.2 c7
      refine g_aload_n X dX6_readClause_26 rfl 1 rfl ?_
      refine g_iconst X (v := 0) dX6_readClause_27 (by decide) ?_
      refine g_puti X (C := RX6) (T := TX6) (N := 10) (ci := 4) (k := 7) (ty0 := tyX6) iX6_readClause_X6 tyX6_ok nmX6 rfl kX6_readClause_31 (Nat.le_of_ble_eq_true rfl) rfl (by decide) rfl rfl (by decide +kernel) rfl dX6_readClause_28 ?_
      refine g_nmI (fun I27 eI27 => ?_)
      have h := h I27 eI27
      refine g_aload_n X dX6_readClause_31 rfl 1 rfl ?_
      refine g_iconst X (v := 0) dX6_readClause_32 (by decide) ?_
      refine g_puti X (C := RX6) (T := TX6) (N := 10) (ci := 4) (k := 8) (ty0 := tyX6) iX6_readClause_X6 tyX6_ok nmX6 rfl kX6_readClause_35 (Nat.le_of_ble_eq_true rfl) rfl (by decide) rfl rfl (by decide +kernel) rfl dX6_readClause_33 ?_
      refine g_nmI (fun I28 eI28 => ?_)
      have h := h I28 eI28
      refine g_aload_n X dX6_readClause_36 rfl 1 rfl ?_
      refine g_iconst X (v := 0) dX6_readClause_37 (by decide) ?_
      refine g_puti X (C := RX6) (T := TX6) (N := 10) (ci := 4) (k := 9) (ty0 := tyX6) iX6_readClause_X6 tyX6_ok nmX6 rfl kX6_readClause_39 (Nat.le_of_ble_eq_true rfl) rfl (by decide) rfl rfl (by decide +kernel) rfl dX6_readClause_38 ?_
      refine g_nmI (fun I29 eI29 => ?_)
      have h := h I29 eI29
      refine g_aload_n X dX6_readClause_41 rfl 1 rfl ?_
      refine g_callVV X (As := []) (rest := []) (T := TX6) (N := 10) (c_X6_nextToken (zl Z) (zE Z) ) gX6_readClause_X6_nextToken yo_X6_nextToken rfl ⟨Nat.le_of_ble_eq_true rfl, Nat.le_of_ble_eq_true rfl⟩ (Nat.le_of_ble_eq_true rfl) rfl rfl rfl dX6_readClause_42 h (fun  I30 J31 h => ?_)
      refine g_iconst X (v := 1) dX6_readClause_45 (by decide) ?_
      exact g_zret X R (by decide) dX6_readClause_46 h
  · have h := h.2 c4
    refine g_iconst X (v := 0) dX6_readClause_10 (by decide) ?_
    exact g_zret X R (by decide) dX6_readClause_11 h

/-! X6_readOver.readOver(LSnowCourse$Country;)I -/
def rmX6_readOver : Room := { frames := 8, cells := 0, slots := 0, locals := 183 }
theorem yo_X6_readOver : yX6_readOver.cls = RX6 ∧ yX6_readOver.cls ≠ "java/lang/invoke/MethodHandle" ∧ yX6_readOver.cls ≠ "java/lang/invoke/VarHandle" ∧ (parseMethodDescriptor yX6_readOver.desc).map (fun d => d.parameters.length) = some 1 := by decide +kernel
theorem kX6_readOver_53 : Cond.fieldLink RX6 53 "SnowCourse$Script" (TX6 5).2.1 (TX6 5).2.2.1 ∈ wsX6_readOver := by decide +kernel
theorem iX6_readOver_X6 : ∀ w ∈ u_ws RX6 TX6 10, w ∈ wsX6_readOver := by decide +kernel
theorem kX6_readOver_40 : Cond.fieldLink RX6 40 "SnowCourse$Script" (TX6 4).2.1 (TX6 4).2.2.1 ∈ wsX6_readOver := by decide +kernel
theorem kX6_readOver_22 : Cond.fieldLink RX6 22 "SnowCourse$Script" (TX6 1).2.1 (TX6 1).2.2.1 ∈ wsX6_readOver := by decide +kernel
theorem kX6_readOver_11 : Cond.fieldLink RX6 11 "SnowCourse$Script" (TX6 0).2.1 (TX6 0).2.2.1 ∈ wsX6_readOver := by decide +kernel
theorem kX6_readOver_26 : Cond.fieldLink RX6 26 "SnowCourse$Country" (TX1 8).2.1 (TX1 8).2.2.1 ∈ wsX6_readOver := by decide +kernel
theorem iX6_readOver_X1 : ∀ w ∈ u_ws RX1 TX1 12, w ∈ wsX6_readOver := by decide +kernel
theorem kX6_readOver_31 : Cond.fieldLink RX6 31 "SnowCourse$Script" (TX6 7).2.1 (TX6 7).2.2.1 ∈ wsX6_readOver := by decide +kernel
theorem kX6_readOver_32 : Cond.fieldLink RX6 32 "SnowCourse$Country" (TX1 9).2.1 (TX1 9).2.2.1 ∈ wsX6_readOver := by decide +kernel
theorem kX6_readOver_35 : Cond.fieldLink RX6 35 "SnowCourse$Script" (TX6 8).2.1 (TX6 8).2.2.1 ∈ wsX6_readOver := by decide +kernel
theorem kX6_readOver_36 : Cond.fieldLink RX6 36 "SnowCourse$Country" (TX1 10).2.1 (TX1 10).2.2.1 ∈ wsX6_readOver := by decide +kernel
theorem kX6_readOver_39 : Cond.fieldLink RX6 39 "SnowCourse$Script" (TX6 9).2.1 (TX6 9).2.2.1 ∈ wsX6_readOver := by decide +kernel
theorem kX6_readOver_43 : Cond.fieldLink RX6 43 "SnowCourse$Script" (TX6 6).2.1 (TX6 6).2.2.1 ∈ wsX6_readOver := by decide +kernel
def vc_X6_readOver_L36s  (Q : Int32 → MI → MJ → Prop)  (k36 : Int32 → MI → MJ → Prop) (v2 : Int32) (I : MI) (J : MJ) : Prop := ((14 ≤ v2 → Q (I 1 5) I J) ∧ (¬ 14 ≤ v2 → vc_X6_nextToken  I J (fun (I2 : MI) (J3 : MJ) => vc_X6_readClause  I2 J3 (fun (r6 : Int32) (I4 : MI) (J5 : MJ) => ((¬ r6 = 0 → ∀ I8 : MI, I8 = wI I4 1 4 ((I4 1 4) + 1) → ((¬ (I8 1 5) = (I8 1 1) → vp_in (I8 1 5) 160 ∧ (((I8 2 (Int32.toNatClampNeg (I8 1 5))) = 59 → ∀ x12 : Int32, x12 = v2 + 1 → k36 x12 I8 J5) ∧ (¬ (I8 2 (Int32.toNatClampNeg (I8 1 5))) = 59 → Q (I8 1 5) I8 J5))) ∧ ((I8 1 5) = (I8 1 1) → Q (-1) I8 J5))) ∧ (r6 = 0 → Q (I4 1 5) I4 J5))))))
def vc_X6_readOver_L36  (Q : Int32 → MI → MJ → Prop)  (n : Nat) : Int32 → MI → MJ → Prop := Nat.rec (fun _ _ _ => False) (fun _ ih => vc_X6_readOver_L36s  Q  ih) n
set_option maxRecDepth 100000 in
set_option maxHeartbeats 4000000 in
theorem w_X6_readOver_L36s {Z : RT}  (X : Cx Z cX6_readOver 3 RX6 wsX6_readOver rmX6_readOver (some .int)) {Q : Int32 → MI → MJ → Prop} (R : RI Z Q)    {k36 : Int32 → MI → MJ → Prop} (hk36 : ∀ (v2 : Int32) (I : MI) (J : MJ), k36 v2 I J → GW Z 3 I J 36 [(0, .ref (ea (zE Z) 1)), (2, .int v2)] []) (v2 : Int32) (I : MI) (J : MJ) (h : vc_X6_readOver_L36s  Q  k36 v2 I J) : GW Z 3 I J 36 [(0, .ref (ea (zE Z) 1)), (2, .int v2)] [] := by
  refine g_iload_n X dX6_readOver_36 rfl 1 rfl ?_
  refine g_bipush X (v := 14) dX6_readOver_37 (by decide) ?_
  refine g_icmp_ge X (tgt := 106) dX6_readOver_39 (by decide) (fun c1 => ?_) (fun c1 => ?_)
  · have h := h.1 c1
    refine g_aload_n X dX6_readOver_106 rfl 0 rfl ?_
    refine g_geti X (C := RX6) (T := TX6) (N := 10) (ci := 4) (k := 5) iX6_readOver_X6 rfl kX6_readOver_53 (Nat.le_of_ble_eq_true rfl) rfl (by decide) rfl rfl dX6_readOver_107 ?_
    exact g_iret X R dX6_readOver_110 h
  · have h := h.2 c1
    refine g_aload_n X dX6_readOver_42 rfl 0 rfl ?_
    refine g_callVV X (As := []) (rest := []) (T := TX6) (N := 10) (c_X6_nextToken (zl Z) (zE Z) ) gX6_readOver_X6_nextToken yo_X6_nextToken rfl ⟨Nat.le_of_ble_eq_true rfl, Nat.le_of_ble_eq_true rfl⟩ (Nat.le_of_ble_eq_true rfl) rfl rfl rfl dX6_readOver_43 h (fun  I2 J3 h => ?_)
    refine g_aload_n X dX6_readOver_46 rfl 0 rfl ?_
    refine g_callVI X (As := []) (rest := []) (T := TX6) (N := 10) (c_X6_readClause (zl Z) (zE Z) ) gX6_readOver_X6_readClause yo_X6_readClause rfl ⟨Nat.le_of_ble_eq_true rfl, Nat.le_of_ble_eq_true rfl⟩ (Nat.le_of_ble_eq_true rfl) rfl rfl rfl dX6_readOver_47 h (fun r6 I4 J5 h => ?_)
    refine g_if_ne X (tgt := 58) dX6_readOver_50 (by decide) (fun c7 => ?_) (fun c7 => ?_)
    · have h := h.1 c7
      refine g_aload_n X dX6_readOver_58 rfl 0 rfl ?_
      refine g_dup X dX6_readOver_59 rfl ?_
      refine g_geti X (C := RX6) (T := TX6) (N := 10) (ci := 4) (k := 4) iX6_readOver_X6 rfl kX6_readOver_40 (Nat.le_of_ble_eq_true rfl) rfl (by decide) rfl rfl dX6_readOver_60 ?_
      refine g_iconst X (v := 1) dX6_readOver_63 (by decide) ?_
      refine g_iadd X dX6_readOver_64 ?_
      refine g_puti X (C := RX6) (T := TX6) (N := 10) (ci := 4) (k := 4) (ty0 := tyX6) iX6_readOver_X6 tyX6_ok nmX6 rfl kX6_readOver_40 (Nat.le_of_ble_eq_true rfl) rfl (by decide) rfl rfl (by decide +kernel) rfl dX6_readOver_65 ?_
      refine g_nmI (fun I8 eI8 => ?_)
      have h := h I8 eI8
      refine g_aload_n X dX6_readOver_68 rfl 0 rfl ?_
      refine g_geti X (C := RX6) (T := TX6) (N := 10) (ci := 4) (k := 5) iX6_readOver_X6 rfl kX6_readOver_53 (Nat.le_of_ble_eq_true rfl) rfl (by decide) rfl rfl dX6_readOver_69 ?_
      refine g_aload_n X dX6_readOver_72 rfl 0 rfl ?_
      refine g_geti X (C := RX6) (T := TX6) (N := 10) (ci := 4) (k := 1) iX6_readOver_X6 rfl kX6_readOver_22 (Nat.le_of_ble_eq_true rfl) rfl (by decide) rfl rfl dX6_readOver_73 ?_
      refine g_icmp_ne X (tgt := 81) dX6_readOver_76 (by decide) (fun c9 => ?_) (fun c9 => ?_)
      · have h := h.1 c9
        refine g_aload_n X dX6_readOver_81 rfl 0 rfl ?_
        refine g_getr X (C := RX6) (T := TX6) (N := 10) (ci := 4) (k := 0) iX6_readOver_X6 rfl kX6_readOver_11 (Nat.le_of_ble_eq_true rfl) rfl (by decide) rfl rfl dX6_readOver_82 ?_
        refine g_aload_n X dX6_readOver_85 rfl 0 rfl ?_
        refine g_geti X (C := RX6) (T := TX6) (N := 10) (ci := 4) (k := 5) iX6_readOver_X6 rfl kX6_readOver_53 (Nat.le_of_ble_eq_true rfl) rfl (by decide) rfl rfl dX6_readOver_86 ?_
        obtain ⟨b10, h⟩ := h
        refine g_cald X (Nat.le_of_ble_eq_true rfl) rfl b10 dX6_readOver_89 ?_
        refine g_bipush X (v := 59) dX6_readOver_90 (by decide) ?_
        refine g_icmp_eq X (tgt := 100) dX6_readOver_92 (by decide) (fun c11 => ?_) (fun c11 => ?_)
        · have h := h.1 c11
          obtain ⟨x12, ex12⟩ : ∃ y : Int32, y = v2 + 1 := ⟨_, rfl⟩
          have h := h x12 ex12
          refine g_iinc X (q := 1) (v := x12) (lv' := [(2, .int x12), (0, .ref (ea (zE Z) 1))]) dX6_readOver_100 rfl (by rw [ex12]; rfl) (by decide) rfl ?_
          refine g_goto X (tgt := 36) dX6_readOver_103 (by decide) ?_
          refine GW.sub (lv' := [(0, .ref (ea (zE Z) 1)), (2, .int x12)]) [1, 0] rfl ?_
          exact hk36 x12 I8 J5 h
        · have h := h.2 c11
          refine g_aload_n X dX6_readOver_95 rfl 0 rfl ?_
          refine g_geti X (C := RX6) (T := TX6) (N := 10) (ci := 4) (k := 5) iX6_readOver_X6 rfl kX6_readOver_53 (Nat.le_of_ble_eq_true rfl) rfl (by decide) rfl rfl dX6_readOver_96 ?_
          exact g_iret X R dX6_readOver_99 h
      · have h := h.2 c9
        refine g_iconst X (v := (-1)) dX6_readOver_79 (by decide) ?_
        exact g_iret X R dX6_readOver_80 h
    · have h := h.2 c7
      refine g_aload_n X dX6_readOver_53 rfl 0 rfl ?_
      refine g_geti X (C := RX6) (T := TX6) (N := 10) (ci := 4) (k := 5) iX6_readOver_X6 rfl kX6_readOver_53 (Nat.le_of_ble_eq_true rfl) rfl (by decide) rfl rfl dX6_readOver_54 ?_
      exact g_iret X R dX6_readOver_57 h
theorem w_X6_readOver_L36 {Z : RT}  (X : Cx Z cX6_readOver 3 RX6 wsX6_readOver rmX6_readOver (some .int)) {Q : Int32 → MI → MJ → Prop} (R : RI Z Q)    : ∀ (n : Nat) (v2 : Int32) (I : MI) (J : MJ) (h : vc_X6_readOver_L36  Q  n v2 I J), GW Z 3 I J 36 [(0, .ref (ea (zE Z) 1)), (2, .int v2)] [] := by
  intro n
  induction n with
  | zero => intro v2 I J h; exact h.elim
  | succ n ih => intro v2 I J h; exact w_X6_readOver_L36s X R   ih v2 I J h
def vc_X6_readOver  (I : MI) (J : MJ) (Q : Int32 → MI → MJ → Prop) : Prop := ∀ I13 : MI, I13 = wI I 1 7 (I 5 8) → ∀ I14 : MI, I14 = wI I13 1 8 (I13 5 9) → ∀ I15 : MI, I15 = wI I14 1 9 (I14 5 10) → ∀ I16 : MI, I16 = wI I15 1 4 0 → ∀ I17 : MI, I17 = wI I16 1 6 0 → (∃ n, vc_X6_readOver_L36  Q  n 0 I17 J)
set_option maxRecDepth 100000 in
set_option maxHeartbeats 4000000 in
theorem c_X6_readOver (l : Launch) (E : ET)   : CI l yX6_readOver wsX6_readOver rmX6_readOver E [.ref (ea E 1), .ref (ea E 5)] (vc_X6_readOver ) := by
  refine CI.of (cc := cX6_readOver) (maxL := 3) (own := RX6) (by decide) rfl rfl (Nat.le_of_ble_eq_true rfl) ?_
  intro Z I J Q hE hl X R h
  subst hE
  subst hl
  show GW Z 3 I J 0 [(0, .ref (ea (zE Z) 1)), (1, .ref (ea (zE Z) 5))] []
  refine g_aload_n X dX6_readOver_0 rfl 0 rfl ?_
  refine g_aload_n X dX6_readOver_1 rfl 1 rfl ?_
  refine g_geti X (C := RX1) (T := TX1) (N := 12) (ci := 1) (k := 8) iX6_readOver_X1 rfl kX6_readOver_26 (Nat.le_of_ble_eq_true rfl) rfl (by decide) rfl rfl dX6_readOver_2 ?_
  refine g_puti X (C := RX6) (T := TX6) (N := 10) (ci := 4) (k := 7) (ty0 := tyX6) iX6_readOver_X6 tyX6_ok nmX6 rfl kX6_readOver_31 (Nat.le_of_ble_eq_true rfl) rfl (by decide) rfl rfl (by decide +kernel) rfl dX6_readOver_5 ?_
  refine g_nmI (fun I13 eI13 => ?_)
  have h := h I13 eI13
  refine g_aload_n X dX6_readOver_8 rfl 0 rfl ?_
  refine g_aload_n X dX6_readOver_9 rfl 1 rfl ?_
  refine g_geti X (C := RX1) (T := TX1) (N := 12) (ci := 1) (k := 9) iX6_readOver_X1 rfl kX6_readOver_32 (Nat.le_of_ble_eq_true rfl) rfl (by decide) rfl rfl dX6_readOver_10 ?_
  refine g_puti X (C := RX6) (T := TX6) (N := 10) (ci := 4) (k := 8) (ty0 := tyX6) iX6_readOver_X6 tyX6_ok nmX6 rfl kX6_readOver_35 (Nat.le_of_ble_eq_true rfl) rfl (by decide) rfl rfl (by decide +kernel) rfl dX6_readOver_13 ?_
  refine g_nmI (fun I14 eI14 => ?_)
  have h := h I14 eI14
  refine g_aload_n X dX6_readOver_16 rfl 0 rfl ?_
  refine g_aload_n X dX6_readOver_17 rfl 1 rfl ?_
  refine g_geti X (C := RX1) (T := TX1) (N := 12) (ci := 1) (k := 10) iX6_readOver_X1 rfl kX6_readOver_36 (Nat.le_of_ble_eq_true rfl) rfl (by decide) rfl rfl dX6_readOver_18 ?_
  refine g_puti X (C := RX6) (T := TX6) (N := 10) (ci := 4) (k := 9) (ty0 := tyX6) iX6_readOver_X6 tyX6_ok nmX6 rfl kX6_readOver_39 (Nat.le_of_ble_eq_true rfl) rfl (by decide) rfl rfl (by decide +kernel) rfl dX6_readOver_21 ?_
  refine g_nmI (fun I15 eI15 => ?_)
  have h := h I15 eI15
  refine g_aload_n X dX6_readOver_24 rfl 0 rfl ?_
  refine g_iconst X (v := 0) dX6_readOver_25 (by decide) ?_
  refine g_puti X (C := RX6) (T := TX6) (N := 10) (ci := 4) (k := 4) (ty0 := tyX6) iX6_readOver_X6 tyX6_ok nmX6 rfl kX6_readOver_40 (Nat.le_of_ble_eq_true rfl) rfl (by decide) rfl rfl (by decide +kernel) rfl dX6_readOver_26 ?_
  refine g_nmI (fun I16 eI16 => ?_)
  have h := h I16 eI16
  refine g_aload_n X dX6_readOver_29 rfl 0 rfl ?_
  refine g_iconst X (v := 0) dX6_readOver_30 (by decide) ?_
  refine g_puti X (C := RX6) (T := TX6) (N := 10) (ci := 4) (k := 6) (ty0 := tyX6) iX6_readOver_X6 tyX6_ok nmX6 rfl kX6_readOver_43 (Nat.le_of_ble_eq_true rfl) rfl (by decide) rfl rfl (by decide +kernel) rfl dX6_readOver_31 ?_
  refine g_nmI (fun I17 eI17 => ?_)
  have h := h I17 eI17
  refine g_iconst X (v := 0) dX6_readOver_34 (by decide) ?_
  refine g_istore_n X (lv' := [(2, .int 0), (0, .ref (ea (zE Z) 1)), (1, .ref (ea (zE Z) 5))]) dX6_readOver_35 rfl (by decide) rfl ?_
  refine GW.sub (lv' := [(0, .ref (ea (zE Z) 1)), (2, .int 0)]) [1, 0] rfl ?_
  obtain ⟨n, h⟩ := h
  exact w_X6_readOver_L36 X R   n 0 I17 J h

/-! X6_tellTo.tellTo(LSnowCourse$Country;)V -/
def rmX6_tellTo : Room := { frames := 1, cells := 0, slots := 0, locals := 24 }
theorem yo_X6_tellTo : yX6_tellTo.cls = RX6 ∧ yX6_tellTo.cls ≠ "java/lang/invoke/MethodHandle" ∧ yX6_tellTo.cls ≠ "java/lang/invoke/VarHandle" ∧ (parseMethodDescriptor yX6_tellTo.desc).map (fun d => d.parameters.length) = some 1 := by decide +kernel
theorem kX6_tellTo_40 : Cond.fieldLink RX6 40 "SnowCourse$Script" (TX6 4).2.1 (TX6 4).2.2.1 ∈ wsX6_tellTo := by decide +kernel
theorem iX6_tellTo_X6 : ∀ w ∈ u_ws RX6 TX6 10, w ∈ wsX6_tellTo := by decide +kernel
theorem kX6_tellTo_15 : Cond.fieldLink RX6 15 "SnowCourse$Script" (TX6 2).2.1 (TX6 2).2.2.1 ∈ wsX6_tellTo := by decide +kernel
theorem kX6_tellTo_71 : Cond.fieldLink RX6 71 "SnowCourse$Country" (TX1 11).2.1 (TX1 11).2.2.1 ∈ wsX6_tellTo := by decide +kernel
theorem iX6_tellTo_X1 : ∀ w ∈ u_ws RX1 TX1 12, w ∈ wsX6_tellTo := by decide +kernel
theorem kX6_tellTo_19 : Cond.fieldLink RX6 19 "SnowCourse$Script" (TX6 3).2.1 (TX6 3).2.2.1 ∈ wsX6_tellTo := by decide +kernel
def vc_X6_tellTo_L2s  (Q : MI → MJ → Prop)  (k2 : Int32 → MI → MJ → Prop) (v2 : Int32) (I : MI) (J : MJ) : Prop := (((I 1 4) ≤ v2 → Q I J) ∧ (¬ (I 1 4) ≤ v2 → ∀ x2 : Int32, x2 = v2 * 3 → vp_in v2 14 ∧ ∀ x4 : Int32, x4 = I 3 (Int32.toNatClampNeg v2) → ((¬ x4 = 0 → ((5 ≤ x4 → ((8 ≤ x4 → ((11 ≤ x4 → ((¬ x4 = 11 → ∀ J10 : MJ, J10 = wJ J 5 11 0 → ∀ x11 : Int32, x11 = v2 + 1 → k2 x11 I J10) ∧ (x4 = 11 → vp_in x2 42 ∧ ∀ J13 : MJ, J13 = wJ J 5 11 ((J 5 11) ||| (1 <<< (Int32.toInt64 (I 4 (Int32.toNatClampNeg x2)) &&& 63))) → ∀ x14 : Int32, x14 = v2 + 1 → k2 x14 I J13))) ∧ (¬ 11 ≤ x4 → vp_in x2 42 ∧ vp_in (x2 + 1) 42 ∧ vc_X1_addCart (x4 - 8) (I 4 (Int32.toNatClampNeg x2)) (I 4 (Int32.toNatClampNeg (x2 + 1))) I J (fun (I17 : MI) (J18 : MJ) => ∀ x19 : Int32, x19 = v2 + 1 → k2 x19 I17 J18)))) ∧ (¬ 8 ≤ x4 → vp_in x2 42 ∧ vp_in (x2 + 1) 42 ∧ vp_in (x2 + 2) 42 ∧ vc_X1_addRoad (x4 - 5) (I 4 (Int32.toNatClampNeg x2)) (I 4 (Int32.toNatClampNeg (x2 + 1))) (I 4 (Int32.toNatClampNeg (x2 + 2))) I J (fun (I23 : MI) (J24 : MJ) => ∀ x25 : Int32, x25 = v2 + 1 → k2 x25 I23 J24)))) ∧ (¬ 5 ≤ x4 → vc_X1_addPlace (x4 - 1) I J (fun (I26 : MI) (J27 : MJ) => ∀ x28 : Int32, x28 = v2 + 1 → k2 x28 I26 J27)))) ∧ (x4 = 0 → vc_X1_clear  I J (fun (I29 : MI) (J30 : MJ) => ∀ x31 : Int32, x31 = v2 + 1 → k2 x31 I29 J30)))))
def vc_X6_tellTo_L2  (Q : MI → MJ → Prop)  (n : Nat) : Int32 → MI → MJ → Prop := Nat.rec (fun _ _ _ => False) (fun _ ih => vc_X6_tellTo_L2s  Q  ih) n
set_option maxRecDepth 100000 in
set_option maxHeartbeats 4000000 in
theorem w_X6_tellTo_L2s {Z : RT}  (X : Cx Z cX6_tellTo 5 RX6 wsX6_tellTo rmX6_tellTo none) {Q : MI → MJ → Prop} (R : RV Z Q)    {k2 : Int32 → MI → MJ → Prop} (hk2 : ∀ (v2 : Int32) (I : MI) (J : MJ), k2 v2 I J → GW Z 5 I J 2 [(0, .ref (ea (zE Z) 1)), (1, .ref (ea (zE Z) 5)), (2, .int v2)] []) (v2 : Int32) (I : MI) (J : MJ) (h : vc_X6_tellTo_L2s  Q  k2 v2 I J) : GW Z 5 I J 2 [(0, .ref (ea (zE Z) 1)), (1, .ref (ea (zE Z) 5)), (2, .int v2)] [] := by
  refine g_iload_n X dX6_tellTo_2 rfl 2 rfl ?_
  refine g_aload_n X dX6_tellTo_3 rfl 0 rfl ?_
  refine g_geti X (C := RX6) (T := TX6) (N := 10) (ci := 4) (k := 4) iX6_tellTo_X6 rfl kX6_tellTo_40 (Nat.le_of_ble_eq_true rfl) rfl (by decide) rfl rfl dX6_tellTo_4 ?_
  refine g_icmp_ge X (tgt := 162) dX6_tellTo_7 (by decide) (fun c1 => ?_) (fun c1 => ?_)
  · have h := h.1 c1
    exact g_vret X R dX6_tellTo_162 h
  · have h := h.2 c1
    refine g_iload_n X dX6_tellTo_10 rfl 2 rfl ?_
    refine g_iconst X (v := 3) dX6_tellTo_11 (by decide) ?_
    refine g_imul X dX6_tellTo_12 ?_
    refine g_topi (fun x2 ex2 => ?_)
    have h := h x2 ex2
    refine g_istore_n X (lv' := [(3, .int x2), (0, .ref (ea (zE Z) 1)), (1, .ref (ea (zE Z) 5)), (2, .int v2)]) dX6_tellTo_13 rfl (by decide) rfl ?_
    refine g_aload_n X dX6_tellTo_14 rfl 1 rfl ?_
    refine g_getr X (C := RX6) (T := TX6) (N := 10) (ci := 4) (k := 2) iX6_tellTo_X6 rfl kX6_tellTo_15 (Nat.le_of_ble_eq_true rfl) rfl (by decide) rfl rfl dX6_tellTo_15 ?_
    refine g_iload_n X dX6_tellTo_18 rfl 3 rfl ?_
    obtain ⟨b3, h⟩ := h
    refine g_iald X (Nat.le_of_ble_eq_true rfl) rfl b3 dX6_tellTo_19 ?_
    refine g_topi (fun x4 ex4 => ?_)
    have h := h x4 ex4
    refine g_istore X (lv' := [(4, .int x4), (3, .int x2), (0, .ref (ea (zE Z) 1)), (1, .ref (ea (zE Z) 5)), (2, .int v2)]) dX6_tellTo_20 (by decide) rfl ?_
    refine g_iload X dX6_tellTo_22 0 rfl ?_
    refine g_if_ne X (tgt := 34) dX6_tellTo_24 (by decide) (fun c5 => ?_) (fun c5 => ?_)
    · have h := h.1 c5
      refine g_iload X dX6_tellTo_34 0 rfl ?_
      refine g_iconst X (v := 5) dX6_tellTo_36 (by decide) ?_
      refine g_icmp_ge X (tgt := 51) dX6_tellTo_37 (by decide) (fun c6 => ?_) (fun c6 => ?_)
      · have h := h.1 c6
        refine g_iload X dX6_tellTo_51 0 rfl ?_
        refine g_bipush X (v := 8) dX6_tellTo_53 (by decide) ?_
        refine g_icmp_ge X (tgt := 91) dX6_tellTo_55 (by decide) (fun c7 => ?_) (fun c7 => ?_)
        · have h := h.1 c7
          refine g_iload X dX6_tellTo_91 0 rfl ?_
          refine g_bipush X (v := 11) dX6_tellTo_93 (by decide) ?_
          refine g_icmp_ge X (tgt := 124) dX6_tellTo_95 (by decide) (fun c8 => ?_) (fun c8 => ?_)
          · have h := h.1 c8
            refine g_iload X dX6_tellTo_124 0 rfl ?_
            refine g_bipush X (v := 11) dX6_tellTo_126 (by decide) ?_
            refine g_icmp_ne X (tgt := 151) dX6_tellTo_128 (by decide) (fun c9 => ?_) (fun c9 => ?_)
            · have h := h.1 c9
              refine g_aload_n X dX6_tellTo_151 rfl 3 rfl ?_
              refine g_lconst X (v := 0) dX6_tellTo_152 (by decide) ?_
              refine g_putl X (C := RX1) (T := TX1) (N := 12) (ci := 1) (k := 11) (ty0 := tyX1) iX6_tellTo_X1 tyX1_ok nmX1 rfl kX6_tellTo_71 (Nat.le_of_ble_eq_true rfl) rfl (by decide) rfl rfl (by decide +kernel) rfl dX6_tellTo_153 ?_
              refine g_nmJ (fun J10 eJ10 => ?_)
              have h := h J10 eJ10
              obtain ⟨x11, ex11⟩ : ∃ y : Int32, y = v2 + 1 := ⟨_, rfl⟩
              have h := h x11 ex11
              refine g_iinc X (q := 4) (v := x11) (lv' := [(2, .int x11), (4, .int x4), (3, .int x2), (0, .ref (ea (zE Z) 1)), (1, .ref (ea (zE Z) 5))]) dX6_tellTo_156 rfl (by rw [ex11]; rfl) (by decide) rfl ?_
              refine g_goto X (tgt := 2) dX6_tellTo_159 (by decide) ?_
              refine GW.sub (lv' := [(0, .ref (ea (zE Z) 1)), (1, .ref (ea (zE Z) 5)), (2, .int x11)]) [3, 4, 0] rfl ?_
              exact hk2 x11 I J10 h
            · have h := h.2 c9
              refine g_aload_n X dX6_tellTo_131 rfl 3 rfl ?_
              refine g_dup X dX6_tellTo_132 rfl ?_
              refine g_getl X (C := RX1) (T := TX1) (N := 12) (ci := 1) (k := 11) iX6_tellTo_X1 rfl kX6_tellTo_71 (Nat.le_of_ble_eq_true rfl) rfl (by decide) rfl rfl dX6_tellTo_133 ?_
              refine g_lconst X (v := 1) dX6_tellTo_136 (by decide) ?_
              refine g_aload_n X dX6_tellTo_137 rfl 2 rfl ?_
              refine g_getr X (C := RX6) (T := TX6) (N := 10) (ci := 4) (k := 3) iX6_tellTo_X6 rfl kX6_tellTo_19 (Nat.le_of_ble_eq_true rfl) rfl (by decide) rfl rfl dX6_tellTo_138 ?_
              refine g_iload_n X dX6_tellTo_141 rfl 1 rfl ?_
              obtain ⟨b12, h⟩ := h
              refine g_iald X (Nat.le_of_ble_eq_true rfl) rfl b12 dX6_tellTo_142 ?_
              refine g_lshl X dX6_tellTo_143 ?_
              refine g_lor X dX6_tellTo_144 ?_
              refine g_putl X (C := RX1) (T := TX1) (N := 12) (ci := 1) (k := 11) (ty0 := tyX1) iX6_tellTo_X1 tyX1_ok nmX1 rfl kX6_tellTo_71 (Nat.le_of_ble_eq_true rfl) rfl (by decide) rfl rfl (by decide +kernel) rfl dX6_tellTo_145 ?_
              refine g_nmJ (fun J13 eJ13 => ?_)
              have h := h J13 eJ13
              refine g_goto X (tgt := 156) dX6_tellTo_148 (by decide) ?_
              obtain ⟨x14, ex14⟩ : ∃ y : Int32, y = v2 + 1 := ⟨_, rfl⟩
              have h := h x14 ex14
              refine g_iinc X (q := 4) (v := x14) (lv' := [(2, .int x14), (4, .int x4), (3, .int x2), (0, .ref (ea (zE Z) 1)), (1, .ref (ea (zE Z) 5))]) dX6_tellTo_156 rfl (by rw [ex14]; rfl) (by decide) rfl ?_
              refine g_goto X (tgt := 2) dX6_tellTo_159 (by decide) ?_
              refine GW.sub (lv' := [(0, .ref (ea (zE Z) 1)), (1, .ref (ea (zE Z) 5)), (2, .int x14)]) [3, 4, 0] rfl ?_
              exact hk2 x14 I J13 h
          · have h := h.2 c8
            refine g_aload_n X dX6_tellTo_98 rfl 3 rfl ?_
            refine g_iload X dX6_tellTo_99 0 rfl ?_
            refine g_bipush X (v := 8) dX6_tellTo_101 (by decide) ?_
            refine g_isub X dX6_tellTo_103 ?_
            refine g_aload_n X dX6_tellTo_104 rfl 2 rfl ?_
            refine g_getr X (C := RX6) (T := TX6) (N := 10) (ci := 4) (k := 3) iX6_tellTo_X6 rfl kX6_tellTo_19 (Nat.le_of_ble_eq_true rfl) rfl (by decide) rfl rfl dX6_tellTo_105 ?_
            refine g_iload_n X dX6_tellTo_108 rfl 1 rfl ?_
            obtain ⟨b15, h⟩ := h
            refine g_iald X (Nat.le_of_ble_eq_true rfl) rfl b15 dX6_tellTo_109 ?_
            refine g_aload_n X dX6_tellTo_110 rfl 2 rfl ?_
            refine g_getr X (C := RX6) (T := TX6) (N := 10) (ci := 4) (k := 3) iX6_tellTo_X6 rfl kX6_tellTo_19 (Nat.le_of_ble_eq_true rfl) rfl (by decide) rfl rfl dX6_tellTo_111 ?_
            refine g_iload_n X dX6_tellTo_114 rfl 1 rfl ?_
            refine g_iconst X (v := 1) dX6_tellTo_115 (by decide) ?_
            refine g_iadd X dX6_tellTo_116 ?_
            obtain ⟨b16, h⟩ := h
            refine g_iald X (Nat.le_of_ble_eq_true rfl) rfl b16 dX6_tellTo_117 ?_
            refine g_callVV X (As := [.int (x4 - 8), .int (I 4 (Int32.toNatClampNeg x2)), .int (I 4 (Int32.toNatClampNeg (x2 + 1)))]) (rest := []) (T := TX1) (N := 12) (c_X1_addCart (zl Z) (zE Z) (x4 - 8) (I 4 (Int32.toNatClampNeg x2)) (I 4 (Int32.toNatClampNeg (x2 + 1)))) gX6_tellTo_X1_addCart yo_X1_addCart rfl ⟨Nat.le_of_ble_eq_true rfl, Nat.le_of_ble_eq_true rfl⟩ (Nat.le_of_ble_eq_true rfl) rfl rfl rfl dX6_tellTo_118 h (fun  I17 J18 h => ?_)
            refine g_goto X (tgt := 156) dX6_tellTo_121 (by decide) ?_
            obtain ⟨x19, ex19⟩ : ∃ y : Int32, y = v2 + 1 := ⟨_, rfl⟩
            have h := h x19 ex19
            refine g_iinc X (q := 4) (v := x19) (lv' := [(2, .int x19), (4, .int x4), (3, .int x2), (0, .ref (ea (zE Z) 1)), (1, .ref (ea (zE Z) 5))]) dX6_tellTo_156 rfl (by rw [ex19]; rfl) (by decide) rfl ?_
            refine g_goto X (tgt := 2) dX6_tellTo_159 (by decide) ?_
            refine GW.sub (lv' := [(0, .ref (ea (zE Z) 1)), (1, .ref (ea (zE Z) 5)), (2, .int x19)]) [3, 4, 0] rfl ?_
            exact hk2 x19 I17 J18 h
        · have h := h.2 c7
          refine g_aload_n X dX6_tellTo_58 rfl 3 rfl ?_
          refine g_iload X dX6_tellTo_59 0 rfl ?_
          refine g_iconst X (v := 5) dX6_tellTo_61 (by decide) ?_
          refine g_isub X dX6_tellTo_62 ?_
          refine g_aload_n X dX6_tellTo_63 rfl 2 rfl ?_
          refine g_getr X (C := RX6) (T := TX6) (N := 10) (ci := 4) (k := 3) iX6_tellTo_X6 rfl kX6_tellTo_19 (Nat.le_of_ble_eq_true rfl) rfl (by decide) rfl rfl dX6_tellTo_64 ?_
          refine g_iload_n X dX6_tellTo_67 rfl 1 rfl ?_
          obtain ⟨b20, h⟩ := h
          refine g_iald X (Nat.le_of_ble_eq_true rfl) rfl b20 dX6_tellTo_68 ?_
          refine g_aload_n X dX6_tellTo_69 rfl 2 rfl ?_
          refine g_getr X (C := RX6) (T := TX6) (N := 10) (ci := 4) (k := 3) iX6_tellTo_X6 rfl kX6_tellTo_19 (Nat.le_of_ble_eq_true rfl) rfl (by decide) rfl rfl dX6_tellTo_70 ?_
          refine g_iload_n X dX6_tellTo_73 rfl 1 rfl ?_
          refine g_iconst X (v := 1) dX6_tellTo_74 (by decide) ?_
          refine g_iadd X dX6_tellTo_75 ?_
          obtain ⟨b21, h⟩ := h
          refine g_iald X (Nat.le_of_ble_eq_true rfl) rfl b21 dX6_tellTo_76 ?_
          refine g_aload_n X dX6_tellTo_77 rfl 2 rfl ?_
          refine g_getr X (C := RX6) (T := TX6) (N := 10) (ci := 4) (k := 3) iX6_tellTo_X6 rfl kX6_tellTo_19 (Nat.le_of_ble_eq_true rfl) rfl (by decide) rfl rfl dX6_tellTo_78 ?_
          refine g_iload_n X dX6_tellTo_81 rfl 1 rfl ?_
          refine g_iconst X (v := 2) dX6_tellTo_82 (by decide) ?_
          refine g_iadd X dX6_tellTo_83 ?_
          obtain ⟨b22, h⟩ := h
          refine g_iald X (Nat.le_of_ble_eq_true rfl) rfl b22 dX6_tellTo_84 ?_
          refine g_callVV X (As := [.int (x4 - 5), .int (I 4 (Int32.toNatClampNeg x2)), .int (I 4 (Int32.toNatClampNeg (x2 + 1))), .int (I 4 (Int32.toNatClampNeg (x2 + 2)))]) (rest := []) (T := TX1) (N := 12) (c_X1_addRoad (zl Z) (zE Z) (x4 - 5) (I 4 (Int32.toNatClampNeg x2)) (I 4 (Int32.toNatClampNeg (x2 + 1))) (I 4 (Int32.toNatClampNeg (x2 + 2)))) gX6_tellTo_X1_addRoad yo_X1_addRoad rfl ⟨Nat.le_of_ble_eq_true rfl, Nat.le_of_ble_eq_true rfl⟩ (Nat.le_of_ble_eq_true rfl) rfl rfl rfl dX6_tellTo_85 h (fun  I23 J24 h => ?_)
          refine g_goto X (tgt := 156) dX6_tellTo_88 (by decide) ?_
          obtain ⟨x25, ex25⟩ : ∃ y : Int32, y = v2 + 1 := ⟨_, rfl⟩
          have h := h x25 ex25
          refine g_iinc X (q := 4) (v := x25) (lv' := [(2, .int x25), (4, .int x4), (3, .int x2), (0, .ref (ea (zE Z) 1)), (1, .ref (ea (zE Z) 5))]) dX6_tellTo_156 rfl (by rw [ex25]; rfl) (by decide) rfl ?_
          refine g_goto X (tgt := 2) dX6_tellTo_159 (by decide) ?_
          refine GW.sub (lv' := [(0, .ref (ea (zE Z) 1)), (1, .ref (ea (zE Z) 5)), (2, .int x25)]) [3, 4, 0] rfl ?_
          exact hk2 x25 I23 J24 h
      · have h := h.2 c6
        refine g_aload_n X dX6_tellTo_40 rfl 3 rfl ?_
        refine g_iload X dX6_tellTo_41 0 rfl ?_
        refine g_iconst X (v := 1) dX6_tellTo_43 (by decide) ?_
        refine g_isub X dX6_tellTo_44 ?_
        refine g_callVV X (As := [.int (x4 - 1)]) (rest := []) (T := TX1) (N := 12) (c_X1_addPlace (zl Z) (zE Z) (x4 - 1)) gX6_tellTo_X1_addPlace yo_X1_addPlace rfl ⟨Nat.le_of_ble_eq_true rfl, Nat.le_of_ble_eq_true rfl⟩ (Nat.le_of_ble_eq_true rfl) rfl rfl rfl dX6_tellTo_45 h (fun  I26 J27 h => ?_)
        refine g_goto X (tgt := 156) dX6_tellTo_48 (by decide) ?_
        obtain ⟨x28, ex28⟩ : ∃ y : Int32, y = v2 + 1 := ⟨_, rfl⟩
        have h := h x28 ex28
        refine g_iinc X (q := 4) (v := x28) (lv' := [(2, .int x28), (4, .int x4), (3, .int x2), (0, .ref (ea (zE Z) 1)), (1, .ref (ea (zE Z) 5))]) dX6_tellTo_156 rfl (by rw [ex28]; rfl) (by decide) rfl ?_
        refine g_goto X (tgt := 2) dX6_tellTo_159 (by decide) ?_
        refine GW.sub (lv' := [(0, .ref (ea (zE Z) 1)), (1, .ref (ea (zE Z) 5)), (2, .int x28)]) [3, 4, 0] rfl ?_
        exact hk2 x28 I26 J27 h
    · have h := h.2 c5
      refine g_aload_n X dX6_tellTo_27 rfl 3 rfl ?_
      refine g_callVV X (As := []) (rest := []) (T := TX1) (N := 12) (c_X1_clear (zl Z) (zE Z) ) gX6_tellTo_X1_clear yo_X1_clear rfl ⟨Nat.le_of_ble_eq_true rfl, Nat.le_of_ble_eq_true rfl⟩ (Nat.le_of_ble_eq_true rfl) rfl rfl rfl dX6_tellTo_28 h (fun  I29 J30 h => ?_)
      refine g_goto X (tgt := 156) dX6_tellTo_31 (by decide) ?_
      obtain ⟨x31, ex31⟩ : ∃ y : Int32, y = v2 + 1 := ⟨_, rfl⟩
      have h := h x31 ex31
      refine g_iinc X (q := 4) (v := x31) (lv' := [(2, .int x31), (4, .int x4), (3, .int x2), (0, .ref (ea (zE Z) 1)), (1, .ref (ea (zE Z) 5))]) dX6_tellTo_156 rfl (by rw [ex31]; rfl) (by decide) rfl ?_
      refine g_goto X (tgt := 2) dX6_tellTo_159 (by decide) ?_
      refine GW.sub (lv' := [(0, .ref (ea (zE Z) 1)), (1, .ref (ea (zE Z) 5)), (2, .int x31)]) [3, 4, 0] rfl ?_
      exact hk2 x31 I29 J30 h
theorem w_X6_tellTo_L2 {Z : RT}  (X : Cx Z cX6_tellTo 5 RX6 wsX6_tellTo rmX6_tellTo none) {Q : MI → MJ → Prop} (R : RV Z Q)    : ∀ (n : Nat) (v2 : Int32) (I : MI) (J : MJ) (h : vc_X6_tellTo_L2  Q  n v2 I J), GW Z 5 I J 2 [(0, .ref (ea (zE Z) 1)), (1, .ref (ea (zE Z) 5)), (2, .int v2)] [] := by
  intro n
  induction n with
  | zero => intro v2 I J h; exact h.elim
  | succ n ih => intro v2 I J h; exact w_X6_tellTo_L2s X R   ih v2 I J h
def vc_X6_tellTo  (I : MI) (J : MJ) (Q : MI → MJ → Prop) : Prop := (∃ n, vc_X6_tellTo_L2  Q  n 0 I J)
set_option maxRecDepth 100000 in
set_option maxHeartbeats 4000000 in
theorem c_X6_tellTo (l : Launch) (E : ET)   : CV l yX6_tellTo wsX6_tellTo rmX6_tellTo E [.ref (ea E 1), .ref (ea E 5)] (vc_X6_tellTo ) := by
  refine CV.of (cc := cX6_tellTo) (maxL := 5) (own := RX6) (by decide) rfl rfl (Nat.le_of_ble_eq_true rfl) ?_
  intro Z I J Q hE hl X R h
  subst hE
  subst hl
  show GW Z 5 I J 0 [(0, .ref (ea (zE Z) 1)), (1, .ref (ea (zE Z) 5))] []
  refine g_iconst X (v := 0) dX6_tellTo_0 (by decide) ?_
  refine g_istore_n X (lv' := [(2, .int 0), (0, .ref (ea (zE Z) 1)), (1, .ref (ea (zE Z) 5))]) dX6_tellTo_1 rfl (by decide) rfl ?_
  refine GW.sub (lv' := [(0, .ref (ea (zE Z) 1)), (1, .ref (ea (zE Z) 5)), (2, .int 0)]) [1, 2, 0] rfl ?_
  obtain ⟨n, h⟩ := h
  exact w_X6_tellTo_L2 X R   n 0 I J h
