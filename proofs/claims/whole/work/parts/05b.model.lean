/-! X11_root.root(I)I -/
def rmX11_root : Room := { frames := 0, cells := 0, slots := 0, locals := 0 }
theorem yo_X11_root : yX11_root.cls = RX11 ∧ yX11_root.cls ≠ "java/lang/invoke/MethodHandle" ∧ yX11_root.cls ≠ "java/lang/invoke/VarHandle" ∧ (parseMethodDescriptor yX11_root.desc).map (fun d => d.parameters.length) = some 1 := by decide +kernel
def vc_X11_root_L2s  (Q : Int32 → MI → MJ → Prop)  (k2 : Int32 → Int32 → MI → MJ → Prop) (v0 : Int32) (v1 : Int32) (I : MI) (J : MJ) : Prop := ((v0 < ((v1 + 1) * (v1 + 1)) → Q v1 I J) ∧ (¬ v0 < ((v1 + 1) * (v1 + 1)) → ∀ x2 : Int32, x2 = v1 + 1 → k2 v0 x2 I J))
def vc_X11_root_L2  (Q : Int32 → MI → MJ → Prop)  (n : Nat) : Int32 → Int32 → MI → MJ → Prop := Nat.rec (fun _ _ _ _ => False) (fun _ ih => vc_X11_root_L2s  Q  ih) n
set_option maxRecDepth 100000 in
set_option maxHeartbeats 4000000 in
theorem w_X11_root_L2s {Z : RT}  (X : Cx Z cX11_root 2 RX11 wsX11_root rmX11_root (some .int)) {Q : Int32 → MI → MJ → Prop} (R : RI Z Q)    {k2 : Int32 → Int32 → MI → MJ → Prop} (hk2 : ∀ (v0 : Int32) (v1 : Int32) (I : MI) (J : MJ), k2 v0 v1 I J → GW Z 2 I J 2 [(0, .int v0), (1, .int v1)] []) (v0 : Int32) (v1 : Int32) (I : MI) (J : MJ) (h : vc_X11_root_L2s  Q  k2 v0 v1 I J) : GW Z 2 I J 2 [(0, .int v0), (1, .int v1)] [] := by
  refine g_iload_n X dX11_root_2 rfl 1 rfl ?_
  refine g_iconst X (v := 1) dX11_root_3 (by decide) ?_
  refine g_iadd X dX11_root_4 ?_
  refine g_iload_n X dX11_root_5 rfl 1 rfl ?_
  refine g_iconst X (v := 1) dX11_root_6 (by decide) ?_
  refine g_iadd X dX11_root_7 ?_
  refine g_imul X dX11_root_8 ?_
  refine g_iload_n X dX11_root_9 rfl 0 rfl ?_
  refine g_icmp_gt X (tgt := 19) dX11_root_10 (by decide) (fun c1 => ?_) (fun c1 => ?_)
  · have h := h.1 c1
    refine g_iload_n X dX11_root_19 rfl 1 rfl ?_
    exact g_iret X R dX11_root_20 h
  · have h := h.2 c1
    obtain ⟨x2, ex2⟩ : ∃ y : Int32, y = v1 + 1 := ⟨_, rfl⟩
    have h := h x2 ex2
    refine g_iinc X (q := 1) (v := x2) (lv' := [(1, .int x2), (0, .int v0)]) dX11_root_13 rfl (by rw [ex2]; rfl) (by decide) rfl ?_
    refine g_goto X (tgt := 2) dX11_root_16 (by decide) ?_
    refine GW.sub (lv' := [(0, .int v0), (1, .int x2)]) [1, 0] rfl ?_
    exact hk2 v0 x2 I J h
theorem w_X11_root_L2 {Z : RT}  (X : Cx Z cX11_root 2 RX11 wsX11_root rmX11_root (some .int)) {Q : Int32 → MI → MJ → Prop} (R : RI Z Q)    : ∀ (n : Nat) (v0 : Int32) (v1 : Int32) (I : MI) (J : MJ) (h : vc_X11_root_L2  Q  n v0 v1 I J), GW Z 2 I J 2 [(0, .int v0), (1, .int v1)] [] := by
  intro n
  induction n with
  | zero => intro v0 v1 I J h; exact h.elim
  | succ n ih => intro v0 v1 I J h; exact w_X11_root_L2s X R   ih v0 v1 I J h
def vc_X11_root (p0 : Int32) (I : MI) (J : MJ) (Q : Int32 → MI → MJ → Prop) : Prop := (∃ n, vc_X11_root_L2  Q  n p0 0 I J)
set_option maxRecDepth 100000 in
set_option maxHeartbeats 4000000 in
theorem c_X11_root (l : Launch) (E : ET)  (p0 : Int32) : CI l yX11_root wsX11_root rmX11_root E [.int p0] (vc_X11_root p0) := by
  refine CI.of (cc := cX11_root) (maxL := 2) (own := RX11) (by decide) rfl rfl (Nat.le_of_ble_eq_true rfl) ?_
  intro Z I J Q hE hl X R h
  subst hE
  subst hl
  show GW Z 2 I J 0 [(0, .int p0)] []
  refine g_iconst X (v := 0) dX11_root_0 (by decide) ?_
  refine g_istore_n X (lv' := [(1, .int 0), (0, .int p0)]) dX11_root_1 rfl (by decide) rfl ?_
  refine GW.sub (lv' := [(0, .int p0), (1, .int 0)]) [1, 0] rfl ?_
  obtain ⟨n, h⟩ := h
  exact w_X11_root_L2 X R   n p0 0 I J h

/-! X11_loses.loses(IIIIZZ)I -/
def rmX11_loses : Room := { frames := 1, cells := 0, slots := 0, locals := 22 }
theorem yo_X11_loses : yX11_loses.cls = RX11 ∧ yX11_loses.cls ≠ "java/lang/invoke/MethodHandle" ∧ yX11_loses.cls ≠ "java/lang/invoke/VarHandle" ∧ (parseMethodDescriptor yX11_loses.desc).map (fun d => d.parameters.length) = some 6 := by decide +kernel
def vc_X11_loses_B85  (Q : Int32 → MI → MJ → Prop)  (v0 : Int32) (s0 : Int32) (I : MI) (J : MJ) : Prop := ((s0 ≤ v0 → Q s0 I J) ∧ (¬ s0 ≤ v0 → Q v0 I J))
set_option maxRecDepth 100000 in
set_option maxHeartbeats 4000000 in
theorem w_X11_loses_B85 {Z : RT}  (X : Cx Z cX11_loses 7 RX11 wsX11_loses rmX11_loses (some .int)) {Q : Int32 → MI → MJ → Prop} (R : RI Z Q)    (v0 : Int32) (s0 : Int32) (I : MI) (J : MJ) (h : vc_X11_loses_B85  Q  v0 s0 I J) : GW Z 7 I J 85 [(0, .int v0)] [.int s0] := by
  refine g_istore X (lv' := [(6, .int s0), (0, .int v0)]) dX11_loses_85 (by decide) rfl ?_
  refine g_iload X dX11_loses_87 0 rfl ?_
  refine g_iload_n X dX11_loses_89 rfl 1 rfl ?_
  refine g_icmp_le X (tgt := 97) dX11_loses_90 (by decide) (fun c1 => ?_) (fun c1 => ?_)
  · have h := h.1 c1
    refine g_iload X dX11_loses_97 0 rfl ?_
    exact g_iret X R dX11_loses_99 h
  · have h := h.2 c1
    refine g_iload_n X dX11_loses_93 rfl 1 rfl ?_
    refine g_goto X (tgt := 99) dX11_loses_94 (by decide) ?_
    exact g_iret X R dX11_loses_99 h
def vc_X11_loses_B69  (Q : Int32 → MI → MJ → Prop)  (v0 : Int32) (v5 : Int32) (s0 : Int32) (I : MI) (J : MJ) : Prop := ((v5 = 0 → vc_X11_loses_B85  Q  v0 s0 I J) ∧ (¬ v5 = 0 → vc_X11_loses_B85  Q  v0 (s0 / 2) I J))
set_option maxRecDepth 100000 in
set_option maxHeartbeats 4000000 in
theorem w_X11_loses_B69 {Z : RT}  (X : Cx Z cX11_loses 7 RX11 wsX11_loses rmX11_loses (some .int)) {Q : Int32 → MI → MJ → Prop} (R : RI Z Q)    (v0 : Int32) (v5 : Int32) (s0 : Int32) (I : MI) (J : MJ) (h : vc_X11_loses_B69  Q  v0 v5 s0 I J) : GW Z 7 I J 69 [(0, .int v0), (5, .int v5)] [.int s0] := by
  refine g_istore X (lv' := [(6, .int s0), (0, .int v0), (5, .int v5)]) dX11_loses_69 (by decide) rfl ?_
  refine g_iload X dX11_loses_71 2 rfl ?_
  refine g_if_eq X (tgt := 83) dX11_loses_73 (by decide) (fun c2 => ?_) (fun c2 => ?_)
  · have h := h.1 c2
    refine g_iload X dX11_loses_83 0 rfl ?_
    refine GW.sub (lv' := [(0, .int v0)]) [1] rfl ?_
    exact w_X11_loses_B85 X R   v0 s0 I J h
  · have h := h.2 c2
    refine g_iload X dX11_loses_76 0 rfl ?_
    refine g_iconst X (v := 2) dX11_loses_78 (by decide) ?_
    refine g_idiv X dX11_loses_79 (by decide) ?_
    refine g_goto X (tgt := 85) dX11_loses_80 (by decide) ?_
    refine GW.sub (lv' := [(0, .int v0)]) [1] rfl ?_
    exact w_X11_loses_B85 X R   v0 (s0 / 2) I J h
def vc_X11_loses_B43  (Q : Int32 → MI → MJ → Prop)  (v0 : Int32) (v3 : Int32) (v5 : Int32) (s0 : Int32) (s1 : Int32) (I : MI) (J : MJ) : Prop := ∀ x3 : Int32, x3 = s0 + s1 → vc_X11_in (v3 - v3 / 24 * 24) 10 15 I J (fun (r6 : Int32) (I4 : MI) (J5 : MJ) => ((r6 = 0 → vc_X11_loses_B69  Q  v0 v5 x3 I4 J5) ∧ (¬ r6 = 0 → vc_X11_loses_B69  Q  v0 v5 (2 * x3) I4 J5)))
set_option maxRecDepth 100000 in
set_option maxHeartbeats 4000000 in
theorem w_X11_loses_B43 {Z : RT}  (X : Cx Z cX11_loses 7 RX11 wsX11_loses rmX11_loses (some .int)) {Q : Int32 → MI → MJ → Prop} (R : RI Z Q)    (v0 : Int32) (v3 : Int32) (v5 : Int32) (s0 : Int32) (s1 : Int32) (I : MI) (J : MJ) (h : vc_X11_loses_B43  Q  v0 v3 v5 s0 s1 I J) : GW Z 7 I J 43 [(0, .int v0), (3, .int v3), (5, .int v5)] [.int s1, .int s0] := by
  refine g_iadd X dX11_loses_43 ?_
  refine g_topi (fun x3 ex3 => ?_)
  have h := h x3 ex3
  refine g_istore X (lv' := [(6, .int x3), (0, .int v0), (3, .int v3), (5, .int v5)]) dX11_loses_44 (by decide) rfl ?_
  refine g_iload_n X dX11_loses_46 rfl 2 rfl ?_
  refine g_bipush X (v := 24) dX11_loses_47 (by decide) ?_
  refine g_irem X dX11_loses_49 (by decide) ?_
  refine g_bipush X (v := 10) dX11_loses_50 (by decide) ?_
  refine g_bipush X (v := 15) dX11_loses_52 (by decide) ?_
  refine g_callSI X (As := [.int (v3 - v3 / 24 * 24), .int 10, .int 15]) (rest := []) (c_X11_in (zl Z) (zE Z) (v3 - v3 / 24 * 24) 10 15) gX11_loses_X11_in yo_X11_in.2 rfl ⟨Nat.le_of_ble_eq_true rfl, Nat.le_of_ble_eq_true rfl⟩ rfl dX11_loses_54 h (fun r6 I4 J5 h => ?_)
  refine g_if_eq X (tgt := 67) dX11_loses_57 (by decide) (fun c7 => ?_) (fun c7 => ?_)
  · have h := h.1 c7
    refine g_iload X dX11_loses_67 0 rfl ?_
    refine GW.sub (lv' := [(0, .int v0), (5, .int v5)]) [1, 3] rfl ?_
    exact w_X11_loses_B69 X R   v0 v5 x3 I4 J5 h
  · have h := h.2 c7
    refine g_iconst X (v := 2) dX11_loses_60 (by decide) ?_
    refine g_iload X dX11_loses_61 0 rfl ?_
    refine g_imul X dX11_loses_63 ?_
    refine g_goto X (tgt := 69) dX11_loses_64 (by decide) ?_
    refine GW.sub (lv' := [(0, .int v0), (5, .int v5)]) [1, 3] rfl ?_
    exact w_X11_loses_B69 X R   v0 v5 (2 * x3) I4 J5 h
def vc_X11_loses_B29  (Q : Int32 → MI → MJ → Prop)  (v0 : Int32) (v3 : Int32) (v4 : Int32) (v5 : Int32) (s0 : Int32) (I : MI) (J : MJ) : Prop := ((v4 = 0 → vc_X11_loses_B43  Q  v0 v3 v5 s0 0 I J) ∧ (¬ v4 = 0 → vc_X11_loses_B43  Q  v0 v3 v5 s0 2 I J))
set_option maxRecDepth 100000 in
set_option maxHeartbeats 4000000 in
theorem w_X11_loses_B29 {Z : RT}  (X : Cx Z cX11_loses 7 RX11 wsX11_loses rmX11_loses (some .int)) {Q : Int32 → MI → MJ → Prop} (R : RI Z Q)    (v0 : Int32) (v3 : Int32) (v4 : Int32) (v5 : Int32) (s0 : Int32) (I : MI) (J : MJ) (h : vc_X11_loses_B29  Q  v0 v3 v4 v5 s0 I J) : GW Z 7 I J 29 [(0, .int v0), (3, .int v3), (4, .int v4), (5, .int v5)] [.int s0] := by
  refine g_istore X (lv' := [(6, .int s0), (0, .int v0), (3, .int v3), (4, .int v4), (5, .int v5)]) dX11_loses_29 (by decide) rfl ?_
  refine g_iload X dX11_loses_31 0 rfl ?_
  refine g_iload X dX11_loses_33 3 rfl ?_
  refine g_if_eq X (tgt := 42) dX11_loses_35 (by decide) (fun c8 => ?_) (fun c8 => ?_)
  · have h := h.1 c8
    refine g_iconst X (v := 0) dX11_loses_42 (by decide) ?_
    refine GW.sub (lv' := [(0, .int v0), (3, .int v3), (5, .int v5)]) [1, 2, 4] rfl ?_
    exact w_X11_loses_B43 X R   v0 v3 v5 s0 0 I J h
  · have h := h.2 c8
    refine g_iconst X (v := 2) dX11_loses_38 (by decide) ?_
    refine g_goto X (tgt := 43) dX11_loses_39 (by decide) ?_
    refine GW.sub (lv' := [(0, .int v0), (3, .int v3), (5, .int v5)]) [1, 2, 4] rfl ?_
    exact w_X11_loses_B43 X R   v0 v3 v5 s0 2 I J h
def vc_X11_loses (p0 : Int32) (p1 : Int32) (p2 : Int32) (p3 : Int32) (p4 : Int32) (p5 : Int32) (I : MI) (J : MJ) (Q : Int32 → MI → MJ → Prop) : Prop := ((¬ p0 = 0 → vc_X11_root p0 I J (fun (r12 : Int32) (I10 : MI) (J11 : MJ) => ∀ x13 : Int32, x13 = ((r12 + 1) - p1) - p2 → ((0 ≤ x13 → vc_X11_loses_B29  Q  p0 p3 p4 p5 x13 I10 J11) ∧ (¬ 0 ≤ x13 → vc_X11_loses_B29  Q  p0 p3 p4 p5 0 I10 J11)))) ∧ (p0 = 0 → Q 0 I J))
set_option maxRecDepth 100000 in
set_option maxHeartbeats 4000000 in
theorem c_X11_loses (l : Launch) (E : ET)  (p0 : Int32) (p1 : Int32) (p2 : Int32) (p3 : Int32) (p4 : Int32) (p5 : Int32) : CI l yX11_loses wsX11_loses rmX11_loses E [.int p0, .int p1, .int p2, .int p3, .int p4, .int p5] (vc_X11_loses p0 p1 p2 p3 p4 p5) := by
  refine CI.of (cc := cX11_loses) (maxL := 7) (own := RX11) (by decide) rfl rfl (Nat.le_of_ble_eq_true rfl) ?_
  intro Z I J Q hE hl X R h
  subst hE
  subst hl
  show GW Z 7 I J 0 [(0, .int p0), (1, .int p1), (2, .int p2), (3, .int p3), (4, .int p4), (5, .int p5)] []
  refine g_iload_n X dX11_loses_0 rfl 0 rfl ?_
  refine g_if_ne X (tgt := 6) dX11_loses_1 (by decide) (fun c9 => ?_) (fun c9 => ?_)
  · have h := h.1 c9
    refine g_iload_n X dX11_loses_6 rfl 0 rfl ?_
    refine g_callSI X (As := [.int p0]) (rest := []) (c_X11_root (zl Z) (zE Z) p0) gX11_loses_X11_root yo_X11_root.2 rfl ⟨Nat.le_of_ble_eq_true rfl, Nat.le_of_ble_eq_true rfl⟩ rfl dX11_loses_7 h (fun r12 I10 J11 h => ?_)
    refine g_iconst X (v := 1) dX11_loses_10 (by decide) ?_
    refine g_iadd X dX11_loses_11 ?_
    refine g_iload_n X dX11_loses_12 rfl 1 rfl ?_
    refine g_isub X dX11_loses_13 ?_
    refine g_iload_n X dX11_loses_14 rfl 2 rfl ?_
    refine g_isub X dX11_loses_15 ?_
    refine g_topi (fun x13 ex13 => ?_)
    have h := h x13 ex13
    refine g_istore X (lv' := [(6, .int x13), (0, .int p0), (1, .int p1), (2, .int p2), (3, .int p3), (4, .int p4), (5, .int p5)]) dX11_loses_16 (by decide) rfl ?_
    refine g_iload X dX11_loses_18 0 rfl ?_
    refine g_if_ge X (tgt := 27) dX11_loses_20 (by decide) (fun c14 => ?_) (fun c14 => ?_)
    · have h := h.1 c14
      refine g_iload X dX11_loses_27 0 rfl ?_
      refine GW.sub (lv' := [(0, .int p0), (3, .int p3), (4, .int p4), (5, .int p5)]) [1, 4, 5, 6] rfl ?_
      exact w_X11_loses_B29 X R   p0 p3 p4 p5 x13 I10 J11 h
    · have h := h.2 c14
      refine g_iconst X (v := 0) dX11_loses_23 (by decide) ?_
      refine g_goto X (tgt := 29) dX11_loses_24 (by decide) ?_
      refine GW.sub (lv' := [(0, .int p0), (3, .int p3), (4, .int p4), (5, .int p5)]) [1, 4, 5, 6] rfl ?_
      exact w_X11_loses_B29 X R   p0 p3 p4 p5 0 I10 J11 h
  · have h := h.2 c9
    refine g_iconst X (v := 0) dX11_loses_4 (by decide) ?_
    exact g_iret X R dX11_loses_5 h

/-! X11_isWarm.isWarm(I)Z -/
def rmX11_isWarm : Room := { frames := 0, cells := 0, slots := 0, locals := 0 }
theorem yo_X11_isWarm : yX11_isWarm.cls = RX11 ∧ yX11_isWarm.cls ≠ "java/lang/invoke/MethodHandle" ∧ yX11_isWarm.cls ≠ "java/lang/invoke/VarHandle" ∧ (parseMethodDescriptor yX11_isWarm.desc).map (fun d => d.parameters.length) = some 1 := by decide +kernel
theorem kX11_isWarm_197 : Cond.fieldLink RX11 197 "SnowCourseModel" (TX11 6).2.1 (TX11 6).2.2.1 ∈ wsX11_isWarm := by decide +kernel
theorem iX11_isWarm_X11 : ∀ w ∈ u_ws RX11 TX11 39, w ∈ wsX11_isWarm := by decide +kernel
def vc_X11_isWarm (p1 : Int32) (I : MI) (J : MJ) (Q : Int32 → MI → MJ → Prop) : Prop := ((48 ≤ p1 → Q 0 I J) ∧ (¬ 48 ≤ p1 → ((¬ (lg_cmp (((J 87 6) >>> (Int32.toInt64 p1 &&& 63)) &&& 1) 1) = 0 → Q 0 I J) ∧ ((lg_cmp (((J 87 6) >>> (Int32.toInt64 p1 &&& 63)) &&& 1) 1) = 0 → Q 1 I J))))
set_option maxRecDepth 100000 in
set_option maxHeartbeats 4000000 in
theorem c_X11_isWarm (l : Launch) (E : ET)  (p1 : Int32) : CI l yX11_isWarm wsX11_isWarm rmX11_isWarm E [.ref (ea E 87), .int p1] (vc_X11_isWarm p1) := by
  refine CI.of (cc := cX11_isWarm) (maxL := 2) (own := RX11) (by decide) rfl rfl (Nat.le_of_ble_eq_true rfl) ?_
  intro Z I J Q hE hl X R h
  subst hE
  subst hl
  show GW Z 2 I J 0 [(0, .ref (ea (zE Z) 87)), (1, .int p1)] []
  refine g_iload_n X dX11_isWarm_0 rfl 1 rfl ?_
  refine g_bipush X (v := 48) dX11_isWarm_1 (by decide) ?_
  refine g_icmp_ge X (tgt := 23) dX11_isWarm_3 (by decide) (fun c1 => ?_) (fun c1 => ?_)
  · have h := h.1 c1
    refine g_iconst X (v := 0) dX11_isWarm_23 (by decide) ?_
    exact g_zret X R (by decide) dX11_isWarm_24 h
  · have h := h.2 c1
    refine g_aload_n X dX11_isWarm_6 rfl 0 rfl ?_
    refine g_getl X (C := RX11) (T := TX11) (N := 39) (ci := 9) (k := 6) iX11_isWarm_X11 rfl kX11_isWarm_197 (Nat.le_of_ble_eq_true rfl) rfl (by decide) rfl rfl dX11_isWarm_7 ?_
    refine g_iload_n X dX11_isWarm_10 rfl 1 rfl ?_
    refine g_lshr X dX11_isWarm_11 ?_
    refine g_lconst X (v := 1) dX11_isWarm_12 (by decide) ?_
    refine g_land X dX11_isWarm_13 ?_
    refine g_lconst X (v := 1) dX11_isWarm_14 (by decide) ?_
    refine g_lcmp X dX11_isWarm_15 ?_
    refine g_if_ne X (tgt := 23) dX11_isWarm_16 (by decide) (fun c2 => ?_) (fun c2 => ?_)
    · have h := h.1 c2
      refine g_iconst X (v := 0) dX11_isWarm_23 (by decide) ?_
      exact g_zret X R (by decide) dX11_isWarm_24 h
    · have h := h.2 c2
      refine g_iconst X (v := 1) dX11_isWarm_19 (by decide) ?_
      refine g_goto X (tgt := 24) dX11_isWarm_20 (by decide) ?_
      exact g_zret X R (by decide) dX11_isWarm_24 h

/-! X11_restedBy.restedBy(IIIII)I -/
def rmX11_restedBy : Room := { frames := 2, cells := 0, slots := 0, locals := 48 }
theorem yo_X11_restedBy : yX11_restedBy.cls = RX11 ∧ yX11_restedBy.cls ≠ "java/lang/invoke/MethodHandle" ∧ yX11_restedBy.cls ≠ "java/lang/invoke/VarHandle" ∧ (parseMethodDescriptor yX11_restedBy.desc).map (fun d => d.parameters.length) = some 5 := by decide +kernel
theorem kX11_restedBy_7 : Cond.fieldLink RX11 7 "SnowCourseModel" (TX11 1).2.1 (TX11 1).2.2.1 ∈ wsX11_restedBy := by decide +kernel
theorem iX11_restedBy_X11 : ∀ w ∈ u_ws RX11 TX11 39, w ∈ wsX11_restedBy := by decide +kernel
def vc_X11_restedBy (p1 : Int32) (p2 : Int32) (p3 : Int32) (p4 : Int32) (p5 : Int32) (I : MI) (J : MJ) (Q : Int32 → MI → MJ → Prop) : Prop := vp_in p5 7 ∧ ((¬ (I 88 (Int32.toNatClampNeg p5)) = 2 → vc_X11_isWarm p4 I J (fun (r5 : Int32) (I3 : MI) (J4 : MJ) => vc_X11_loses p1 p2 p3 p4 r5 0 I3 J4 (fun (r8 : Int32) (I6 : MI) (J7 : MJ) => Q (p1 - r8) I6 J7))) ∧ ((I 88 (Int32.toNatClampNeg p5)) = 2 → Q p1 I J))
set_option maxRecDepth 100000 in
set_option maxHeartbeats 4000000 in
theorem c_X11_restedBy (l : Launch) (E : ET)  (p1 : Int32) (p2 : Int32) (p3 : Int32) (p4 : Int32) (p5 : Int32) : CI l yX11_restedBy wsX11_restedBy rmX11_restedBy E [.ref (ea E 87), .int p1, .int p2, .int p3, .int p4, .int p5] (vc_X11_restedBy p1 p2 p3 p4 p5) := by
  refine CI.of (cc := cX11_restedBy) (maxL := 6) (own := RX11) (by decide) rfl rfl (Nat.le_of_ble_eq_true rfl) ?_
  intro Z I J Q hE hl X R h
  subst hE
  subst hl
  show GW Z 6 I J 0 [(0, .ref (ea (zE Z) 87)), (1, .int p1), (2, .int p2), (3, .int p3), (4, .int p4), (5, .int p5)] []
  refine g_aload_n X dX11_restedBy_0 rfl 0 rfl ?_
  refine g_getr X (C := RX11) (T := TX11) (N := 39) (ci := 9) (k := 1) iX11_restedBy_X11 rfl kX11_restedBy_7 (Nat.le_of_ble_eq_true rfl) rfl (by decide) rfl rfl dX11_restedBy_1 ?_
  refine g_iload X dX11_restedBy_4 5 rfl ?_
  obtain ⟨b1, h⟩ := h
  refine g_iald X (Nat.le_of_ble_eq_true rfl) rfl b1 dX11_restedBy_6 ?_
  refine g_iconst X (v := 2) dX11_restedBy_7 (by decide) ?_
  refine g_icmp_ne X (tgt := 15) dX11_restedBy_8 (by decide) (fun c2 => ?_) (fun c2 => ?_)
  · have h := h.1 c2
    refine g_iload_n X dX11_restedBy_15 rfl 1 rfl ?_
    refine g_iload_n X dX11_restedBy_16 rfl 1 rfl ?_
    refine g_iload_n X dX11_restedBy_17 rfl 2 rfl ?_
    refine g_iload_n X dX11_restedBy_18 rfl 3 rfl ?_
    refine g_iload X dX11_restedBy_19 4 rfl ?_
    refine g_aload_n X dX11_restedBy_21 rfl 0 rfl ?_
    refine g_iload X dX11_restedBy_22 4 rfl ?_
    refine g_callVI X (As := [.int p4]) (rest := [.int p4, .int p3, .int p2, .int p1, .int p1]) (T := TX11) (N := 39) (c_X11_isWarm (zl Z) (zE Z) p4) gX11_restedBy_X11_isWarm yo_X11_isWarm rfl ⟨Nat.le_of_ble_eq_true rfl, Nat.le_of_ble_eq_true rfl⟩ (Nat.le_of_ble_eq_true rfl) rfl rfl rfl dX11_restedBy_24 h (fun r5 I3 J4 h => ?_)
    refine g_iconst X (v := 0) dX11_restedBy_27 (by decide) ?_
    refine g_callSI X (As := [.int p1, .int p2, .int p3, .int p4, .int r5, .int 0]) (rest := [.int p1]) (c_X11_loses (zl Z) (zE Z) p1 p2 p3 p4 r5 0) gX11_restedBy_X11_loses yo_X11_loses.2 rfl ⟨Nat.le_of_ble_eq_true rfl, Nat.le_of_ble_eq_true rfl⟩ rfl dX11_restedBy_28 h (fun r8 I6 J7 h => ?_)
    refine g_isub X dX11_restedBy_31 ?_
    exact g_iret X R dX11_restedBy_32 h
  · have h := h.2 c2
    refine g_iload_n X dX11_restedBy_11 rfl 1 rfl ?_
    refine g_goto X (tgt := 32) dX11_restedBy_12 (by decide) ?_
    exact g_iret X R dX11_restedBy_32 h

/-! X11_comesBy.comesBy(IIIII)I -/
def rmX11_comesBy : Room := { frames := 2, cells := 0, slots := 0, locals := 48 }
theorem yo_X11_comesBy : yX11_comesBy.cls = RX11 ∧ yX11_comesBy.cls ≠ "java/lang/invoke/MethodHandle" ∧ yX11_comesBy.cls ≠ "java/lang/invoke/VarHandle" ∧ (parseMethodDescriptor yX11_comesBy.desc).map (fun d => d.parameters.length) = some 5 := by decide +kernel
theorem kX11_comesBy_13 : Cond.fieldLink RX11 13 "SnowCourseModel" (TX11 3).2.1 (TX11 3).2.2.1 ∈ wsX11_comesBy := by decide +kernel
theorem iX11_comesBy_X11 : ∀ w ∈ u_ws RX11 TX11 39, w ∈ wsX11_comesBy := by decide +kernel
def vc_X11_comesBy_B61  (Q : Int32 → MI → MJ → Prop) (k6 : Int32 → Int32 → Int32 → Int32 → Int32 → Int32 → MI → MJ → Prop) (v1 : Int32) (v3 : Int32) (v4 : Int32) (v5 : Int32) (v7 : Int32) (s0 : Int32) (s1 : Int32) (s2 : Int32) (s3 : Int32) (s4 : Int32) (s5 : Int32) (s6 : Int32) (I : MI) (J : MJ) : Prop := vc_X11_loses s1 s2 s3 s4 s5 s6 I J (fun (r3 : Int32) (I1 : MI) (J2 : MJ) => ∀ x4 : Int32, x4 = s0 - r3 → ∀ x5 : Int32, x5 = v7 + 1 → k6 v1 v3 v4 v5 x4 x5 I1 J2)
set_option maxRecDepth 100000 in
set_option maxHeartbeats 4000000 in
theorem w_X11_comesBy_B61 {Z : RT}  (X : Cx Z cX11_comesBy 8 RX11 wsX11_comesBy rmX11_comesBy (some .int)) {Q : Int32 → MI → MJ → Prop} (R : RI Z Q)  {k6 : Int32 → Int32 → Int32 → Int32 → Int32 → Int32 → MI → MJ → Prop} (hk6 : ∀ (v1 : Int32) (v3 : Int32) (v4 : Int32) (v5 : Int32) (v6 : Int32) (v7 : Int32) (I : MI) (J : MJ), k6 v1 v3 v4 v5 v6 v7 I J → GW Z 8 I J 6 [(0, .ref (ea (zE Z) 87)), (1, .int v1), (3, .int v3), (4, .int v4), (5, .int v5), (6, .int v6), (7, .int v7)] []) (v1 : Int32) (v3 : Int32) (v4 : Int32) (v5 : Int32) (v7 : Int32) (s0 : Int32) (s1 : Int32) (s2 : Int32) (s3 : Int32) (s4 : Int32) (s5 : Int32) (s6 : Int32) (I : MI) (J : MJ) (h : vc_X11_comesBy_B61  Q k6 v1 v3 v4 v5 v7 s0 s1 s2 s3 s4 s5 s6 I J) : GW Z 8 I J 61 [(0, .ref (ea (zE Z) 87)), (1, .int v1), (3, .int v3), (4, .int v4), (5, .int v5), (7, .int v7)] [.int s6, .int s5, .int s4, .int s3, .int s2, .int s1, .int s0] := by
  refine g_callSI X (As := [.int s1, .int s2, .int s3, .int s4, .int s5, .int s6]) (rest := [.int s0]) (c_X11_loses (zl Z) (zE Z) s1 s2 s3 s4 s5 s6) gX11_comesBy_X11_loses yo_X11_loses.2 rfl ⟨Nat.le_of_ble_eq_true rfl, Nat.le_of_ble_eq_true rfl⟩ rfl dX11_comesBy_61 h (fun r3 I1 J2 h => ?_)
  refine g_isub X dX11_comesBy_64 ?_
  refine g_topi (fun x4 ex4 => ?_)
  have h := h x4 ex4
  refine g_istore X (lv' := [(6, .int x4), (0, .ref (ea (zE Z) 87)), (1, .int v1), (3, .int v3), (4, .int v4), (5, .int v5), (7, .int v7)]) dX11_comesBy_65 (by decide) rfl ?_
  obtain ⟨x5, ex5⟩ : ∃ y : Int32, y = v7 + 1 := ⟨_, rfl⟩
  have h := h x5 ex5
  refine g_iinc X (q := 6) (v := x5) (lv' := [(7, .int x5), (6, .int x4), (0, .ref (ea (zE Z) 87)), (1, .int v1), (3, .int v3), (4, .int v4), (5, .int v5)]) dX11_comesBy_67 rfl (by rw [ex5]; rfl) (by decide) rfl ?_
  refine g_goto X (tgt := 6) dX11_comesBy_70 (by decide) ?_
  refine GW.sub (lv' := [(0, .ref (ea (zE Z) 87)), (1, .int v1), (3, .int v3), (4, .int v4), (5, .int v5), (6, .int x4), (7, .int x5)]) [2, 3, 4, 5, 6, 1, 0] rfl ?_
  exact hk6 v1 v3 v4 v5 x4 x5 I1 J2 h
def vc_X11_comesBy_L6s  (Q : Int32 → MI → MJ → Prop)  (k6 : Int32 → Int32 → Int32 → Int32 → Int32 → Int32 → MI → MJ → Prop) (v1 : Int32) (v3 : Int32) (v4 : Int32) (v5 : Int32) (v6 : Int32) (v7 : Int32) (I : MI) (J : MJ) : Prop := vp_in ((4 * v1) + 2) 36 ∧ (((I 89 (Int32.toNatClampNeg ((4 * v1) + 2))) ≤ v7 → vp_in ((4 * v1) + 3) 36 ∧ ((¬ (I 89 (Int32.toNatClampNeg ((4 * v1) + 3))) = 2 → Q v6 I J) ∧ ((I 89 (Int32.toNatClampNeg ((4 * v1) + 3))) = 2 → Q (v6 - (v6 / 10)) I J))) ∧ (¬ (I 89 (Int32.toNatClampNeg ((4 * v1) + 2))) ≤ v7 → vc_X11_isWarm (v5 + v7) I J (fun (r12 : Int32) (I10 : MI) (J11 : MJ) => vp_in ((4 * v1) + 3) 36 ∧ ((¬ (I10 89 (Int32.toNatClampNeg ((4 * v1) + 3))) = 1 → vc_X11_comesBy_B61  Q k6 v1 v3 v4 v5 v7 v6 v6 v3 v4 (v5 + v7) r12 0 I10 J11) ∧ ((I10 89 (Int32.toNatClampNeg ((4 * v1) + 3))) = 1 → vc_X11_comesBy_B61  Q k6 v1 v3 v4 v5 v7 v6 v6 v3 v4 (v5 + v7) r12 1 I10 J11)))))
def vc_X11_comesBy_L6  (Q : Int32 → MI → MJ → Prop)  (n : Nat) : Int32 → Int32 → Int32 → Int32 → Int32 → Int32 → MI → MJ → Prop := Nat.rec (fun _ _ _ _ _ _ _ _ => False) (fun _ ih => vc_X11_comesBy_L6s  Q  ih) n
set_option maxRecDepth 100000 in
set_option maxHeartbeats 4000000 in
theorem w_X11_comesBy_L6s {Z : RT}  (X : Cx Z cX11_comesBy 8 RX11 wsX11_comesBy rmX11_comesBy (some .int)) {Q : Int32 → MI → MJ → Prop} (R : RI Z Q)    {k6 : Int32 → Int32 → Int32 → Int32 → Int32 → Int32 → MI → MJ → Prop} (hk6 : ∀ (v1 : Int32) (v3 : Int32) (v4 : Int32) (v5 : Int32) (v6 : Int32) (v7 : Int32) (I : MI) (J : MJ), k6 v1 v3 v4 v5 v6 v7 I J → GW Z 8 I J 6 [(0, .ref (ea (zE Z) 87)), (1, .int v1), (3, .int v3), (4, .int v4), (5, .int v5), (6, .int v6), (7, .int v7)] []) (v1 : Int32) (v3 : Int32) (v4 : Int32) (v5 : Int32) (v6 : Int32) (v7 : Int32) (I : MI) (J : MJ) (h : vc_X11_comesBy_L6s  Q  k6 v1 v3 v4 v5 v6 v7 I J) : GW Z 8 I J 6 [(0, .ref (ea (zE Z) 87)), (1, .int v1), (3, .int v3), (4, .int v4), (5, .int v5), (6, .int v6), (7, .int v7)] [] := by
  refine g_iload X dX11_comesBy_6 6 rfl ?_
  refine g_aload_n X dX11_comesBy_8 rfl 0 rfl ?_
  refine g_getr X (C := RX11) (T := TX11) (N := 39) (ci := 9) (k := 3) iX11_comesBy_X11 rfl kX11_comesBy_13 (Nat.le_of_ble_eq_true rfl) rfl (by decide) rfl rfl dX11_comesBy_9 ?_
  refine g_iconst X (v := 4) dX11_comesBy_12 (by decide) ?_
  refine g_iload_n X dX11_comesBy_13 rfl 1 rfl ?_
  refine g_imul X dX11_comesBy_14 ?_
  refine g_iconst X (v := 2) dX11_comesBy_15 (by decide) ?_
  refine g_iadd X dX11_comesBy_16 ?_
  obtain ⟨b6, h⟩ := h
  refine g_iald X (Nat.le_of_ble_eq_true rfl) rfl b6 dX11_comesBy_17 ?_
  refine g_icmp_ge X (tgt := 73) dX11_comesBy_18 (by decide) (fun c7 => ?_) (fun c7 => ?_)
  · have h := h.1 c7
    refine g_aload_n X dX11_comesBy_73 rfl 0 rfl ?_
    refine g_getr X (C := RX11) (T := TX11) (N := 39) (ci := 9) (k := 3) iX11_comesBy_X11 rfl kX11_comesBy_13 (Nat.le_of_ble_eq_true rfl) rfl (by decide) rfl rfl dX11_comesBy_74 ?_
    refine g_iconst X (v := 4) dX11_comesBy_77 (by decide) ?_
    refine g_iload_n X dX11_comesBy_78 rfl 1 rfl ?_
    refine g_imul X dX11_comesBy_79 ?_
    refine g_iconst X (v := 3) dX11_comesBy_80 (by decide) ?_
    refine g_iadd X dX11_comesBy_81 ?_
    obtain ⟨b8, h⟩ := h
    refine g_iald X (Nat.le_of_ble_eq_true rfl) rfl b8 dX11_comesBy_82 ?_
    refine g_iconst X (v := 2) dX11_comesBy_83 (by decide) ?_
    refine g_icmp_ne X (tgt := 98) dX11_comesBy_84 (by decide) (fun c9 => ?_) (fun c9 => ?_)
    · have h := h.1 c9
      refine g_iload X dX11_comesBy_98 5 rfl ?_
      exact g_iret X R dX11_comesBy_100 h
    · have h := h.2 c9
      refine g_iload X dX11_comesBy_87 5 rfl ?_
      refine g_iload X dX11_comesBy_89 5 rfl ?_
      refine g_bipush X (v := 10) dX11_comesBy_91 (by decide) ?_
      refine g_idiv X dX11_comesBy_93 (by decide) ?_
      refine g_isub X dX11_comesBy_94 ?_
      refine g_goto X (tgt := 100) dX11_comesBy_95 (by decide) ?_
      exact g_iret X R dX11_comesBy_100 h
  · have h := h.2 c7
    refine g_iload X dX11_comesBy_21 5 rfl ?_
    refine g_iload X dX11_comesBy_23 5 rfl ?_
    refine g_iload_n X dX11_comesBy_25 rfl 2 rfl ?_
    refine g_iload X dX11_comesBy_26 3 rfl ?_
    refine g_iload X dX11_comesBy_28 4 rfl ?_
    refine g_iload X dX11_comesBy_30 6 rfl ?_
    refine g_iadd X dX11_comesBy_32 ?_
    refine g_aload_n X dX11_comesBy_33 rfl 0 rfl ?_
    refine g_iload X dX11_comesBy_34 4 rfl ?_
    refine g_iload X dX11_comesBy_36 6 rfl ?_
    refine g_iadd X dX11_comesBy_38 ?_
    refine g_callVI X (As := [.int (v5 + v7)]) (rest := [.int (v5 + v7), .int v4, .int v3, .int v6, .int v6]) (T := TX11) (N := 39) (c_X11_isWarm (zl Z) (zE Z) (v5 + v7)) gX11_comesBy_X11_isWarm yo_X11_isWarm rfl ⟨Nat.le_of_ble_eq_true rfl, Nat.le_of_ble_eq_true rfl⟩ (Nat.le_of_ble_eq_true rfl) rfl rfl rfl dX11_comesBy_39 h (fun r12 I10 J11 h => ?_)
    refine g_aload_n X dX11_comesBy_42 rfl 0 rfl ?_
    refine g_getr X (C := RX11) (T := TX11) (N := 39) (ci := 9) (k := 3) iX11_comesBy_X11 rfl kX11_comesBy_13 (Nat.le_of_ble_eq_true rfl) rfl (by decide) rfl rfl dX11_comesBy_43 ?_
    refine g_iconst X (v := 4) dX11_comesBy_46 (by decide) ?_
    refine g_iload_n X dX11_comesBy_47 rfl 1 rfl ?_
    refine g_imul X dX11_comesBy_48 ?_
    refine g_iconst X (v := 3) dX11_comesBy_49 (by decide) ?_
    refine g_iadd X dX11_comesBy_50 ?_
    obtain ⟨b13, h⟩ := h
    refine g_iald X (Nat.le_of_ble_eq_true rfl) rfl b13 dX11_comesBy_51 ?_
    refine g_iconst X (v := 1) dX11_comesBy_52 (by decide) ?_
    refine g_icmp_ne X (tgt := 60) dX11_comesBy_53 (by decide) (fun c14 => ?_) (fun c14 => ?_)
    · have h := h.1 c14
      refine g_iconst X (v := 0) dX11_comesBy_60 (by decide) ?_
      refine GW.sub (lv' := [(0, .ref (ea (zE Z) 87)), (1, .int v1), (3, .int v3), (4, .int v4), (5, .int v5), (7, .int v7)]) [0, 1, 2, 3, 4, 6] rfl ?_
      exact w_X11_comesBy_B61 X R  hk6 v1 v3 v4 v5 v7 v6 v6 v3 v4 (v5 + v7) r12 0 I10 J11 h
    · have h := h.2 c14
      refine g_iconst X (v := 1) dX11_comesBy_56 (by decide) ?_
      refine g_goto X (tgt := 61) dX11_comesBy_57 (by decide) ?_
      refine GW.sub (lv' := [(0, .ref (ea (zE Z) 87)), (1, .int v1), (3, .int v3), (4, .int v4), (5, .int v5), (7, .int v7)]) [0, 1, 2, 3, 4, 6] rfl ?_
      exact w_X11_comesBy_B61 X R  hk6 v1 v3 v4 v5 v7 v6 v6 v3 v4 (v5 + v7) r12 1 I10 J11 h
theorem w_X11_comesBy_L6 {Z : RT}  (X : Cx Z cX11_comesBy 8 RX11 wsX11_comesBy rmX11_comesBy (some .int)) {Q : Int32 → MI → MJ → Prop} (R : RI Z Q)    : ∀ (n : Nat) (v1 : Int32) (v3 : Int32) (v4 : Int32) (v5 : Int32) (v6 : Int32) (v7 : Int32) (I : MI) (J : MJ) (h : vc_X11_comesBy_L6  Q  n v1 v3 v4 v5 v6 v7 I J), GW Z 8 I J 6 [(0, .ref (ea (zE Z) 87)), (1, .int v1), (3, .int v3), (4, .int v4), (5, .int v5), (6, .int v6), (7, .int v7)] [] := by
  intro n
  induction n with
  | zero => intro v1 v3 v4 v5 v6 v7 I J h; exact h.elim
  | succ n ih => intro v1 v3 v4 v5 v6 v7 I J h; exact w_X11_comesBy_L6s X R   ih v1 v3 v4 v5 v6 v7 I J h
def vc_X11_comesBy (p1 : Int32) (p2 : Int32) (p3 : Int32) (p4 : Int32) (p5 : Int32) (I : MI) (J : MJ) (Q : Int32 → MI → MJ → Prop) : Prop := (∃ n, vc_X11_comesBy_L6  Q  n p1 p3 p4 p5 p2 0 I J)
set_option maxRecDepth 100000 in
set_option maxHeartbeats 4000000 in
theorem c_X11_comesBy (l : Launch) (E : ET)  (p1 : Int32) (p2 : Int32) (p3 : Int32) (p4 : Int32) (p5 : Int32) : CI l yX11_comesBy wsX11_comesBy rmX11_comesBy E [.ref (ea E 87), .int p1, .int p2, .int p3, .int p4, .int p5] (vc_X11_comesBy p1 p2 p3 p4 p5) := by
  refine CI.of (cc := cX11_comesBy) (maxL := 8) (own := RX11) (by decide) rfl rfl (Nat.le_of_ble_eq_true rfl) ?_
  intro Z I J Q hE hl X R h
  subst hE
  subst hl
  show GW Z 8 I J 0 [(0, .ref (ea (zE Z) 87)), (1, .int p1), (2, .int p2), (3, .int p3), (4, .int p4), (5, .int p5)] []
  refine g_iload_n X dX11_comesBy_0 rfl 2 rfl ?_
  refine g_istore X (lv' := [(6, .int p2), (0, .ref (ea (zE Z) 87)), (1, .int p1), (2, .int p2), (3, .int p3), (4, .int p4), (5, .int p5)]) dX11_comesBy_1 (by decide) rfl ?_
  refine g_iconst X (v := 0) dX11_comesBy_3 (by decide) ?_
  refine g_istore X (lv' := [(7, .int 0), (6, .int p2), (0, .ref (ea (zE Z) 87)), (1, .int p1), (2, .int p2), (3, .int p3), (4, .int p4), (5, .int p5)]) dX11_comesBy_4 (by decide) rfl ?_
  refine GW.sub (lv' := [(0, .ref (ea (zE Z) 87)), (1, .int p1), (3, .int p3), (4, .int p4), (5, .int p5), (6, .int p2), (7, .int 0)]) [2, 3, 5, 6, 7, 1, 0] rfl ?_
  obtain ⟨n, h⟩ := h
  exact w_X11_comesBy_L6 X R   n p1 p3 p4 p5 p2 0 I J h

/-! X11_endOf.endOf(II)I -/
def rmX11_endOf : Room := { frames := 0, cells := 0, slots := 0, locals := 0 }
theorem yo_X11_endOf : yX11_endOf.cls = RX11 ∧ yX11_endOf.cls ≠ "java/lang/invoke/MethodHandle" ∧ yX11_endOf.cls ≠ "java/lang/invoke/VarHandle" ∧ (parseMethodDescriptor yX11_endOf.desc).map (fun d => d.parameters.length) = some 2 := by decide +kernel
theorem kX11_endOf_13 : Cond.fieldLink RX11 13 "SnowCourseModel" (TX11 3).2.1 (TX11 3).2.2.1 ∈ wsX11_endOf := by decide +kernel
theorem iX11_endOf_X11 : ∀ w ∈ u_ws RX11 TX11 39, w ∈ wsX11_endOf := by decide +kernel
def vc_X11_endOf (p1 : Int32) (p2 : Int32) (I : MI) (J : MJ) (Q : Int32 → MI → MJ → Prop) : Prop := vp_in (4 * p1) 36 ∧ ((¬ (I 89 (Int32.toNatClampNeg (4 * p1))) = p2 → vp_in ((4 * p1) + 1) 36 ∧ ((¬ (I 89 (Int32.toNatClampNeg ((4 * p1) + 1))) = p2 → Q (-1) I J) ∧ ((I 89 (Int32.toNatClampNeg ((4 * p1) + 1))) = p2 → vp_in (4 * p1) 36 ∧ Q (I 89 (Int32.toNatClampNeg (4 * p1))) I J))) ∧ ((I 89 (Int32.toNatClampNeg (4 * p1))) = p2 → vp_in ((4 * p1) + 1) 36 ∧ Q (I 89 (Int32.toNatClampNeg ((4 * p1) + 1))) I J))
set_option maxRecDepth 100000 in
set_option maxHeartbeats 4000000 in
theorem c_X11_endOf (l : Launch) (E : ET)  (p1 : Int32) (p2 : Int32) : CI l yX11_endOf wsX11_endOf rmX11_endOf E [.ref (ea E 87), .int p1, .int p2] (vc_X11_endOf p1 p2) := by
  refine CI.of (cc := cX11_endOf) (maxL := 3) (own := RX11) (by decide) rfl rfl (Nat.le_of_ble_eq_true rfl) ?_
  intro Z I J Q hE hl X R h
  subst hE
  subst hl
  show GW Z 3 I J 0 [(0, .ref (ea (zE Z) 87)), (1, .int p1), (2, .int p2)] []
  refine g_aload_n X dX11_endOf_0 rfl 0 rfl ?_
  refine g_getr X (C := RX11) (T := TX11) (N := 39) (ci := 9) (k := 3) iX11_endOf_X11 rfl kX11_endOf_13 (Nat.le_of_ble_eq_true rfl) rfl (by decide) rfl rfl dX11_endOf_1 ?_
  refine g_iconst X (v := 4) dX11_endOf_4 (by decide) ?_
  refine g_iload_n X dX11_endOf_5 rfl 1 rfl ?_
  refine g_imul X dX11_endOf_6 ?_
  obtain ⟨b1, h⟩ := h
  refine g_iald X (Nat.le_of_ble_eq_true rfl) rfl b1 dX11_endOf_7 ?_
  refine g_iload_n X dX11_endOf_8 rfl 2 rfl ?_
  refine g_icmp_ne X (tgt := 25) dX11_endOf_9 (by decide) (fun c2 => ?_) (fun c2 => ?_)
  · have h := h.1 c2
    refine g_aload_n X dX11_endOf_25 rfl 0 rfl ?_
    refine g_getr X (C := RX11) (T := TX11) (N := 39) (ci := 9) (k := 3) iX11_endOf_X11 rfl kX11_endOf_13 (Nat.le_of_ble_eq_true rfl) rfl (by decide) rfl rfl dX11_endOf_26 ?_
    refine g_iconst X (v := 4) dX11_endOf_29 (by decide) ?_
    refine g_iload_n X dX11_endOf_30 rfl 1 rfl ?_
    refine g_imul X dX11_endOf_31 ?_
    refine g_iconst X (v := 1) dX11_endOf_32 (by decide) ?_
    refine g_iadd X dX11_endOf_33 ?_
    obtain ⟨b3, h⟩ := h
    refine g_iald X (Nat.le_of_ble_eq_true rfl) rfl b3 dX11_endOf_34 ?_
    refine g_iload_n X dX11_endOf_35 rfl 2 rfl ?_
    refine g_icmp_ne X (tgt := 50) dX11_endOf_36 (by decide) (fun c4 => ?_) (fun c4 => ?_)
    · have h := h.1 c4
      refine g_iconst X (v := (-1)) dX11_endOf_50 (by decide) ?_
      exact g_iret X R dX11_endOf_51 h
    · have h := h.2 c4
      refine g_aload_n X dX11_endOf_39 rfl 0 rfl ?_
      refine g_getr X (C := RX11) (T := TX11) (N := 39) (ci := 9) (k := 3) iX11_endOf_X11 rfl kX11_endOf_13 (Nat.le_of_ble_eq_true rfl) rfl (by decide) rfl rfl dX11_endOf_40 ?_
      refine g_iconst X (v := 4) dX11_endOf_43 (by decide) ?_
      refine g_iload_n X dX11_endOf_44 rfl 1 rfl ?_
      refine g_imul X dX11_endOf_45 ?_
      obtain ⟨b5, h⟩ := h
      refine g_iald X (Nat.le_of_ble_eq_true rfl) rfl b5 dX11_endOf_46 ?_
      refine g_goto X (tgt := 51) dX11_endOf_47 (by decide) ?_
      exact g_iret X R dX11_endOf_51 h
  · have h := h.2 c2
    refine g_aload_n X dX11_endOf_12 rfl 0 rfl ?_
    refine g_getr X (C := RX11) (T := TX11) (N := 39) (ci := 9) (k := 3) iX11_endOf_X11 rfl kX11_endOf_13 (Nat.le_of_ble_eq_true rfl) rfl (by decide) rfl rfl dX11_endOf_13 ?_
    refine g_iconst X (v := 4) dX11_endOf_16 (by decide) ?_
    refine g_iload_n X dX11_endOf_17 rfl 1 rfl ?_
    refine g_imul X dX11_endOf_18 ?_
    refine g_iconst X (v := 1) dX11_endOf_19 (by decide) ?_
    refine g_iadd X dX11_endOf_20 ?_
    obtain ⟨b6, h⟩ := h
    refine g_iald X (Nat.le_of_ble_eq_true rfl) rfl b6 dX11_endOf_21 ?_
    refine g_goto X (tgt := 51) dX11_endOf_22 (by decide) ?_
    exact g_iret X R dX11_endOf_51 h

/-! X11_priceIn.priceIn(I)I -/
def rmX11_priceIn : Room := { frames := 0, cells := 0, slots := 0, locals := 0 }
theorem yo_X11_priceIn : yX11_priceIn.cls = RX11 ∧ yX11_priceIn.cls ≠ "java/lang/invoke/MethodHandle" ∧ yX11_priceIn.cls ≠ "java/lang/invoke/VarHandle" ∧ (parseMethodDescriptor yX11_priceIn.desc).map (fun d => d.parameters.length) = some 1 := by decide +kernel
def vc_X11_priceIn (p0 : Int32) (I : MI) (J : MJ) (Q : Int32 → MI → MJ → Prop) : Prop := ∀ x1 : Int32, x1 = p0 - p0 / 24 * 24 → ((6 ≤ x1 → ((12 ≤ x1 → ((18 ≤ x1 → Q 2 I J) ∧ (¬ 18 ≤ x1 → Q 5 I J))) ∧ (¬ 12 ≤ x1 → Q 3 I J))) ∧ (¬ 6 ≤ x1 → Q 4 I J))
set_option maxRecDepth 100000 in
set_option maxHeartbeats 4000000 in
theorem c_X11_priceIn (l : Launch) (E : ET)  (p0 : Int32) : CI l yX11_priceIn wsX11_priceIn rmX11_priceIn E [.int p0] (vc_X11_priceIn p0) := by
  refine CI.of (cc := cX11_priceIn) (maxL := 2) (own := RX11) (by decide) rfl rfl (Nat.le_of_ble_eq_true rfl) ?_
  intro Z I J Q hE hl X R h
  subst hE
  subst hl
  show GW Z 2 I J 0 [(0, .int p0)] []
  refine g_iload_n X dX11_priceIn_0 rfl 0 rfl ?_
  refine g_bipush X (v := 24) dX11_priceIn_1 (by decide) ?_
  refine g_irem X dX11_priceIn_3 (by decide) ?_
  refine g_topi (fun x1 ex1 => ?_)
  have h := h x1 ex1
  refine g_istore_n X (lv' := [(1, .int x1), (0, .int p0)]) dX11_priceIn_4 rfl (by decide) rfl ?_
  refine g_iload_n X dX11_priceIn_5 rfl 0 rfl ?_
  refine g_bipush X (v := 6) dX11_priceIn_6 (by decide) ?_
  refine g_icmp_ge X (tgt := 15) dX11_priceIn_8 (by decide) (fun c2 => ?_) (fun c2 => ?_)
  · have h := h.1 c2
    refine g_iload_n X dX11_priceIn_15 rfl 0 rfl ?_
    refine g_bipush X (v := 12) dX11_priceIn_16 (by decide) ?_
    refine g_icmp_ge X (tgt := 25) dX11_priceIn_18 (by decide) (fun c3 => ?_) (fun c3 => ?_)
    · have h := h.1 c3
      refine g_iload_n X dX11_priceIn_25 rfl 0 rfl ?_
      refine g_bipush X (v := 18) dX11_priceIn_26 (by decide) ?_
      refine g_icmp_ge X (tgt := 35) dX11_priceIn_28 (by decide) (fun c4 => ?_) (fun c4 => ?_)
      · have h := h.1 c4
        refine g_iconst X (v := 2) dX11_priceIn_35 (by decide) ?_
        exact g_iret X R dX11_priceIn_36 h
      · have h := h.2 c4
        refine g_iconst X (v := 5) dX11_priceIn_31 (by decide) ?_
        refine g_goto X (tgt := 36) dX11_priceIn_32 (by decide) ?_
        exact g_iret X R dX11_priceIn_36 h
    · have h := h.2 c3
      refine g_iconst X (v := 3) dX11_priceIn_21 (by decide) ?_
      refine g_goto X (tgt := 36) dX11_priceIn_22 (by decide) ?_
      exact g_iret X R dX11_priceIn_36 h
  · have h := h.2 c2
    refine g_iconst X (v := 4) dX11_priceIn_11 (by decide) ?_
    refine g_goto X (tgt := 36) dX11_priceIn_12 (by decide) ?_
    exact g_iret X R dX11_priceIn_36 h

/-! X11_place.place(II)I -/
def rmX11_place : Room := { frames := 2, cells := 0, slots := 0, locals := 43 }
theorem yo_X11_place : yX11_place.cls = RX11 ∧ yX11_place.cls ≠ "java/lang/invoke/MethodHandle" ∧ yX11_place.cls ≠ "java/lang/invoke/VarHandle" ∧ (parseMethodDescriptor yX11_place.desc).map (fun d => d.parameters.length) = some 2 := by decide +kernel
theorem kX11_place_25 : Cond.fieldLink RX11 25 "SnowCourseModel" (TX11 20).2.1 (TX11 20).2.2.1 ∈ wsX11_place := by decide +kernel
theorem iX11_place_X11 : ∀ w ∈ u_ws RX11 TX11 39, w ∈ wsX11_place := by decide +kernel
theorem kX11_place_7 : Cond.fieldLink RX11 7 "SnowCourseModel" (TX11 1).2.1 (TX11 1).2.2.1 ∈ wsX11_place := by decide +kernel
theorem kX11_place_78 : Cond.fieldLink RX11 78 "SnowCourseModel" (TX11 4).2.1 (TX11 4).2.2.1 ∈ wsX11_place := by decide +kernel
theorem kX11_place_98 : Cond.fieldLink RX11 98 "SnowCourseModel" (TX11 2).2.1 (TX11 2).2.2.1 ∈ wsX11_place := by decide +kernel
def vc_X11_place_B50  (Q : Int32 → MI → MJ → Prop) (k16 : Int32 → Int32 → Int32 → Int32 → MI → MJ → Prop) (v1 : Int32) (v2 : Int32) (v4 : Int32) (s0 : Int32) (s1 : Int32) (I : MI) (J : MJ) : Prop := ∀ x1 : Int32, x1 = s0 ||| s1 → ∀ x2 : Int32, x2 = v4 + 1 → k16 v1 v2 x1 x2 I J
set_option maxRecDepth 100000 in
set_option maxHeartbeats 4000000 in
theorem w_X11_place_B50 {Z : RT}  (X : Cx Z cX11_place 5 RX11 wsX11_place rmX11_place (some .int)) {Q : Int32 → MI → MJ → Prop} (R : RI Z Q)  {k16 : Int32 → Int32 → Int32 → Int32 → MI → MJ → Prop} (hk16 : ∀ (v1 : Int32) (v2 : Int32) (v3 : Int32) (v4 : Int32) (I : MI) (J : MJ), k16 v1 v2 v3 v4 I J → GW Z 5 I J 16 [(0, .ref (ea (zE Z) 87)), (1, .int v1), (2, .int v2), (3, .int v3), (4, .int v4)] []) (v1 : Int32) (v2 : Int32) (v4 : Int32) (s0 : Int32) (s1 : Int32) (I : MI) (J : MJ) (h : vc_X11_place_B50  Q k16 v1 v2 v4 s0 s1 I J) : GW Z 5 I J 50 [(0, .ref (ea (zE Z) 87)), (1, .int v1), (2, .int v2), (4, .int v4)] [.int s1, .int s0] := by
  refine g_ior X dX11_place_50 ?_
  refine g_topi (fun x1 ex1 => ?_)
  have h := h x1 ex1
  refine g_istore_n X (lv' := [(3, .int x1), (0, .ref (ea (zE Z) 87)), (1, .int v1), (2, .int v2), (4, .int v4)]) dX11_place_51 rfl (by decide) rfl ?_
  obtain ⟨x2, ex2⟩ : ∃ y : Int32, y = v4 + 1 := ⟨_, rfl⟩
  have h := h x2 ex2
  refine g_iinc X (q := 4) (v := x2) (lv' := [(4, .int x2), (3, .int x1), (0, .ref (ea (zE Z) 87)), (1, .int v1), (2, .int v2)]) dX11_place_52 rfl (by rw [ex2]; rfl) (by decide) rfl ?_
  refine g_goto X (tgt := 16) dX11_place_55 (by decide) ?_
  refine GW.sub (lv' := [(0, .ref (ea (zE Z) 87)), (1, .int v1), (2, .int v2), (3, .int x1), (4, .int x2)]) [2, 3, 4, 1, 0] rfl ?_
  exact hk16 v1 v2 x1 x2 I J h
def vc_X11_place_B95  (Q : Int32 → MI → MJ → Prop) (k61 : Int32 → Int32 → Int32 → Int32 → MI → MJ → Prop) (v1 : Int32) (v2 : Int32) (v4 : Int32) (s0 : Int32) (s1 : Int32) (I : MI) (J : MJ) : Prop := ∀ x3 : Int32, x3 = s0 ||| s1 → ∀ x4 : Int32, x4 = v4 + 1 → k61 v1 v2 x3 x4 I J
set_option maxRecDepth 100000 in
set_option maxHeartbeats 4000000 in
theorem w_X11_place_B95 {Z : RT}  (X : Cx Z cX11_place 5 RX11 wsX11_place rmX11_place (some .int)) {Q : Int32 → MI → MJ → Prop} (R : RI Z Q)  {k61 : Int32 → Int32 → Int32 → Int32 → MI → MJ → Prop} (hk61 : ∀ (v1 : Int32) (v2 : Int32) (v3 : Int32) (v4 : Int32) (I : MI) (J : MJ), k61 v1 v2 v3 v4 I J → GW Z 5 I J 61 [(0, .ref (ea (zE Z) 87)), (1, .int v1), (2, .int v2), (3, .int v3), (4, .int v4)] []) (v1 : Int32) (v2 : Int32) (v4 : Int32) (s0 : Int32) (s1 : Int32) (I : MI) (J : MJ) (h : vc_X11_place_B95  Q k61 v1 v2 v4 s0 s1 I J) : GW Z 5 I J 95 [(0, .ref (ea (zE Z) 87)), (1, .int v1), (2, .int v2), (4, .int v4)] [.int s1, .int s0] := by
  refine g_ior X dX11_place_95 ?_
  refine g_topi (fun x3 ex3 => ?_)
  have h := h x3 ex3
  refine g_istore_n X (lv' := [(3, .int x3), (0, .ref (ea (zE Z) 87)), (1, .int v1), (2, .int v2), (4, .int v4)]) dX11_place_96 rfl (by decide) rfl ?_
  obtain ⟨x4, ex4⟩ : ∃ y : Int32, y = v4 + 1 := ⟨_, rfl⟩
  have h := h x4 ex4
  refine g_iinc X (q := 4) (v := x4) (lv' := [(4, .int x4), (3, .int x3), (0, .ref (ea (zE Z) 87)), (1, .int v1), (2, .int v2)]) dX11_place_97 rfl (by rw [ex4]; rfl) (by decide) rfl ?_
  refine g_goto X (tgt := 61) dX11_place_100 (by decide) ?_
  refine GW.sub (lv' := [(0, .ref (ea (zE Z) 87)), (1, .int v1), (2, .int v2), (3, .int x3), (4, .int x4)]) [2, 3, 4, 1, 0] rfl ?_
  exact hk61 v1 v2 x3 x4 I J h
def vc_X11_place_B103  (Q : Int32 → MI → MJ → Prop)  (v1 : Int32) (v2 : Int32) (v3 : Int32) (I : MI) (J : MJ) : Prop := ((¬ v2 = 0 → ((¬ v2 = 1 → vc_X11_in v2 2 3 I J (fun (r9 : Int32) (I7 : MI) (J8 : MJ) => ((r9 = 0 → Q (-3) I7 J8) ∧ (¬ r9 = 0 → Q v3 I7 J8)))) ∧ (v2 = 1 → vp_in (12 + v1) 20 ∧ Q (I 93 (Int32.toNatClampNeg (12 + v1))) I J))) ∧ (v2 = 0 → vp_in v1 7 ∧ Q (I 88 (Int32.toNatClampNeg v1)) I J))
set_option maxRecDepth 100000 in
set_option maxHeartbeats 4000000 in
theorem w_X11_place_B103 {Z : RT}  (X : Cx Z cX11_place 5 RX11 wsX11_place rmX11_place (some .int)) {Q : Int32 → MI → MJ → Prop} (R : RI Z Q)    (v1 : Int32) (v2 : Int32) (v3 : Int32) (I : MI) (J : MJ) (h : vc_X11_place_B103  Q  v1 v2 v3 I J) : GW Z 5 I J 103 [(0, .ref (ea (zE Z) 87)), (1, .int v1), (2, .int v2), (3, .int v3)] [] := by
  refine g_iload_n X dX11_place_103 rfl 2 rfl ?_
  refine g_if_ne X (tgt := 116) dX11_place_104 (by decide) (fun c5 => ?_) (fun c5 => ?_)
  · have h := h.1 c5
    refine g_iload_n X dX11_place_116 rfl 2 rfl ?_
    refine g_iconst X (v := 1) dX11_place_117 (by decide) ?_
    refine g_icmp_ne X (tgt := 133) dX11_place_118 (by decide) (fun c6 => ?_) (fun c6 => ?_)
    · have h := h.1 c6
      refine g_iload_n X dX11_place_133 rfl 2 rfl ?_
      refine g_iconst X (v := 2) dX11_place_134 (by decide) ?_
      refine g_iconst X (v := 3) dX11_place_135 (by decide) ?_
      refine g_callSI X (As := [.int v2, .int 2, .int 3]) (rest := []) (c_X11_in (zl Z) (zE Z) v2 2 3) gX11_place_X11_in yo_X11_in.2 rfl ⟨Nat.le_of_ble_eq_true rfl, Nat.le_of_ble_eq_true rfl⟩ rfl dX11_place_136 h (fun r9 I7 J8 h => ?_)
      refine g_if_eq X (tgt := 146) dX11_place_139 (by decide) (fun c10 => ?_) (fun c10 => ?_)
      · have h := h.1 c10
        refine g_bipush X (v := (-3)) dX11_place_146 (by decide) ?_
        exact g_iret X R dX11_place_148 h
      · have h := h.2 c10
        refine g_iload_n X dX11_place_142 rfl 3 rfl ?_
        refine g_goto X (tgt := 148) dX11_place_143 (by decide) ?_
        exact g_iret X R dX11_place_148 h
    · have h := h.2 c6
      refine g_aload_n X dX11_place_121 rfl 0 rfl ?_
      refine g_getr X (C := RX11) (T := TX11) (N := 39) (ci := 9) (k := 20) iX11_place_X11 rfl kX11_place_25 (Nat.le_of_ble_eq_true rfl) rfl (by decide) rfl rfl dX11_place_122 ?_
      refine g_bipush X (v := 12) dX11_place_125 (by decide) ?_
      refine g_iload_n X dX11_place_127 rfl 1 rfl ?_
      refine g_iadd X dX11_place_128 ?_
      obtain ⟨b11, h⟩ := h
      refine g_iald X (Nat.le_of_ble_eq_true rfl) rfl b11 dX11_place_129 ?_
      refine g_goto X (tgt := 148) dX11_place_130 (by decide) ?_
      exact g_iret X R dX11_place_148 h
  · have h := h.2 c5
    refine g_aload_n X dX11_place_107 rfl 0 rfl ?_
    refine g_getr X (C := RX11) (T := TX11) (N := 39) (ci := 9) (k := 1) iX11_place_X11 rfl kX11_place_7 (Nat.le_of_ble_eq_true rfl) rfl (by decide) rfl rfl dX11_place_108 ?_
    refine g_iload_n X dX11_place_111 rfl 1 rfl ?_
    obtain ⟨b12, h⟩ := h
    refine g_iald X (Nat.le_of_ble_eq_true rfl) rfl b12 dX11_place_112 ?_
    refine g_goto X (tgt := 148) dX11_place_113 (by decide) ?_
    exact g_iret X R dX11_place_148 h
def vc_X11_place_L61s  (Q : Int32 → MI → MJ → Prop)  (k61 : Int32 → Int32 → Int32 → Int32 → MI → MJ → Prop) (v1 : Int32) (v2 : Int32) (v3 : Int32) (v4 : Int32) (I : MI) (J : MJ) : Prop := (((I 87 4) ≤ v4 → vc_X11_place_B103  Q  v1 v2 v3 I J) ∧ (¬ (I 87 4) ≤ v4 → ((¬ v2 = 3 → vc_X11_place_B103  Q  v1 v2 v3 I J) ∧ (v2 = 3 → vp_in v4 20 ∧ ((¬ (I 93 (Int32.toNatClampNeg v4)) = v1 → vc_X11_place_B95  Q k61 v1 v2 v4 v3 0 I J) ∧ ((I 93 (Int32.toNatClampNeg v4)) = v1 → vc_X11_place_B95  Q k61 v1 v2 v4 v3 (1 <<< (v4 &&& 31)) I J))))))
def vc_X11_place_L61  (Q : Int32 → MI → MJ → Prop)  (n : Nat) : Int32 → Int32 → Int32 → Int32 → MI → MJ → Prop := Nat.rec (fun _ _ _ _ _ _ => False) (fun _ ih => vc_X11_place_L61s  Q  ih) n
set_option maxRecDepth 100000 in
set_option maxHeartbeats 4000000 in
theorem w_X11_place_L61s {Z : RT}  (X : Cx Z cX11_place 5 RX11 wsX11_place rmX11_place (some .int)) {Q : Int32 → MI → MJ → Prop} (R : RI Z Q)    {k61 : Int32 → Int32 → Int32 → Int32 → MI → MJ → Prop} (hk61 : ∀ (v1 : Int32) (v2 : Int32) (v3 : Int32) (v4 : Int32) (I : MI) (J : MJ), k61 v1 v2 v3 v4 I J → GW Z 5 I J 61 [(0, .ref (ea (zE Z) 87)), (1, .int v1), (2, .int v2), (3, .int v3), (4, .int v4)] []) (v1 : Int32) (v2 : Int32) (v3 : Int32) (v4 : Int32) (I : MI) (J : MJ) (h : vc_X11_place_L61s  Q  k61 v1 v2 v3 v4 I J) : GW Z 5 I J 61 [(0, .ref (ea (zE Z) 87)), (1, .int v1), (2, .int v2), (3, .int v3), (4, .int v4)] [] := by
  refine g_iload X dX11_place_61 4 rfl ?_
  refine g_aload_n X dX11_place_63 rfl 0 rfl ?_
  refine g_geti X (C := RX11) (T := TX11) (N := 39) (ci := 9) (k := 4) iX11_place_X11 rfl kX11_place_78 (Nat.le_of_ble_eq_true rfl) rfl (by decide) rfl rfl dX11_place_64 ?_
  refine g_icmp_ge X (tgt := 103) dX11_place_67 (by decide) (fun c13 => ?_) (fun c13 => ?_)
  · have h := h.1 c13
    refine GW.sub (lv' := [(0, .ref (ea (zE Z) 87)), (1, .int v1), (2, .int v2), (3, .int v3)]) [0, 1, 2, 3] rfl ?_
    exact w_X11_place_B103 X R   v1 v2 v3 I J h
  · have h := h.2 c13
    refine g_iload_n X dX11_place_70 rfl 2 rfl ?_
    refine g_iconst X (v := 3) dX11_place_71 (by decide) ?_
    refine g_icmp_ne X (tgt := 103) dX11_place_72 (by decide) (fun c14 => ?_) (fun c14 => ?_)
    · have h := h.1 c14
      refine GW.sub (lv' := [(0, .ref (ea (zE Z) 87)), (1, .int v1), (2, .int v2), (3, .int v3)]) [0, 1, 2, 3] rfl ?_
      exact w_X11_place_B103 X R   v1 v2 v3 I J h
    · have h := h.2 c14
      refine g_iload_n X dX11_place_75 rfl 3 rfl ?_
      refine g_aload_n X dX11_place_76 rfl 0 rfl ?_
      refine g_getr X (C := RX11) (T := TX11) (N := 39) (ci := 9) (k := 20) iX11_place_X11 rfl kX11_place_25 (Nat.le_of_ble_eq_true rfl) rfl (by decide) rfl rfl dX11_place_77 ?_
      refine g_iload X dX11_place_80 4 rfl ?_
      obtain ⟨b15, h⟩ := h
      refine g_iald X (Nat.le_of_ble_eq_true rfl) rfl b15 dX11_place_82 ?_
      refine g_iload_n X dX11_place_83 rfl 1 rfl ?_
      refine g_icmp_ne X (tgt := 94) dX11_place_84 (by decide) (fun c16 => ?_) (fun c16 => ?_)
      · have h := h.1 c16
        refine g_iconst X (v := 0) dX11_place_94 (by decide) ?_
        refine GW.sub (lv' := [(0, .ref (ea (zE Z) 87)), (1, .int v1), (2, .int v2), (4, .int v4)]) [0, 1, 2, 4] rfl ?_
        exact w_X11_place_B95 X R  hk61 v1 v2 v4 v3 0 I J h
      · have h := h.2 c16
        refine g_iconst X (v := 1) dX11_place_87 (by decide) ?_
        refine g_iload X dX11_place_88 4 rfl ?_
        refine g_ishl X dX11_place_90 ?_
        refine g_goto X (tgt := 95) dX11_place_91 (by decide) ?_
        refine GW.sub (lv' := [(0, .ref (ea (zE Z) 87)), (1, .int v1), (2, .int v2), (4, .int v4)]) [0, 1, 2, 4] rfl ?_
        exact w_X11_place_B95 X R  hk61 v1 v2 v4 v3 (1 <<< (v4 &&& 31)) I J h
theorem w_X11_place_L61 {Z : RT}  (X : Cx Z cX11_place 5 RX11 wsX11_place rmX11_place (some .int)) {Q : Int32 → MI → MJ → Prop} (R : RI Z Q)    : ∀ (n : Nat) (v1 : Int32) (v2 : Int32) (v3 : Int32) (v4 : Int32) (I : MI) (J : MJ) (h : vc_X11_place_L61  Q  n v1 v2 v3 v4 I J), GW Z 5 I J 61 [(0, .ref (ea (zE Z) 87)), (1, .int v1), (2, .int v2), (3, .int v3), (4, .int v4)] [] := by
  intro n
  induction n with
  | zero => intro v1 v2 v3 v4 I J h; exact h.elim
  | succ n ih => intro v1 v2 v3 v4 I J h; exact w_X11_place_L61s X R   ih v1 v2 v3 v4 I J h
def vc_X11_place_L16s  (Q : Int32 → MI → MJ → Prop)  (k16 : Int32 → Int32 → Int32 → Int32 → MI → MJ → Prop) (v1 : Int32) (v2 : Int32) (v3 : Int32) (v4 : Int32) (I : MI) (J : MJ) : Prop := (((I 87 2) ≤ v4 → (∃ n, vc_X11_place_L61  Q  n v1 v2 v3 0 I J)) ∧ (¬ (I 87 2) ≤ v4 → ((¬ v2 = 2 → (∃ n, vc_X11_place_L61  Q  n v1 v2 v3 0 I J)) ∧ (v2 = 2 → vc_X11_endOf v4 v1 I J (fun (r21 : Int32) (I19 : MI) (J20 : MJ) => ((¬ r21 = (-1) → vc_X11_place_B50  Q k16 v1 v2 v4 v3 (1 <<< (v4 &&& 31)) I19 J20) ∧ (r21 = (-1) → vc_X11_place_B50  Q k16 v1 v2 v4 v3 0 I19 J20)))))))
def vc_X11_place_L16  (Q : Int32 → MI → MJ → Prop)  (n : Nat) : Int32 → Int32 → Int32 → Int32 → MI → MJ → Prop := Nat.rec (fun _ _ _ _ _ _ => False) (fun _ ih => vc_X11_place_L16s  Q  ih) n
set_option maxRecDepth 100000 in
set_option maxHeartbeats 4000000 in
theorem w_X11_place_L16s {Z : RT}  (X : Cx Z cX11_place 5 RX11 wsX11_place rmX11_place (some .int)) {Q : Int32 → MI → MJ → Prop} (R : RI Z Q)    {k16 : Int32 → Int32 → Int32 → Int32 → MI → MJ → Prop} (hk16 : ∀ (v1 : Int32) (v2 : Int32) (v3 : Int32) (v4 : Int32) (I : MI) (J : MJ), k16 v1 v2 v3 v4 I J → GW Z 5 I J 16 [(0, .ref (ea (zE Z) 87)), (1, .int v1), (2, .int v2), (3, .int v3), (4, .int v4)] []) (v1 : Int32) (v2 : Int32) (v3 : Int32) (v4 : Int32) (I : MI) (J : MJ) (h : vc_X11_place_L16s  Q  k16 v1 v2 v3 v4 I J) : GW Z 5 I J 16 [(0, .ref (ea (zE Z) 87)), (1, .int v1), (2, .int v2), (3, .int v3), (4, .int v4)] [] := by
  refine g_iload X dX11_place_16 4 rfl ?_
  refine g_aload_n X dX11_place_18 rfl 0 rfl ?_
  refine g_geti X (C := RX11) (T := TX11) (N := 39) (ci := 9) (k := 2) iX11_place_X11 rfl kX11_place_98 (Nat.le_of_ble_eq_true rfl) rfl (by decide) rfl rfl dX11_place_19 ?_
  refine g_icmp_ge X (tgt := 58) dX11_place_22 (by decide) (fun c17 => ?_) (fun c17 => ?_)
  · have h := h.1 c17
    refine g_iconst X (v := 0) dX11_place_58 (by decide) ?_
    refine g_istore X (lv' := [(4, .int 0), (0, .ref (ea (zE Z) 87)), (1, .int v1), (2, .int v2), (3, .int v3)]) dX11_place_59 (by decide) rfl ?_
    refine GW.sub (lv' := [(0, .ref (ea (zE Z) 87)), (1, .int v1), (2, .int v2), (3, .int v3), (4, .int 0)]) [1, 2, 3, 4, 0] rfl ?_
    obtain ⟨n, h⟩ := h
    exact w_X11_place_L61 X R   n v1 v2 v3 0 I J h
  · have h := h.2 c17
    refine g_iload_n X dX11_place_25 rfl 2 rfl ?_
    refine g_iconst X (v := 2) dX11_place_26 (by decide) ?_
    refine g_icmp_ne X (tgt := 58) dX11_place_27 (by decide) (fun c18 => ?_) (fun c18 => ?_)
    · have h := h.1 c18
      refine g_iconst X (v := 0) dX11_place_58 (by decide) ?_
      refine g_istore X (lv' := [(4, .int 0), (0, .ref (ea (zE Z) 87)), (1, .int v1), (2, .int v2), (3, .int v3)]) dX11_place_59 (by decide) rfl ?_
      refine GW.sub (lv' := [(0, .ref (ea (zE Z) 87)), (1, .int v1), (2, .int v2), (3, .int v3), (4, .int 0)]) [1, 2, 3, 4, 0] rfl ?_
      obtain ⟨n, h⟩ := h
      exact w_X11_place_L61 X R   n v1 v2 v3 0 I J h
    · have h := h.2 c18
      refine g_iload_n X dX11_place_30 rfl 3 rfl ?_
      refine g_aload_n X dX11_place_31 rfl 0 rfl ?_
      refine g_iload X dX11_place_32 4 rfl ?_
      refine g_iload_n X dX11_place_34 rfl 1 rfl ?_
      refine g_callVI X (As := [.int v4, .int v1]) (rest := [.int v3]) (T := TX11) (N := 39) (c_X11_endOf (zl Z) (zE Z) v4 v1) gX11_place_X11_endOf yo_X11_endOf rfl ⟨Nat.le_of_ble_eq_true rfl, Nat.le_of_ble_eq_true rfl⟩ (Nat.le_of_ble_eq_true rfl) rfl rfl rfl dX11_place_35 h (fun r21 I19 J20 h => ?_)
      refine g_iconst X (v := (-1)) dX11_place_38 (by decide) ?_
      refine g_icmp_ne X (tgt := 46) dX11_place_39 (by decide) (fun c22 => ?_) (fun c22 => ?_)
      · have h := h.1 c22
        refine g_iconst X (v := 1) dX11_place_46 (by decide) ?_
        refine g_iload X dX11_place_47 4 rfl ?_
        refine g_ishl X dX11_place_49 ?_
        refine GW.sub (lv' := [(0, .ref (ea (zE Z) 87)), (1, .int v1), (2, .int v2), (4, .int v4)]) [0, 1, 2, 4] rfl ?_
        exact w_X11_place_B50 X R  hk16 v1 v2 v4 v3 (1 <<< (v4 &&& 31)) I19 J20 h
      · have h := h.2 c22
        refine g_iconst X (v := 0) dX11_place_42 (by decide) ?_
        refine g_goto X (tgt := 50) dX11_place_43 (by decide) ?_
        refine GW.sub (lv' := [(0, .ref (ea (zE Z) 87)), (1, .int v1), (2, .int v2), (4, .int v4)]) [0, 1, 2, 4] rfl ?_
        exact w_X11_place_B50 X R  hk16 v1 v2 v4 v3 0 I19 J20 h
theorem w_X11_place_L16 {Z : RT}  (X : Cx Z cX11_place 5 RX11 wsX11_place rmX11_place (some .int)) {Q : Int32 → MI → MJ → Prop} (R : RI Z Q)    : ∀ (n : Nat) (v1 : Int32) (v2 : Int32) (v3 : Int32) (v4 : Int32) (I : MI) (J : MJ) (h : vc_X11_place_L16  Q  n v1 v2 v3 v4 I J), GW Z 5 I J 16 [(0, .ref (ea (zE Z) 87)), (1, .int v1), (2, .int v2), (3, .int v3), (4, .int v4)] [] := by
  intro n
  induction n with
  | zero => intro v1 v2 v3 v4 I J h; exact h.elim
  | succ n ih => intro v1 v2 v3 v4 I J h; exact w_X11_place_L16s X R   ih v1 v2 v3 v4 I J h
def vc_X11_place (p1 : Int32) (p2 : Int32) (I : MI) (J : MJ) (Q : Int32 → MI → MJ → Prop) : Prop := vc_X11_isPlace p1 I J (fun (r25 : Int32) (I23 : MI) (J24 : MJ) => ((¬ r25 = 0 → (∃ n, vc_X11_place_L16  Q  n p1 p2 0 0 I23 J24)) ∧ (r25 = 0 → Q (-2) I23 J24)))
set_option maxRecDepth 100000 in
set_option maxHeartbeats 4000000 in
theorem c_X11_place (l : Launch) (E : ET)  (p1 : Int32) (p2 : Int32) : CI l yX11_place wsX11_place rmX11_place E [.ref (ea E 87), .int p1, .int p2] (vc_X11_place p1 p2) := by
  refine CI.of (cc := cX11_place) (maxL := 5) (own := RX11) (by decide) rfl rfl (Nat.le_of_ble_eq_true rfl) ?_
  intro Z I J Q hE hl X R h
  subst hE
  subst hl
  show GW Z 5 I J 0 [(0, .ref (ea (zE Z) 87)), (1, .int p1), (2, .int p2)] []
  refine g_aload_n X dX11_place_0 rfl 0 rfl ?_
  refine g_iload_n X dX11_place_1 rfl 1 rfl ?_
  refine g_callVI X (As := [.int p1]) (rest := []) (T := TX11) (N := 39) (c_X11_isPlace (zl Z) (zE Z) p1) gX11_place_X11_isPlace yo_X11_isPlace rfl ⟨Nat.le_of_ble_eq_true rfl, Nat.le_of_ble_eq_true rfl⟩ (Nat.le_of_ble_eq_true rfl) rfl rfl rfl dX11_place_2 h (fun r25 I23 J24 h => ?_)
  refine g_if_ne X (tgt := 11) dX11_place_5 (by decide) (fun c26 => ?_) (fun c26 => ?_)
  · have h := h.1 c26
    refine g_iconst X (v := 0) dX11_place_11 (by decide) ?_
    refine g_istore_n X (lv' := [(3, .int 0), (0, .ref (ea (zE Z) 87)), (1, .int p1), (2, .int p2)]) dX11_place_12 rfl (by decide) rfl ?_
    refine g_iconst X (v := 0) dX11_place_13 (by decide) ?_
    refine g_istore X (lv' := [(4, .int 0), (3, .int 0), (0, .ref (ea (zE Z) 87)), (1, .int p1), (2, .int p2)]) dX11_place_14 (by decide) rfl ?_
    refine GW.sub (lv' := [(0, .ref (ea (zE Z) 87)), (1, .int p1), (2, .int p2), (3, .int 0), (4, .int 0)]) [2, 3, 4, 1, 0] rfl ?_
    obtain ⟨n, h⟩ := h
    exact w_X11_place_L16 X R   n p1 p2 0 0 I23 J24 h
  · have h := h.2 c26
    refine g_bipush X (v := (-2)) dX11_place_8 (by decide) ?_
    exact g_iret X R dX11_place_10 h

/-! X11_road.road(II)I -/
def rmX11_road : Room := { frames := 2, cells := 0, slots := 0, locals := 43 }
theorem yo_X11_road : yX11_road.cls = RX11 ∧ yX11_road.cls ≠ "java/lang/invoke/MethodHandle" ∧ yX11_road.cls ≠ "java/lang/invoke/VarHandle" ∧ (parseMethodDescriptor yX11_road.desc).map (fun d => d.parameters.length) = some 2 := by decide +kernel
theorem kX11_road_13 : Cond.fieldLink RX11 13 "SnowCourseModel" (TX11 3).2.1 (TX11 3).2.2.1 ∈ wsX11_road := by decide +kernel
theorem iX11_road_X11 : ∀ w ∈ u_ws RX11 TX11 39, w ∈ wsX11_road := by decide +kernel
def vc_X11_road_B55  (Q : Int32 → MI → MJ → Prop)  (v1 : Int32) (v2 : Int32) (I : MI) (J : MJ) : Prop := vp_in (((4 * v1) + v2) - 1) 36 ∧ Q (I 89 (Int32.toNatClampNeg (((4 * v1) + v2) - 1))) I J
set_option maxRecDepth 100000 in
set_option maxHeartbeats 4000000 in
theorem w_X11_road_B55 {Z : RT}  (X : Cx Z cX11_road 3 RX11 wsX11_road rmX11_road (some .int)) {Q : Int32 → MI → MJ → Prop} (R : RI Z Q)    (v1 : Int32) (v2 : Int32) (I : MI) (J : MJ) (h : vc_X11_road_B55  Q  v1 v2 I J) : GW Z 3 I J 55 [(0, .ref (ea (zE Z) 87)), (1, .int v1), (2, .int v2)] [] := by
  refine g_aload_n X dX11_road_55 rfl 0 rfl ?_
  refine g_getr X (C := RX11) (T := TX11) (N := 39) (ci := 9) (k := 3) iX11_road_X11 rfl kX11_road_13 (Nat.le_of_ble_eq_true rfl) rfl (by decide) rfl rfl dX11_road_56 ?_
  refine g_iconst X (v := 4) dX11_road_59 (by decide) ?_
  refine g_iload_n X dX11_road_60 rfl 1 rfl ?_
  refine g_imul X dX11_road_61 ?_
  refine g_iload_n X dX11_road_62 rfl 2 rfl ?_
  refine g_iadd X dX11_road_63 ?_
  refine g_iconst X (v := 1) dX11_road_64 (by decide) ?_
  refine g_isub X dX11_road_65 ?_
  obtain ⟨b1, h⟩ := h
  refine g_iald X (Nat.le_of_ble_eq_true rfl) rfl b1 dX11_road_66 ?_
  exact g_iret X R dX11_road_67 h
def vc_X11_road (p1 : Int32) (p2 : Int32) (I : MI) (J : MJ) (Q : Int32 → MI → MJ → Prop) : Prop := vc_X11_isRoad p1 I J (fun (r4 : Int32) (I2 : MI) (J3 : MJ) => ((¬ r4 = 0 → ((p2 = 0 → vp_in ((4 * p1) + 3) 36 ∧ Q (I2 89 (Int32.toNatClampNeg ((4 * p1) + 3))) I2 J3) ∧ (¬ p2 = 0 → ((p2 = 1 → vc_X11_road_B55  Q  p1 p2 I2 J3) ∧ (¬ p2 = 1 → ((p2 = 2 → vc_X11_road_B55  Q  p1 p2 I2 J3) ∧ (¬ p2 = 2 → ((p2 = 3 → vc_X11_road_B55  Q  p1 p2 I2 J3) ∧ (¬ p2 = 3 → Q (-3) I2 J3))))))))) ∧ (r4 = 0 → Q (-2) I2 J3)))
set_option maxRecDepth 100000 in
set_option maxHeartbeats 4000000 in
theorem c_X11_road (l : Launch) (E : ET)  (p1 : Int32) (p2 : Int32) : CI l yX11_road wsX11_road rmX11_road E [.ref (ea E 87), .int p1, .int p2] (vc_X11_road p1 p2) := by
  refine CI.of (cc := cX11_road) (maxL := 3) (own := RX11) (by decide) rfl rfl (Nat.le_of_ble_eq_true rfl) ?_
  intro Z I J Q hE hl X R h
  subst hE
  subst hl
  show GW Z 3 I J 0 [(0, .ref (ea (zE Z) 87)), (1, .int p1), (2, .int p2)] []
  refine g_aload_n X dX11_road_0 rfl 0 rfl ?_
  refine g_iload_n X dX11_road_1 rfl 1 rfl ?_
  refine g_callVI X (As := [.int p1]) (rest := []) (T := TX11) (N := 39) (c_X11_isRoad (zl Z) (zE Z) p1) gX11_road_X11_isRoad yo_X11_isRoad rfl ⟨Nat.le_of_ble_eq_true rfl, Nat.le_of_ble_eq_true rfl⟩ (Nat.le_of_ble_eq_true rfl) rfl rfl rfl dX11_road_2 h (fun r4 I2 J3 h => ?_)
  refine g_if_ne X (tgt := 11) dX11_road_5 (by decide) (fun c5 => ?_) (fun c5 => ?_)
  · have h := h.1 c5
    refine g_iload_n X dX11_road_11 rfl 2 rfl ?_
    by_cases c6 : p2 = 0
    · have h := h.1 c6
      refine g_tin X (tgt := 44) dX11_road_12 c6 (by decide) (by decide) rfl (by decide) ?_
      refine g_aload_n X dX11_road_44 rfl 0 rfl ?_
      refine g_getr X (C := RX11) (T := TX11) (N := 39) (ci := 9) (k := 3) iX11_road_X11 rfl kX11_road_13 (Nat.le_of_ble_eq_true rfl) rfl (by decide) rfl rfl dX11_road_45 ?_
      refine g_iconst X (v := 4) dX11_road_48 (by decide) ?_
      refine g_iload_n X dX11_road_49 rfl 1 rfl ?_
      refine g_imul X dX11_road_50 ?_
      refine g_iconst X (v := 3) dX11_road_51 (by decide) ?_
      refine g_iadd X dX11_road_52 ?_
      obtain ⟨b7, h⟩ := h
      refine g_iald X (Nat.le_of_ble_eq_true rfl) rfl b7 dX11_road_53 ?_
      exact g_iret X R dX11_road_54 h
    have h := h.2 c6
    by_cases c8 : p2 = 1
    · have h := h.1 c8
      refine g_tin X (tgt := 55) dX11_road_12 c8 (by decide) (by decide) rfl (by decide) ?_
      refine GW.sub (lv' := [(0, .ref (ea (zE Z) 87)), (1, .int p1), (2, .int p2)]) [0, 1, 2] rfl ?_
      exact w_X11_road_B55 X R   p1 p2 I2 J3 h
    have h := h.2 c8
    by_cases c9 : p2 = 2
    · have h := h.1 c9
      refine g_tin X (tgt := 55) dX11_road_12 c9 (by decide) (by decide) rfl (by decide) ?_
      refine GW.sub (lv' := [(0, .ref (ea (zE Z) 87)), (1, .int p1), (2, .int p2)]) [0, 1, 2] rfl ?_
      exact w_X11_road_B55 X R   p1 p2 I2 J3 h
    have h := h.2 c9
    by_cases c10 : p2 = 3
    · have h := h.1 c10
      refine g_tin X (tgt := 55) dX11_road_12 c10 (by decide) (by decide) rfl (by decide) ?_
      refine GW.sub (lv' := [(0, .ref (ea (zE Z) 87)), (1, .int p1), (2, .int p2)]) [0, 1, 2] rfl ?_
      exact w_X11_road_B55 X R   p1 p2 I2 J3 h
    have h := h.2 c10
    refine g_tout X (tgt := 68) dX11_road_12 (sw_out (hi := 3) (fun k hk => by match k, hk with | 0, _ => exact c6 | 1, _ => exact c8 | 2, _ => exact c9 | 3, _ => exact c10 | k + 4, hk => exact absurd hk (by omega)) (by decide)) (by decide) ?_
    refine g_bipush X (v := (-3)) dX11_road_68 (by decide) ?_
    exact g_iret X R dX11_road_70 h
  · have h := h.2 c5
    refine g_bipush X (v := (-2)) dX11_road_8 (by decide) ?_
    exact g_iret X R dX11_road_10 h

/-! X11_kindOf.kindOf(I)I -/
def rmX11_kindOf : Room := { frames := 0, cells := 0, slots := 0, locals := 0 }
theorem yo_X11_kindOf : yX11_kindOf.cls = RX11 ∧ yX11_kindOf.cls ≠ "java/lang/invoke/MethodHandle" ∧ yX11_kindOf.cls ≠ "java/lang/invoke/VarHandle" ∧ (parseMethodDescriptor yX11_kindOf.desc).map (fun d => d.parameters.length) = some 1 := by decide +kernel
theorem kX11_kindOf_16 : Cond.fieldLink RX11 16 "SnowCourseModel" (TX11 5).2.1 (TX11 5).2.2.1 ∈ wsX11_kindOf := by decide +kernel
theorem iX11_kindOf_X11 : ∀ w ∈ u_ws RX11 TX11 39, w ∈ wsX11_kindOf := by decide +kernel
def vc_X11_kindOf (p1 : Int32) (I : MI) (J : MJ) (Q : Int32 → MI → MJ → Prop) : Prop := vp_in (3 * p1) 12 ∧ Q (I 90 (Int32.toNatClampNeg (3 * p1))) I J
set_option maxRecDepth 100000 in
set_option maxHeartbeats 4000000 in
theorem c_X11_kindOf (l : Launch) (E : ET)  (p1 : Int32) : CI l yX11_kindOf wsX11_kindOf rmX11_kindOf E [.ref (ea E 87), .int p1] (vc_X11_kindOf p1) := by
  refine CI.of (cc := cX11_kindOf) (maxL := 2) (own := RX11) (by decide) rfl rfl (Nat.le_of_ble_eq_true rfl) ?_
  intro Z I J Q hE hl X R h
  subst hE
  subst hl
  show GW Z 2 I J 0 [(0, .ref (ea (zE Z) 87)), (1, .int p1)] []
  refine g_aload_n X dX11_kindOf_0 rfl 0 rfl ?_
  refine g_getr X (C := RX11) (T := TX11) (N := 39) (ci := 9) (k := 5) iX11_kindOf_X11 rfl kX11_kindOf_16 (Nat.le_of_ble_eq_true rfl) rfl (by decide) rfl rfl dX11_kindOf_1 ?_
  refine g_iconst X (v := 3) dX11_kindOf_4 (by decide) ?_
  refine g_iload_n X dX11_kindOf_5 rfl 1 rfl ?_
  refine g_imul X dX11_kindOf_6 ?_
  obtain ⟨b1, h⟩ := h
  refine g_iald X (Nat.le_of_ble_eq_true rfl) rfl b1 dX11_kindOf_7 ?_
  exact g_iret X R dX11_kindOf_8 h

/-! X11_strawOf.strawOf(I)I -/
def rmX11_strawOf : Room := { frames := 0, cells := 0, slots := 0, locals := 0 }
theorem yo_X11_strawOf : yX11_strawOf.cls = RX11 ∧ yX11_strawOf.cls ≠ "java/lang/invoke/MethodHandle" ∧ yX11_strawOf.cls ≠ "java/lang/invoke/VarHandle" ∧ (parseMethodDescriptor yX11_strawOf.desc).map (fun d => d.parameters.length) = some 1 := by decide +kernel
theorem kX11_strawOf_16 : Cond.fieldLink RX11 16 "SnowCourseModel" (TX11 5).2.1 (TX11 5).2.2.1 ∈ wsX11_strawOf := by decide +kernel
theorem iX11_strawOf_X11 : ∀ w ∈ u_ws RX11 TX11 39, w ∈ wsX11_strawOf := by decide +kernel
def vc_X11_strawOf (p1 : Int32) (I : MI) (J : MJ) (Q : Int32 → MI → MJ → Prop) : Prop := vp_in ((3 * p1) + 2) 12 ∧ Q (I 90 (Int32.toNatClampNeg ((3 * p1) + 2))) I J
set_option maxRecDepth 100000 in
set_option maxHeartbeats 4000000 in
theorem c_X11_strawOf (l : Launch) (E : ET)  (p1 : Int32) : CI l yX11_strawOf wsX11_strawOf rmX11_strawOf E [.ref (ea E 87), .int p1] (vc_X11_strawOf p1) := by
  refine CI.of (cc := cX11_strawOf) (maxL := 2) (own := RX11) (by decide) rfl rfl (Nat.le_of_ble_eq_true rfl) ?_
  intro Z I J Q hE hl X R h
  subst hE
  subst hl
  show GW Z 2 I J 0 [(0, .ref (ea (zE Z) 87)), (1, .int p1)] []
  refine g_aload_n X dX11_strawOf_0 rfl 0 rfl ?_
  refine g_getr X (C := RX11) (T := TX11) (N := 39) (ci := 9) (k := 5) iX11_strawOf_X11 rfl kX11_strawOf_16 (Nat.le_of_ble_eq_true rfl) rfl (by decide) rfl rfl dX11_strawOf_1 ?_
  refine g_iconst X (v := 3) dX11_strawOf_4 (by decide) ?_
  refine g_iload_n X dX11_strawOf_5 rfl 1 rfl ?_
  refine g_imul X dX11_strawOf_6 ?_
  refine g_iconst X (v := 2) dX11_strawOf_7 (by decide) ?_
  refine g_iadd X dX11_strawOf_8 ?_
  obtain ⟨b1, h⟩ := h
  refine g_iald X (Nat.le_of_ble_eq_true rfl) rfl b1 dX11_strawOf_9 ?_
  exact g_iret X R dX11_strawOf_10 h

/-! X11_cart.cart(II)I -/
def rmX11_cart : Room := { frames := 2, cells := 0, slots := 0, locals := 43 }
theorem yo_X11_cart : yX11_cart.cls = RX11 ∧ yX11_cart.cls ≠ "java/lang/invoke/MethodHandle" ∧ yX11_cart.cls ≠ "java/lang/invoke/VarHandle" ∧ (parseMethodDescriptor yX11_cart.desc).map (fun d => d.parameters.length) = some 2 := by decide +kernel
theorem kX11_cart_25 : Cond.fieldLink RX11 25 "SnowCourseModel" (TX11 20).2.1 (TX11 20).2.2.1 ∈ wsX11_cart := by decide +kernel
theorem iX11_cart_X11 : ∀ w ∈ u_ws RX11 TX11 39, w ∈ wsX11_cart := by decide +kernel
def vc_X11_cart (p1 : Int32) (p2 : Int32) (I : MI) (J : MJ) (Q : Int32 → MI → MJ → Prop) : Prop := vc_X11_isCart p1 I J (fun (r3 : Int32) (I1 : MI) (J2 : MJ) => ((¬ r3 = 0 → ((p2 = 0 → vc_X11_kindOf p1 I1 J2 (fun (r8 : Int32) (I6 : MI) (J7 : MJ) => Q r8 I6 J7)) ∧ (¬ p2 = 0 → ((p2 = 1 → vc_X11_strawOf p1 I1 J2 (fun (r12 : Int32) (I10 : MI) (J11 : MJ) => Q r12 I10 J11)) ∧ (¬ p2 = 1 → ((p2 = 2 → vp_in p1 20 ∧ Q (I1 93 (Int32.toNatClampNeg p1)) I1 J2) ∧ (¬ p2 = 2 → ((p2 = 3 → vp_in (4 + p1) 20 ∧ Q (I1 93 (Int32.toNatClampNeg (4 + p1))) I1 J2) ∧ (¬ p2 = 3 → ((p2 = 4 → vp_in (8 + p1) 20 ∧ Q (I1 93 (Int32.toNatClampNeg (8 + p1))) I1 J2) ∧ (¬ p2 = 4 → Q (-3) I1 J2))))))))))) ∧ (r3 = 0 → Q (-2) I1 J2)))
set_option maxRecDepth 100000 in
set_option maxHeartbeats 4000000 in
theorem c_X11_cart (l : Launch) (E : ET)  (p1 : Int32) (p2 : Int32) : CI l yX11_cart wsX11_cart rmX11_cart E [.ref (ea E 87), .int p1, .int p2] (vc_X11_cart p1 p2) := by
  refine CI.of (cc := cX11_cart) (maxL := 3) (own := RX11) (by decide) rfl rfl (Nat.le_of_ble_eq_true rfl) ?_
  intro Z I J Q hE hl X R h
  subst hE
  subst hl
  show GW Z 3 I J 0 [(0, .ref (ea (zE Z) 87)), (1, .int p1), (2, .int p2)] []
  refine g_aload_n X dX11_cart_0 rfl 0 rfl ?_
  refine g_iload_n X dX11_cart_1 rfl 1 rfl ?_
  refine g_callVI X (As := [.int p1]) (rest := []) (T := TX11) (N := 39) (c_X11_isCart (zl Z) (zE Z) p1) gX11_cart_X11_isCart yo_X11_isCart rfl ⟨Nat.le_of_ble_eq_true rfl, Nat.le_of_ble_eq_true rfl⟩ (Nat.le_of_ble_eq_true rfl) rfl rfl rfl dX11_cart_2 h (fun r3 I1 J2 h => ?_)
  refine g_if_ne X (tgt := 11) dX11_cart_5 (by decide) (fun c4 => ?_) (fun c4 => ?_)
  · have h := h.1 c4
    refine g_iload_n X dX11_cart_11 rfl 2 rfl ?_
    by_cases c5 : p2 = 0
    · have h := h.1 c5
      refine g_tin X (tgt := 48) dX11_cart_12 c5 (by decide) (by decide) rfl (by decide) ?_
      refine g_aload_n X dX11_cart_48 rfl 0 rfl ?_
      refine g_iload_n X dX11_cart_49 rfl 1 rfl ?_
      refine g_callVI X (As := [.int p1]) (rest := []) (T := TX11) (N := 39) (c_X11_kindOf (zl Z) (zE Z) p1) gX11_cart_X11_kindOf yo_X11_kindOf rfl ⟨Nat.le_of_ble_eq_true rfl, Nat.le_of_ble_eq_true rfl⟩ (Nat.le_of_ble_eq_true rfl) rfl rfl rfl dX11_cart_50 h (fun r8 I6 J7 h => ?_)
      exact g_iret X R dX11_cart_53 h
    have h := h.2 c5
    by_cases c9 : p2 = 1
    · have h := h.1 c9
      refine g_tin X (tgt := 54) dX11_cart_12 c9 (by decide) (by decide) rfl (by decide) ?_
      refine g_aload_n X dX11_cart_54 rfl 0 rfl ?_
      refine g_iload_n X dX11_cart_55 rfl 1 rfl ?_
      refine g_callVI X (As := [.int p1]) (rest := []) (T := TX11) (N := 39) (c_X11_strawOf (zl Z) (zE Z) p1) gX11_cart_X11_strawOf yo_X11_strawOf rfl ⟨Nat.le_of_ble_eq_true rfl, Nat.le_of_ble_eq_true rfl⟩ (Nat.le_of_ble_eq_true rfl) rfl rfl rfl dX11_cart_56 h (fun r12 I10 J11 h => ?_)
      exact g_iret X R dX11_cart_59 h
    have h := h.2 c9
    by_cases c13 : p2 = 2
    · have h := h.1 c13
      refine g_tin X (tgt := 60) dX11_cart_12 c13 (by decide) (by decide) rfl (by decide) ?_
      refine g_aload_n X dX11_cart_60 rfl 0 rfl ?_
      refine g_getr X (C := RX11) (T := TX11) (N := 39) (ci := 9) (k := 20) iX11_cart_X11 rfl kX11_cart_25 (Nat.le_of_ble_eq_true rfl) rfl (by decide) rfl rfl dX11_cart_61 ?_
      refine g_iload_n X dX11_cart_64 rfl 1 rfl ?_
      obtain ⟨b14, h⟩ := h
      refine g_iald X (Nat.le_of_ble_eq_true rfl) rfl b14 dX11_cart_65 ?_
      exact g_iret X R dX11_cart_66 h
    have h := h.2 c13
    by_cases c15 : p2 = 3
    · have h := h.1 c15
      refine g_tin X (tgt := 67) dX11_cart_12 c15 (by decide) (by decide) rfl (by decide) ?_
      refine g_aload_n X dX11_cart_67 rfl 0 rfl ?_
      refine g_getr X (C := RX11) (T := TX11) (N := 39) (ci := 9) (k := 20) iX11_cart_X11 rfl kX11_cart_25 (Nat.le_of_ble_eq_true rfl) rfl (by decide) rfl rfl dX11_cart_68 ?_
      refine g_iconst X (v := 4) dX11_cart_71 (by decide) ?_
      refine g_iload_n X dX11_cart_72 rfl 1 rfl ?_
      refine g_iadd X dX11_cart_73 ?_
      obtain ⟨b16, h⟩ := h
      refine g_iald X (Nat.le_of_ble_eq_true rfl) rfl b16 dX11_cart_74 ?_
      exact g_iret X R dX11_cart_75 h
    have h := h.2 c15
    by_cases c17 : p2 = 4
    · have h := h.1 c17
      refine g_tin X (tgt := 76) dX11_cart_12 c17 (by decide) (by decide) rfl (by decide) ?_
      refine g_aload_n X dX11_cart_76 rfl 0 rfl ?_
      refine g_getr X (C := RX11) (T := TX11) (N := 39) (ci := 9) (k := 20) iX11_cart_X11 rfl kX11_cart_25 (Nat.le_of_ble_eq_true rfl) rfl (by decide) rfl rfl dX11_cart_77 ?_
      refine g_bipush X (v := 8) dX11_cart_80 (by decide) ?_
      refine g_iload_n X dX11_cart_82 rfl 1 rfl ?_
      refine g_iadd X dX11_cart_83 ?_
      obtain ⟨b18, h⟩ := h
      refine g_iald X (Nat.le_of_ble_eq_true rfl) rfl b18 dX11_cart_84 ?_
      exact g_iret X R dX11_cart_85 h
    have h := h.2 c17
    refine g_tout X (tgt := 86) dX11_cart_12 (sw_out (hi := 4) (fun k hk => by match k, hk with | 0, _ => exact c5 | 1, _ => exact c9 | 2, _ => exact c13 | 3, _ => exact c15 | 4, _ => exact c17 | k + 5, hk => exact absurd hk (by omega)) (by decide)) (by decide) ?_
    refine g_bipush X (v := (-3)) dX11_cart_86 (by decide) ?_
    exact g_iret X R dX11_cart_88 h
  · have h := h.2 c4
    refine g_bipush X (v := (-2)) dX11_cart_8 (by decide) ?_
    exact g_iret X R dX11_cart_10 h

/-! X11_as.as(II)I -/
def rmX11_as : Room := { frames := 3, cells := 0, slots := 0, locals := 73 }
theorem yo_X11_as : yX11_as.cls = RX11 ∧ yX11_as.cls ≠ "java/lang/invoke/MethodHandle" ∧ yX11_as.cls ≠ "java/lang/invoke/VarHandle" ∧ (parseMethodDescriptor yX11_as.desc).map (fun d => d.parameters.length) = some 2 := by decide +kernel
theorem kX11_as_25 : Cond.fieldLink RX11 25 "SnowCourseModel" (TX11 20).2.1 (TX11 20).2.2.1 ∈ wsX11_as := by decide +kernel
theorem iX11_as_X11 : ∀ w ∈ u_ws RX11 TX11 39, w ∈ wsX11_as := by decide +kernel
def vc_X11_as_B48  (Q : Int32 → MI → MJ → Prop)  (v1 : Int32) (v3 : Int32) (I : MI) (J : MJ) : Prop := vc_X11_kindOf v1 I J (fun (r3 : Int32) (I1 : MI) (J2 : MJ) => vc_X11_strawOf v1 I1 J2 (fun (r6 : Int32) (I4 : MI) (J5 : MJ) => vp_in (4 + v1) 20 ∧ vp_in v1 20 ∧ vc_X11_restedBy v3 r3 r6 (I4 93 (Int32.toNatClampNeg (4 + v1))) (I4 93 (Int32.toNatClampNeg v1)) I4 J5 (fun (r11 : Int32) (I9 : MI) (J10 : MJ) => Q (v3 - r11) I9 J10)))
set_option maxRecDepth 100000 in
set_option maxHeartbeats 4000000 in
theorem w_X11_as_B48 {Z : RT}  (X : Cx Z cX11_as 4 RX11 wsX11_as rmX11_as (some .int)) {Q : Int32 → MI → MJ → Prop} (R : RI Z Q)    (v1 : Int32) (v3 : Int32) (I : MI) (J : MJ) (h : vc_X11_as_B48  Q  v1 v3 I J) : GW Z 4 I J 48 [(0, .ref (ea (zE Z) 87)), (1, .int v1), (3, .int v3)] [] := by
  refine g_iload_n X dX11_as_48 rfl 2 rfl ?_
  refine g_aload_n X dX11_as_49 rfl 0 rfl ?_
  refine g_iload_n X dX11_as_50 rfl 2 rfl ?_
  refine g_aload_n X dX11_as_51 rfl 0 rfl ?_
  refine g_iload_n X dX11_as_52 rfl 1 rfl ?_
  refine g_callVI X (As := [.int v1]) (rest := [.int v3, .ref (ea (zE Z) 87), .int v3]) (T := TX11) (N := 39) (c_X11_kindOf (zl Z) (zE Z) v1) gX11_as_X11_kindOf yo_X11_kindOf rfl ⟨Nat.le_of_ble_eq_true rfl, Nat.le_of_ble_eq_true rfl⟩ (Nat.le_of_ble_eq_true rfl) rfl rfl rfl dX11_as_53 h (fun r3 I1 J2 h => ?_)
  refine g_aload_n X dX11_as_56 rfl 0 rfl ?_
  refine g_iload_n X dX11_as_57 rfl 1 rfl ?_
  refine g_callVI X (As := [.int v1]) (rest := [.int r3, .int v3, .ref (ea (zE Z) 87), .int v3]) (T := TX11) (N := 39) (c_X11_strawOf (zl Z) (zE Z) v1) gX11_as_X11_strawOf yo_X11_strawOf rfl ⟨Nat.le_of_ble_eq_true rfl, Nat.le_of_ble_eq_true rfl⟩ (Nat.le_of_ble_eq_true rfl) rfl rfl rfl dX11_as_58 h (fun r6 I4 J5 h => ?_)
  refine g_aload_n X dX11_as_61 rfl 0 rfl ?_
  refine g_getr X (C := RX11) (T := TX11) (N := 39) (ci := 9) (k := 20) iX11_as_X11 rfl kX11_as_25 (Nat.le_of_ble_eq_true rfl) rfl (by decide) rfl rfl dX11_as_62 ?_
  refine g_iconst X (v := 4) dX11_as_65 (by decide) ?_
  refine g_iload_n X dX11_as_66 rfl 1 rfl ?_
  refine g_iadd X dX11_as_67 ?_
  obtain ⟨b7, h⟩ := h
  refine g_iald X (Nat.le_of_ble_eq_true rfl) rfl b7 dX11_as_68 ?_
  refine g_aload_n X dX11_as_69 rfl 0 rfl ?_
  refine g_getr X (C := RX11) (T := TX11) (N := 39) (ci := 9) (k := 20) iX11_as_X11 rfl kX11_as_25 (Nat.le_of_ble_eq_true rfl) rfl (by decide) rfl rfl dX11_as_70 ?_
  refine g_iload_n X dX11_as_73 rfl 1 rfl ?_
  obtain ⟨b8, h⟩ := h
  refine g_iald X (Nat.le_of_ble_eq_true rfl) rfl b8 dX11_as_74 ?_
  refine g_callVI X (As := [.int v3, .int r3, .int r6, .int (I4 93 (Int32.toNatClampNeg (4 + v1))), .int (I4 93 (Int32.toNatClampNeg v1))]) (rest := [.int v3]) (T := TX11) (N := 39) (c_X11_restedBy (zl Z) (zE Z) v3 r3 r6 (I4 93 (Int32.toNatClampNeg (4 + v1))) (I4 93 (Int32.toNatClampNeg v1))) gX11_as_X11_restedBy yo_X11_restedBy rfl ⟨Nat.le_of_ble_eq_true rfl, Nat.le_of_ble_eq_true rfl⟩ (Nat.le_of_ble_eq_true rfl) rfl rfl rfl dX11_as_75 h (fun r11 I9 J10 h => ?_)
  refine g_isub X dX11_as_78 ?_
  refine g_goto X (tgt := 84) dX11_as_79 (by decide) ?_
  exact g_iret X R dX11_as_84 h
def vc_X11_as (p1 : Int32) (p2 : Int32) (I : MI) (J : MJ) (Q : Int32 → MI → MJ → Prop) : Prop := vc_X11_isCart p1 I J (fun (r14 : Int32) (I12 : MI) (J13 : MJ) => ((¬ r14 = 0 → vc_X11_in p2 0 3 I12 J13 (fun (r18 : Int32) (I16 : MI) (J17 : MJ) => ((¬ r18 = 0 → vp_in (8 + p1) 20 ∧ ∀ x21 : Int32, x21 = I16 93 (Int32.toNatClampNeg (8 + p1)) → ((p2 = 0 → vc_X11_as_B48  Q  p1 x21 I16 J17) ∧ (¬ p2 = 0 → vc_X11_kindOf p1 I16 J17 (fun (r25 : Int32) (I23 : MI) (J24 : MJ) => ((r25 < (p2 - 1) → Q (-4) I23 J24) ∧ (¬ r25 < (p2 - 1) → vc_X11_as_B48  Q  p1 x21 I23 J24)))))) ∧ (r18 = 0 → Q (-3) I16 J17)))) ∧ (r14 = 0 → Q (-2) I12 J13)))
set_option maxRecDepth 100000 in
set_option maxHeartbeats 4000000 in
theorem c_X11_as (l : Launch) (E : ET)  (p1 : Int32) (p2 : Int32) : CI l yX11_as wsX11_as rmX11_as E [.ref (ea E 87), .int p1, .int p2] (vc_X11_as p1 p2) := by
  refine CI.of (cc := cX11_as) (maxL := 4) (own := RX11) (by decide) rfl rfl (Nat.le_of_ble_eq_true rfl) ?_
  intro Z I J Q hE hl X R h
  subst hE
  subst hl
  show GW Z 4 I J 0 [(0, .ref (ea (zE Z) 87)), (1, .int p1), (2, .int p2)] []
  refine g_aload_n X dX11_as_0 rfl 0 rfl ?_
  refine g_iload_n X dX11_as_1 rfl 1 rfl ?_
  refine g_callVI X (As := [.int p1]) (rest := []) (T := TX11) (N := 39) (c_X11_isCart (zl Z) (zE Z) p1) gX11_as_X11_isCart yo_X11_isCart rfl ⟨Nat.le_of_ble_eq_true rfl, Nat.le_of_ble_eq_true rfl⟩ (Nat.le_of_ble_eq_true rfl) rfl rfl rfl dX11_as_2 h (fun r14 I12 J13 h => ?_)
  refine g_if_ne X (tgt := 11) dX11_as_5 (by decide) (fun c15 => ?_) (fun c15 => ?_)
  · have h := h.1 c15
    refine g_iload_n X dX11_as_11 rfl 2 rfl ?_
    refine g_iconst X (v := 0) dX11_as_12 (by decide) ?_
    refine g_iconst X (v := 3) dX11_as_13 (by decide) ?_
    refine g_callSI X (As := [.int p2, .int 0, .int 3]) (rest := []) (c_X11_in (zl Z) (zE Z) p2 0 3) gX11_as_X11_in yo_X11_in.2 rfl ⟨Nat.le_of_ble_eq_true rfl, Nat.le_of_ble_eq_true rfl⟩ rfl dX11_as_14 h (fun r18 I16 J17 h => ?_)
    refine g_if_ne X (tgt := 23) dX11_as_17 (by decide) (fun c19 => ?_) (fun c19 => ?_)
    · have h := h.1 c19
      refine g_aload_n X dX11_as_23 rfl 0 rfl ?_
      refine g_getr X (C := RX11) (T := TX11) (N := 39) (ci := 9) (k := 20) iX11_as_X11 rfl kX11_as_25 (Nat.le_of_ble_eq_true rfl) rfl (by decide) rfl rfl dX11_as_24 ?_
      refine g_bipush X (v := 8) dX11_as_27 (by decide) ?_
      refine g_iload_n X dX11_as_29 rfl 1 rfl ?_
      refine g_iadd X dX11_as_30 ?_
      obtain ⟨b20, h⟩ := h
      refine g_iald X (Nat.le_of_ble_eq_true rfl) rfl b20 dX11_as_31 ?_
      refine g_topi (fun x21 ex21 => ?_)
      have h := h x21 ex21
      refine g_istore_n X (lv' := [(3, .int x21), (0, .ref (ea (zE Z) 87)), (1, .int p1), (2, .int p2)]) dX11_as_32 rfl (by decide) rfl ?_
      refine g_iload_n X dX11_as_33 rfl 3 rfl ?_
      refine g_if_eq X (tgt := 48) dX11_as_34 (by decide) (fun c22 => ?_) (fun c22 => ?_)
      · have h := h.1 c22
        refine GW.sub (lv' := [(0, .ref (ea (zE Z) 87)), (1, .int p1), (3, .int x21)]) [1, 2, 0] rfl ?_
        exact w_X11_as_B48 X R   p1 x21 I16 J17 h
      · have h := h.2 c22
        refine g_aload_n X dX11_as_37 rfl 1 rfl ?_
        refine g_iload_n X dX11_as_38 rfl 2 rfl ?_
        refine g_callVI X (As := [.int p1]) (rest := []) (T := TX11) (N := 39) (c_X11_kindOf (zl Z) (zE Z) p1) gX11_as_X11_kindOf yo_X11_kindOf rfl ⟨Nat.le_of_ble_eq_true rfl, Nat.le_of_ble_eq_true rfl⟩ (Nat.le_of_ble_eq_true rfl) rfl rfl rfl dX11_as_39 h (fun r25 I23 J24 h => ?_)
        refine g_iload_n X dX11_as_42 rfl 3 rfl ?_
        refine g_iconst X (v := 1) dX11_as_43 (by decide) ?_
        refine g_isub X dX11_as_44 ?_
        refine g_icmp_lt X (tgt := 82) dX11_as_45 (by decide) (fun c26 => ?_) (fun c26 => ?_)
        · have h := h.1 c26
          refine g_bipush X (v := (-4)) dX11_as_82 (by decide) ?_
          exact g_iret X R dX11_as_84 h
        · have h := h.2 c26
          refine GW.sub (lv' := [(0, .ref (ea (zE Z) 87)), (1, .int p1), (3, .int x21)]) [1, 2, 0] rfl ?_
          exact w_X11_as_B48 X R   p1 x21 I23 J24 h
    · have h := h.2 c19
      refine g_bipush X (v := (-3)) dX11_as_20 (by decide) ?_
      exact g_iret X R dX11_as_22 h
  · have h := h.2 c15
    refine g_bipush X (v := (-2)) dX11_as_8 (by decide) ?_
    exact g_iret X R dX11_as_10 h

/-! X11_roadAs.roadAs(II)I -/
def rmX11_roadAs : Room := { frames := 3, cells := 0, slots := 0, locals := 75 }
theorem yo_X11_roadAs : yX11_roadAs.cls = RX11 ∧ yX11_roadAs.cls ≠ "java/lang/invoke/MethodHandle" ∧ yX11_roadAs.cls ≠ "java/lang/invoke/VarHandle" ∧ (parseMethodDescriptor yX11_roadAs.desc).map (fun d => d.parameters.length) = some 2 := by decide +kernel
theorem kX11_roadAs_13 : Cond.fieldLink RX11 13 "SnowCourseModel" (TX11 3).2.1 (TX11 3).2.2.1 ∈ wsX11_roadAs := by decide +kernel
theorem iX11_roadAs_X11 : ∀ w ∈ u_ws RX11 TX11 39, w ∈ wsX11_roadAs := by decide +kernel
def vc_X11_roadAs_B74  (Q : Int32 → MI → MJ → Prop)  (v1 : Int32) (s0 : Int32) (I : MI) (J : MJ) : Prop := ((s0 = 0 → Q (-4) I J) ∧ (¬ s0 = 0 → vc_X11_comesBy v1 50 0 0 0 I J (fun (r4 : Int32) (I2 : MI) (J3 : MJ) => Q r4 I2 J3)))
set_option maxRecDepth 100000 in
set_option maxHeartbeats 4000000 in
theorem w_X11_roadAs_B74 {Z : RT}  (X : Cx Z cX11_roadAs 5 RX11 wsX11_roadAs rmX11_roadAs (some .int)) {Q : Int32 → MI → MJ → Prop} (R : RI Z Q)    (v1 : Int32) (s0 : Int32) (I : MI) (J : MJ) (h : vc_X11_roadAs_B74  Q  v1 s0 I J) : GW Z 5 I J 74 [(0, .ref (ea (zE Z) 87)), (1, .int v1)] [.int s0] := by
  refine g_istore X (lv' := [(4, .int s0), (0, .ref (ea (zE Z) 87)), (1, .int v1)]) dX11_roadAs_74 (by decide) rfl ?_
  refine g_iload X dX11_roadAs_76 0 rfl ?_
  refine g_if_eq X (tgt := 94) dX11_roadAs_78 (by decide) (fun c1 => ?_) (fun c1 => ?_)
  · have h := h.1 c1
    refine g_bipush X (v := (-4)) dX11_roadAs_94 (by decide) ?_
    exact g_iret X R dX11_roadAs_96 h
  · have h := h.2 c1
    refine g_aload_n X dX11_roadAs_81 rfl 1 rfl ?_
    refine g_iload_n X dX11_roadAs_82 rfl 2 rfl ?_
    refine g_bipush X (v := 50) dX11_roadAs_83 (by decide) ?_
    refine g_iconst X (v := 0) dX11_roadAs_85 (by decide) ?_
    refine g_iconst X (v := 0) dX11_roadAs_86 (by decide) ?_
    refine g_iconst X (v := 0) dX11_roadAs_87 (by decide) ?_
    refine g_callVI X (As := [.int v1, .int 50, .int 0, .int 0, .int 0]) (rest := []) (T := TX11) (N := 39) (c_X11_comesBy (zl Z) (zE Z) v1 50 0 0 0) gX11_roadAs_X11_comesBy yo_X11_comesBy rfl ⟨Nat.le_of_ble_eq_true rfl, Nat.le_of_ble_eq_true rfl⟩ (Nat.le_of_ble_eq_true rfl) rfl rfl rfl dX11_roadAs_88 h (fun r4 I2 J3 h => ?_)
    refine g_goto X (tgt := 96) dX11_roadAs_91 (by decide) ?_
    exact g_iret X R dX11_roadAs_96 h
def vc_X11_roadAs_B69  (Q : Int32 → MI → MJ → Prop)  (v1 : Int32) (I : MI) (J : MJ) : Prop := vc_X11_roadAs_B74  Q  v1 1 I J
set_option maxRecDepth 100000 in
set_option maxHeartbeats 4000000 in
theorem w_X11_roadAs_B69 {Z : RT}  (X : Cx Z cX11_roadAs 5 RX11 wsX11_roadAs rmX11_roadAs (some .int)) {Q : Int32 → MI → MJ → Prop} (R : RI Z Q)    (v1 : Int32) (I : MI) (J : MJ) (h : vc_X11_roadAs_B69  Q  v1 I J) : GW Z 5 I J 69 [(0, .ref (ea (zE Z) 87)), (1, .int v1)] [] := by
  refine g_iconst X (v := 1) dX11_roadAs_69 (by decide) ?_
  refine g_goto X (tgt := 74) dX11_roadAs_70 (by decide) ?_
  refine GW.sub (lv' := [(0, .ref (ea (zE Z) 87)), (1, .int v1)]) [0, 1] rfl ?_
  exact w_X11_roadAs_B74 X R   v1 1 I J h
def vc_X11_roadAs_B73  (Q : Int32 → MI → MJ → Prop)  (v1 : Int32) (I : MI) (J : MJ) : Prop := vc_X11_roadAs_B74  Q  v1 0 I J
set_option maxRecDepth 100000 in
set_option maxHeartbeats 4000000 in
theorem w_X11_roadAs_B73 {Z : RT}  (X : Cx Z cX11_roadAs 5 RX11 wsX11_roadAs rmX11_roadAs (some .int)) {Q : Int32 → MI → MJ → Prop} (R : RI Z Q)    (v1 : Int32) (I : MI) (J : MJ) (h : vc_X11_roadAs_B73  Q  v1 I J) : GW Z 5 I J 73 [(0, .ref (ea (zE Z) 87)), (1, .int v1)] [] := by
  refine g_iconst X (v := 0) dX11_roadAs_73 (by decide) ?_
  refine GW.sub (lv' := [(0, .ref (ea (zE Z) 87)), (1, .int v1)]) [0, 1] rfl ?_
  exact w_X11_roadAs_B74 X R   v1 0 I J h
def vc_X11_roadAs (p1 : Int32) (p2 : Int32) (I : MI) (J : MJ) (Q : Int32 → MI → MJ → Prop) : Prop := vc_X11_isRoad p1 I J (fun (r7 : Int32) (I5 : MI) (J6 : MJ) => ((¬ r7 = 0 → vc_X11_in p2 0 3 I5 J6 (fun (r11 : Int32) (I9 : MI) (J10 : MJ) => ((¬ r11 = 0 → vp_in ((4 * p1) + 3) 36 ∧ ∀ x14 : Int32, x14 = I9 89 (Int32.toNatClampNeg ((4 * p1) + 3)) → ((p2 = 0 → vc_X11_roadAs_B69  Q  p1 I9 J10) ∧ (¬ p2 = 0 → ((¬ p2 = 1 → ((¬ p2 = 2 → ((¬ x14 = 2 → vc_X11_roadAs_B73  Q  p1 I9 J10) ∧ (x14 = 2 → vc_X11_roadAs_B69  Q  p1 I9 J10))) ∧ (p2 = 2 → ((¬ x14 = 1 → vc_X11_roadAs_B73  Q  p1 I9 J10) ∧ (x14 = 1 → vc_X11_roadAs_B69  Q  p1 I9 J10))))) ∧ (p2 = 1 → ((x14 = 1 → vc_X11_roadAs_B73  Q  p1 I9 J10) ∧ (¬ x14 = 1 → vc_X11_roadAs_B69  Q  p1 I9 J10))))))) ∧ (r11 = 0 → Q (-3) I9 J10)))) ∧ (r7 = 0 → Q (-2) I5 J6)))
set_option maxRecDepth 100000 in
set_option maxHeartbeats 4000000 in
theorem c_X11_roadAs (l : Launch) (E : ET)  (p1 : Int32) (p2 : Int32) : CI l yX11_roadAs wsX11_roadAs rmX11_roadAs E [.ref (ea E 87), .int p1, .int p2] (vc_X11_roadAs p1 p2) := by
  refine CI.of (cc := cX11_roadAs) (maxL := 5) (own := RX11) (by decide) rfl rfl (Nat.le_of_ble_eq_true rfl) ?_
  intro Z I J Q hE hl X R h
  subst hE
  subst hl
  show GW Z 5 I J 0 [(0, .ref (ea (zE Z) 87)), (1, .int p1), (2, .int p2)] []
  refine g_aload_n X dX11_roadAs_0 rfl 0 rfl ?_
  refine g_iload_n X dX11_roadAs_1 rfl 1 rfl ?_
  refine g_callVI X (As := [.int p1]) (rest := []) (T := TX11) (N := 39) (c_X11_isRoad (zl Z) (zE Z) p1) gX11_roadAs_X11_isRoad yo_X11_isRoad rfl ⟨Nat.le_of_ble_eq_true rfl, Nat.le_of_ble_eq_true rfl⟩ (Nat.le_of_ble_eq_true rfl) rfl rfl rfl dX11_roadAs_2 h (fun r7 I5 J6 h => ?_)
  refine g_if_ne X (tgt := 11) dX11_roadAs_5 (by decide) (fun c8 => ?_) (fun c8 => ?_)
  · have h := h.1 c8
    refine g_iload_n X dX11_roadAs_11 rfl 2 rfl ?_
    refine g_iconst X (v := 0) dX11_roadAs_12 (by decide) ?_
    refine g_iconst X (v := 3) dX11_roadAs_13 (by decide) ?_
    refine g_callSI X (As := [.int p2, .int 0, .int 3]) (rest := []) (c_X11_in (zl Z) (zE Z) p2 0 3) gX11_roadAs_X11_in yo_X11_in.2 rfl ⟨Nat.le_of_ble_eq_true rfl, Nat.le_of_ble_eq_true rfl⟩ rfl dX11_roadAs_14 h (fun r11 I9 J10 h => ?_)
    refine g_if_ne X (tgt := 23) dX11_roadAs_17 (by decide) (fun c12 => ?_) (fun c12 => ?_)
    · have h := h.1 c12
      refine g_aload_n X dX11_roadAs_23 rfl 0 rfl ?_
      refine g_getr X (C := RX11) (T := TX11) (N := 39) (ci := 9) (k := 3) iX11_roadAs_X11 rfl kX11_roadAs_13 (Nat.le_of_ble_eq_true rfl) rfl (by decide) rfl rfl dX11_roadAs_24 ?_
      refine g_iconst X (v := 4) dX11_roadAs_27 (by decide) ?_
      refine g_iload_n X dX11_roadAs_28 rfl 1 rfl ?_
      refine g_imul X dX11_roadAs_29 ?_
      refine g_iconst X (v := 3) dX11_roadAs_30 (by decide) ?_
      refine g_iadd X dX11_roadAs_31 ?_
      obtain ⟨b13, h⟩ := h
      refine g_iald X (Nat.le_of_ble_eq_true rfl) rfl b13 dX11_roadAs_32 ?_
      refine g_topi (fun x14 ex14 => ?_)
      have h := h x14 ex14
      refine g_istore_n X (lv' := [(3, .int x14), (0, .ref (ea (zE Z) 87)), (1, .int p1), (2, .int p2)]) dX11_roadAs_33 rfl (by decide) rfl ?_
      refine g_iload_n X dX11_roadAs_34 rfl 3 rfl ?_
      refine g_if_eq X (tgt := 69) dX11_roadAs_35 (by decide) (fun c15 => ?_) (fun c15 => ?_)
      · have h := h.1 c15
        refine GW.sub (lv' := [(0, .ref (ea (zE Z) 87)), (1, .int p1)]) [1, 2] rfl ?_
        exact w_X11_roadAs_B69 X R   p1 I9 J10 h
      · have h := h.2 c15
        refine g_iload_n X dX11_roadAs_38 rfl 3 rfl ?_
        refine g_iconst X (v := 1) dX11_roadAs_39 (by decide) ?_
        refine g_icmp_ne X (tgt := 51) dX11_roadAs_40 (by decide) (fun c16 => ?_) (fun c16 => ?_)
        · have h := h.1 c16
          refine g_iload_n X dX11_roadAs_51 rfl 3 rfl ?_
          refine g_iconst X (v := 2) dX11_roadAs_52 (by decide) ?_
          refine g_icmp_ne X (tgt := 64) dX11_roadAs_53 (by decide) (fun c17 => ?_) (fun c17 => ?_)
          · have h := h.1 c17
            refine g_iload_n X dX11_roadAs_64 rfl 0 rfl ?_
            refine g_iconst X (v := 2) dX11_roadAs_65 (by decide) ?_
            refine g_icmp_ne X (tgt := 73) dX11_roadAs_66 (by decide) (fun c18 => ?_) (fun c18 => ?_)
            · have h := h.1 c18
              refine GW.sub (lv' := [(0, .ref (ea (zE Z) 87)), (1, .int p1)]) [1, 2] rfl ?_
              exact w_X11_roadAs_B73 X R   p1 I9 J10 h
            · have h := h.2 c18
              refine GW.sub (lv' := [(0, .ref (ea (zE Z) 87)), (1, .int p1)]) [1, 2] rfl ?_
              exact w_X11_roadAs_B69 X R   p1 I9 J10 h
          · have h := h.2 c17
            refine g_iload_n X dX11_roadAs_56 rfl 0 rfl ?_
            refine g_iconst X (v := 1) dX11_roadAs_57 (by decide) ?_
            refine g_icmp_ne X (tgt := 73) dX11_roadAs_58 (by decide) (fun c19 => ?_) (fun c19 => ?_)
            · have h := h.1 c19
              refine GW.sub (lv' := [(0, .ref (ea (zE Z) 87)), (1, .int p1)]) [1, 2] rfl ?_
              exact w_X11_roadAs_B73 X R   p1 I9 J10 h
            · have h := h.2 c19
              refine g_goto X (tgt := 69) dX11_roadAs_61 (by decide) ?_
              refine GW.sub (lv' := [(0, .ref (ea (zE Z) 87)), (1, .int p1)]) [1, 2] rfl ?_
              exact w_X11_roadAs_B69 X R   p1 I9 J10 h
        · have h := h.2 c16
          refine g_iload_n X dX11_roadAs_43 rfl 0 rfl ?_
          refine g_iconst X (v := 1) dX11_roadAs_44 (by decide) ?_
          refine g_icmp_eq X (tgt := 73) dX11_roadAs_45 (by decide) (fun c20 => ?_) (fun c20 => ?_)
          · have h := h.1 c20
            refine GW.sub (lv' := [(0, .ref (ea (zE Z) 87)), (1, .int p1)]) [1, 2] rfl ?_
            exact w_X11_roadAs_B73 X R   p1 I9 J10 h
          · have h := h.2 c20
            refine g_goto X (tgt := 69) dX11_roadAs_48 (by decide) ?_
            refine GW.sub (lv' := [(0, .ref (ea (zE Z) 87)), (1, .int p1)]) [1, 2] rfl ?_
            exact w_X11_roadAs_B69 X R   p1 I9 J10 h
    · have h := h.2 c12
      refine g_bipush X (v := (-3)) dX11_roadAs_20 (by decide) ?_
      exact g_iret X R dX11_roadAs_22 h
  · have h := h.2 c8
    refine g_bipush X (v := (-2)) dX11_roadAs_8 (by decide) ?_
    exact g_iret X R dX11_roadAs_10 h

/-! X11_price.price(I)I -/
def rmX11_price : Room := { frames := 1, cells := 0, slots := 0, locals := 22 }
theorem yo_X11_price : yX11_price.cls = RX11 ∧ yX11_price.cls ≠ "java/lang/invoke/MethodHandle" ∧ yX11_price.cls ≠ "java/lang/invoke/VarHandle" ∧ (parseMethodDescriptor yX11_price.desc).map (fun d => d.parameters.length) = some 1 := by decide +kernel
def vc_X11_price (p1 : Int32) (I : MI) (J : MJ) (Q : Int32 → MI → MJ → Prop) : Prop := vc_X11_in p1 0 48 I J (fun (r3 : Int32) (I1 : MI) (J2 : MJ) => ((r3 = 0 → Q (-3) I1 J2) ∧ (¬ r3 = 0 → vc_X11_priceIn p1 I1 J2 (fun (r7 : Int32) (I5 : MI) (J6 : MJ) => Q r7 I5 J6))))
set_option maxRecDepth 100000 in
set_option maxHeartbeats 4000000 in
theorem c_X11_price (l : Launch) (E : ET)  (p1 : Int32) : CI l yX11_price wsX11_price rmX11_price E [.ref (ea E 87), .int p1] (vc_X11_price p1) := by
  refine CI.of (cc := cX11_price) (maxL := 2) (own := RX11) (by decide) rfl rfl (Nat.le_of_ble_eq_true rfl) ?_
  intro Z I J Q hE hl X R h
  subst hE
  subst hl
  show GW Z 2 I J 0 [(0, .ref (ea (zE Z) 87)), (1, .int p1)] []
  refine g_iload_n X dX11_price_0 rfl 1 rfl ?_
  refine g_iconst X (v := 0) dX11_price_1 (by decide) ?_
  refine g_bipush X (v := 48) dX11_price_2 (by decide) ?_
  refine g_callSI X (As := [.int p1, .int 0, .int 48]) (rest := []) (c_X11_in (zl Z) (zE Z) p1 0 48) gX11_price_X11_in yo_X11_in.2 rfl ⟨Nat.le_of_ble_eq_true rfl, Nat.le_of_ble_eq_true rfl⟩ rfl dX11_price_4 h (fun r3 I1 J2 h => ?_)
  refine g_if_eq X (tgt := 17) dX11_price_7 (by decide) (fun c4 => ?_) (fun c4 => ?_)
  · have h := h.1 c4
    refine g_bipush X (v := (-3)) dX11_price_17 (by decide) ?_
    exact g_iret X R dX11_price_19 h
  · have h := h.2 c4
    refine g_iload_n X dX11_price_10 rfl 1 rfl ?_
    refine g_callSI X (As := [.int p1]) (rest := []) (c_X11_priceIn (zl Z) (zE Z) p1) gX11_price_X11_priceIn yo_X11_priceIn.2 rfl ⟨Nat.le_of_ble_eq_true rfl, Nat.le_of_ble_eq_true rfl⟩ rfl dX11_price_11 h (fun r7 I5 J6 h => ?_)
    refine g_goto X (tgt := 19) dX11_price_14 (by decide) ?_
    exact g_iret X R dX11_price_19 h

/-! X11_copy.copy([II[II)V -/
def rmX11_copy : Room := { frames := 0, cells := 0, slots := 0, locals := 0 }
theorem yo_X11_copy : yX11_copy.cls = RX11 ∧ yX11_copy.cls ≠ "java/lang/invoke/MethodHandle" ∧ yX11_copy.cls ≠ "java/lang/invoke/VarHandle" ∧ (parseMethodDescriptor yX11_copy.desc).map (fun d => d.parameters.length) = some 4 := by decide +kernel
def vc_X11_copy_L3s (a0 n0 : Nat) (a2 n2 : Nat) (Q : MI → MJ → Prop)  (k3 : Int32 → Int32 → Int32 → MI → MJ → Prop) (v1 : Int32) (v3 : Int32) (v4 : Int32) (I : MI) (J : MJ) : Prop := ((20 ≤ v4 → Q I J) ∧ (¬ 20 ≤ v4 → vp_in (v1 + v4) n0 ∧ vp_in (v3 + v4) n2 ∧ ∀ I4 : MI, I4 = wI I a2 (Int32.toNatClampNeg (v3 + v4)) (I a0 (Int32.toNatClampNeg (v1 + v4))) → ∀ x5 : Int32, x5 = v4 + 1 → k3 v1 v3 x5 I4 J))
def vc_X11_copy_L3 (a0 n0 : Nat) (a2 n2 : Nat) (Q : MI → MJ → Prop)  (n : Nat) : Int32 → Int32 → Int32 → MI → MJ → Prop := Nat.rec (fun _ _ _ _ _ => False) (fun _ ih => vc_X11_copy_L3s a0 n0 a2 n2 Q  ih) n
set_option maxRecDepth 100000 in
set_option maxHeartbeats 4000000 in
theorem w_X11_copy_L3s {Z : RT} {a0 n0 : Nat} {a2 n2 : Nat} (X : Cx Z cX11_copy 5 RX11 wsX11_copy rmX11_copy none) {Q : MI → MJ → Prop} (R : RV Z Q) (h0 : a0 < 109) (h0_ : kd a0 = (0, n0)) (h2 : a2 < 109) (h2_ : kd a2 = (0, n2))   {k3 : Int32 → Int32 → Int32 → MI → MJ → Prop} (hk3 : ∀ (v1 : Int32) (v3 : Int32) (v4 : Int32) (I : MI) (J : MJ), k3 v1 v3 v4 I J → GW Z 5 I J 3 [(0, .ref (ea (zE Z) a0)), (1, .int v1), (2, .ref (ea (zE Z) a2)), (3, .int v3), (4, .int v4)] []) (v1 : Int32) (v3 : Int32) (v4 : Int32) (I : MI) (J : MJ) (h : vc_X11_copy_L3s a0 n0 a2 n2 Q  k3 v1 v3 v4 I J) : GW Z 5 I J 3 [(0, .ref (ea (zE Z) a0)), (1, .int v1), (2, .ref (ea (zE Z) a2)), (3, .int v3), (4, .int v4)] [] := by
  refine g_iload X dX11_copy_3 4 rfl ?_
  refine g_bipush X (v := 20) dX11_copy_5 (by decide) ?_
  refine g_icmp_ge X (tgt := 28) dX11_copy_7 (by decide) (fun c1 => ?_) (fun c1 => ?_)
  · have h := h.1 c1
    exact g_vret X R dX11_copy_28 h
  · have h := h.2 c1
    refine g_aload_n X dX11_copy_10 rfl 2 rfl ?_
    refine g_iload_n X dX11_copy_11 rfl 3 rfl ?_
    refine g_iload X dX11_copy_12 4 rfl ?_
    refine g_iadd X dX11_copy_14 ?_
    refine g_aload_n X dX11_copy_15 rfl 0 rfl ?_
    refine g_iload_n X dX11_copy_16 rfl 1 rfl ?_
    refine g_iload X dX11_copy_17 4 rfl ?_
    refine g_iadd X dX11_copy_19 ?_
    obtain ⟨b2, h⟩ := h
    refine g_iald X h0 h0_ b2 dX11_copy_20 ?_
    obtain ⟨b3, h⟩ := h
    refine g_iast X h2 h2_ b3 dX11_copy_21 ?_
    refine g_nmI (fun I4 eI4 => ?_)
    have h := h I4 eI4
    obtain ⟨x5, ex5⟩ : ∃ y : Int32, y = v4 + 1 := ⟨_, rfl⟩
    have h := h x5 ex5
    refine g_iinc X (q := 4) (v := x5) (lv' := [(4, .int x5), (0, .ref (ea (zE Z) a0)), (1, .int v1), (2, .ref (ea (zE Z) a2)), (3, .int v3)]) dX11_copy_22 rfl (by rw [ex5]; rfl) (by decide) rfl ?_
    refine g_goto X (tgt := 3) dX11_copy_25 (by decide) ?_
    refine GW.sub (lv' := [(0, .ref (ea (zE Z) a0)), (1, .int v1), (2, .ref (ea (zE Z) a2)), (3, .int v3), (4, .int x5)]) [1, 2, 3, 4, 0] rfl ?_
    exact hk3 v1 v3 x5 I4 J h
theorem w_X11_copy_L3 {Z : RT} {a0 n0 : Nat} {a2 n2 : Nat} (X : Cx Z cX11_copy 5 RX11 wsX11_copy rmX11_copy none) {Q : MI → MJ → Prop} (R : RV Z Q) (h0 : a0 < 109) (h0_ : kd a0 = (0, n0)) (h2 : a2 < 109) (h2_ : kd a2 = (0, n2))   : ∀ (n : Nat) (v1 : Int32) (v3 : Int32) (v4 : Int32) (I : MI) (J : MJ) (h : vc_X11_copy_L3 a0 n0 a2 n2 Q  n v1 v3 v4 I J), GW Z 5 I J 3 [(0, .ref (ea (zE Z) a0)), (1, .int v1), (2, .ref (ea (zE Z) a2)), (3, .int v3), (4, .int v4)] [] := by
  intro n
  induction n with
  | zero => intro v1 v3 v4 I J h; exact h.elim
  | succ n ih => intro v1 v3 v4 I J h; exact w_X11_copy_L3s X R h0 h0_ h2 h2_  ih v1 v3 v4 I J h
def vc_X11_copy (a0 n0 : Nat) (p1 : Int32) (a2 n2 : Nat) (p3 : Int32) (I : MI) (J : MJ) (Q : MI → MJ → Prop) : Prop := (∃ n, vc_X11_copy_L3 a0 n0 a2 n2 Q  n p1 p3 0 I J)
set_option maxRecDepth 100000 in
set_option maxHeartbeats 4000000 in
theorem c_X11_copy (l : Launch) (E : ET) {a0 n0 : Nat} {a2 n2 : Nat} (h0 : a0 < 109) (h0_ : kd a0 = (0, n0)) (h2 : a2 < 109) (h2_ : kd a2 = (0, n2)) (p1 : Int32) (p3 : Int32) : CV l yX11_copy wsX11_copy rmX11_copy E [.ref (ea E a0), .int p1, .ref (ea E a2), .int p3] (vc_X11_copy a0 n0 p1 a2 n2 p3) := by
  refine CV.of (cc := cX11_copy) (maxL := 5) (own := RX11) (by decide) rfl rfl (Nat.le_of_ble_eq_true rfl) ?_
  intro Z I J Q hE hl X R h
  subst hE
  subst hl
  show GW Z 5 I J 0 [(0, .ref (ea (zE Z) a0)), (1, .int p1), (2, .ref (ea (zE Z) a2)), (3, .int p3)] []
  refine g_iconst X (v := 0) dX11_copy_0 (by decide) ?_
  refine g_istore X (lv' := [(4, .int 0), (0, .ref (ea (zE Z) a0)), (1, .int p1), (2, .ref (ea (zE Z) a2)), (3, .int p3)]) dX11_copy_1 (by decide) rfl ?_
  refine GW.sub (lv' := [(0, .ref (ea (zE Z) a0)), (1, .int p1), (2, .ref (ea (zE Z) a2)), (3, .int p3), (4, .int 0)]) [1, 2, 3, 4, 0] rfl ?_
  obtain ⟨n, h⟩ := h
  exact w_X11_copy_L3 X R h0 h0_ h2 h2_  n p1 p3 0 I J h

/-! X11_note.note()V -/
def rmX11_note : Room := { frames := 1, cells := 0, slots := 0, locals := 24 }
theorem yo_X11_note : yX11_note.cls = RX11 ∧ yX11_note.cls ≠ "java/lang/invoke/MethodHandle" ∧ yX11_note.cls ≠ "java/lang/invoke/VarHandle" ∧ (parseMethodDescriptor yX11_note.desc).map (fun d => d.parameters.length) = some 0 := by decide +kernel
theorem kX11_note_25 : Cond.fieldLink RX11 25 "SnowCourseModel" (TX11 20).2.1 (TX11 20).2.2.1 ∈ wsX11_note := by decide +kernel
theorem iX11_note_X11 : ∀ w ∈ u_ws RX11 TX11 39, w ∈ wsX11_note := by decide +kernel
theorem kX11_note_35 : Cond.fieldLink RX11 35 "SnowCourseModel" (TX11 23).2.1 (TX11 23).2.2.1 ∈ wsX11_note := by decide +kernel
theorem kX11_note_82 : Cond.fieldLink RX11 82 "SnowCourseModel" (TX11 24).2.1 (TX11 24).2.2.1 ∈ wsX11_note := by decide +kernel
def vc_X11_note_B49  (Q : MI → MJ → Prop)   (I : MI) (J : MJ) : Prop := vc_X11_copy 93 20 0 96 160 (20 * (I 87 24)) I J (fun (I1 : MI) (J2 : MJ) => ∀ I3 : MI, I3 = wI I1 87 24 ((I1 87 24) + 1) → Q I3 J2)
set_option maxRecDepth 100000 in
set_option maxHeartbeats 4000000 in
theorem w_X11_note_B49 {Z : RT}  (X : Cx Z cX11_note 2 RX11 wsX11_note rmX11_note none) {Q : MI → MJ → Prop} (R : RV Z Q)     (I : MI) (J : MJ) (h : vc_X11_note_B49  Q   I J) : GW Z 2 I J 49 [(0, .ref (ea (zE Z) 87))] [] := by
  refine g_aload_n X dX11_note_49 rfl 0 rfl ?_
  refine g_getr X (C := RX11) (T := TX11) (N := 39) (ci := 9) (k := 20) iX11_note_X11 rfl kX11_note_25 (Nat.le_of_ble_eq_true rfl) rfl (by decide) rfl rfl dX11_note_50 ?_
  refine g_iconst X (v := 0) dX11_note_53 (by decide) ?_
  refine g_aload_n X dX11_note_54 rfl 0 rfl ?_
  refine g_getr X (C := RX11) (T := TX11) (N := 39) (ci := 9) (k := 23) iX11_note_X11 rfl kX11_note_35 (Nat.le_of_ble_eq_true rfl) rfl (by decide) rfl rfl dX11_note_55 ?_
  refine g_bipush X (v := 20) dX11_note_58 (by decide) ?_
  refine g_aload_n X dX11_note_60 rfl 0 rfl ?_
  refine g_geti X (C := RX11) (T := TX11) (N := 39) (ci := 9) (k := 24) iX11_note_X11 rfl kX11_note_82 (Nat.le_of_ble_eq_true rfl) rfl (by decide) rfl rfl dX11_note_61 ?_
  refine g_imul X dX11_note_64 ?_
  refine g_callSV X (As := [.ref (ea (zE Z) 93), .int 0, .ref (ea (zE Z) 96), .int (20 * (I 87 24))]) (rest := []) (c_X11_copy (zl Z) (zE Z) (Nat.le_of_ble_eq_true rfl) rfl (Nat.le_of_ble_eq_true rfl) rfl 0 (20 * (I 87 24))) gX11_note_X11_copy yo_X11_copy.2 rfl ⟨Nat.le_of_ble_eq_true rfl, Nat.le_of_ble_eq_true rfl⟩ rfl dX11_note_65 h (fun  I1 J2 h => ?_)
  refine g_aload_n X dX11_note_68 rfl 0 rfl ?_
  refine g_dup X dX11_note_69 rfl ?_
  refine g_geti X (C := RX11) (T := TX11) (N := 39) (ci := 9) (k := 24) iX11_note_X11 rfl kX11_note_82 (Nat.le_of_ble_eq_true rfl) rfl (by decide) rfl rfl dX11_note_70 ?_
  refine g_iconst X (v := 1) dX11_note_73 (by decide) ?_
  refine g_iadd X dX11_note_74 ?_
  refine g_puti X (C := RX11) (T := TX11) (N := 39) (ci := 9) (k := 24) (ty0 := tyX11) iX11_note_X11 tyX11_ok nmX11 rfl kX11_note_82 (Nat.le_of_ble_eq_true rfl) rfl (by decide) rfl rfl (by decide +kernel) rfl dX11_note_75 ?_
  refine g_nmI (fun I3 eI3 => ?_)
  have h := h I3 eI3
  exact g_vret X R dX11_note_78 h
def vc_X11_note_L11s  (Q : MI → MJ → Prop)  (k11 : Int32 → MI → MJ → Prop) (v1 : Int32) (I : MI) (J : MJ) : Prop := ((140 ≤ v1 → ∀ I5 : MI, I5 = wI I 87 24 ((I 87 24) - 1) → vc_X11_note_B49  Q  I5 J) ∧ (¬ 140 ≤ v1 → vp_in (v1 + 20) 160 ∧ vp_in v1 160 ∧ ∀ I8 : MI, I8 = wI I 96 (Int32.toNatClampNeg v1) (I 96 (Int32.toNatClampNeg (v1 + 20))) → ∀ x9 : Int32, x9 = v1 + 1 → k11 x9 I8 J))
def vc_X11_note_L11  (Q : MI → MJ → Prop)  (n : Nat) : Int32 → MI → MJ → Prop := Nat.rec (fun _ _ _ => False) (fun _ ih => vc_X11_note_L11s  Q  ih) n
set_option maxRecDepth 100000 in
set_option maxHeartbeats 4000000 in
theorem w_X11_note_L11s {Z : RT}  (X : Cx Z cX11_note 2 RX11 wsX11_note rmX11_note none) {Q : MI → MJ → Prop} (R : RV Z Q)    {k11 : Int32 → MI → MJ → Prop} (hk11 : ∀ (v1 : Int32) (I : MI) (J : MJ), k11 v1 I J → GW Z 2 I J 11 [(0, .ref (ea (zE Z) 87)), (1, .int v1)] []) (v1 : Int32) (I : MI) (J : MJ) (h : vc_X11_note_L11s  Q  k11 v1 I J) : GW Z 2 I J 11 [(0, .ref (ea (zE Z) 87)), (1, .int v1)] [] := by
  refine g_iload_n X dX11_note_11 rfl 1 rfl ?_
  refine g_sipush X (v := 140) dX11_note_12 (by decide) ?_
  refine g_icmp_ge X (tgt := 39) dX11_note_15 (by decide) (fun c4 => ?_) (fun c4 => ?_)
  · have h := h.1 c4
    refine g_aload_n X dX11_note_39 rfl 0 rfl ?_
    refine g_dup X dX11_note_40 rfl ?_
    refine g_geti X (C := RX11) (T := TX11) (N := 39) (ci := 9) (k := 24) iX11_note_X11 rfl kX11_note_82 (Nat.le_of_ble_eq_true rfl) rfl (by decide) rfl rfl dX11_note_41 ?_
    refine g_iconst X (v := 1) dX11_note_44 (by decide) ?_
    refine g_isub X dX11_note_45 ?_
    refine g_puti X (C := RX11) (T := TX11) (N := 39) (ci := 9) (k := 24) (ty0 := tyX11) iX11_note_X11 tyX11_ok nmX11 rfl kX11_note_82 (Nat.le_of_ble_eq_true rfl) rfl (by decide) rfl rfl (by decide +kernel) rfl dX11_note_46 ?_
    refine g_nmI (fun I5 eI5 => ?_)
    have h := h I5 eI5
    refine GW.sub (lv' := [(0, .ref (ea (zE Z) 87))]) [0] rfl ?_
    exact w_X11_note_B49 X R   I5 J h
  · have h := h.2 c4
    refine g_aload_n X dX11_note_18 rfl 0 rfl ?_
    refine g_getr X (C := RX11) (T := TX11) (N := 39) (ci := 9) (k := 23) iX11_note_X11 rfl kX11_note_35 (Nat.le_of_ble_eq_true rfl) rfl (by decide) rfl rfl dX11_note_19 ?_
    refine g_iload_n X dX11_note_22 rfl 1 rfl ?_
    refine g_aload_n X dX11_note_23 rfl 0 rfl ?_
    refine g_getr X (C := RX11) (T := TX11) (N := 39) (ci := 9) (k := 23) iX11_note_X11 rfl kX11_note_35 (Nat.le_of_ble_eq_true rfl) rfl (by decide) rfl rfl dX11_note_24 ?_
    refine g_iload_n X dX11_note_27 rfl 1 rfl ?_
    refine g_bipush X (v := 20) dX11_note_28 (by decide) ?_
    refine g_iadd X dX11_note_30 ?_
    obtain ⟨b6, h⟩ := h
    refine g_iald X (Nat.le_of_ble_eq_true rfl) rfl b6 dX11_note_31 ?_
    obtain ⟨b7, h⟩ := h
    refine g_iast X (Nat.le_of_ble_eq_true rfl) rfl b7 dX11_note_32 ?_
    refine g_nmI (fun I8 eI8 => ?_)
    have h := h I8 eI8
    obtain ⟨x9, ex9⟩ : ∃ y : Int32, y = v1 + 1 := ⟨_, rfl⟩
    have h := h x9 ex9
    refine g_iinc X (q := 1) (v := x9) (lv' := [(1, .int x9), (0, .ref (ea (zE Z) 87))]) dX11_note_33 rfl (by rw [ex9]; rfl) (by decide) rfl ?_
    refine g_goto X (tgt := 11) dX11_note_36 (by decide) ?_
    refine GW.sub (lv' := [(0, .ref (ea (zE Z) 87)), (1, .int x9)]) [1, 0] rfl ?_
    exact hk11 x9 I8 J h
theorem w_X11_note_L11 {Z : RT}  (X : Cx Z cX11_note 2 RX11 wsX11_note rmX11_note none) {Q : MI → MJ → Prop} (R : RV Z Q)    : ∀ (n : Nat) (v1 : Int32) (I : MI) (J : MJ) (h : vc_X11_note_L11  Q  n v1 I J), GW Z 2 I J 11 [(0, .ref (ea (zE Z) 87)), (1, .int v1)] [] := by
  intro n
  induction n with
  | zero => intro v1 I J h; exact h.elim
  | succ n ih => intro v1 I J h; exact w_X11_note_L11s X R   ih v1 I J h
def vc_X11_note  (I : MI) (J : MJ) (Q : MI → MJ → Prop) : Prop := ((¬ (I 87 24) = 8 → vc_X11_note_B49  Q  I J) ∧ ((I 87 24) = 8 → (∃ n, vc_X11_note_L11  Q  n 0 I J)))
set_option maxRecDepth 100000 in
set_option maxHeartbeats 4000000 in
theorem c_X11_note (l : Launch) (E : ET)   : CV l yX11_note wsX11_note rmX11_note E [.ref (ea E 87)] (vc_X11_note ) := by
  refine CV.of (cc := cX11_note) (maxL := 2) (own := RX11) (by decide) rfl rfl (Nat.le_of_ble_eq_true rfl) ?_
  intro Z I J Q hE hl X R h
  subst hE
  subst hl
  show GW Z 2 I J 0 [(0, .ref (ea (zE Z) 87))] []
  refine g_aload_n X dX11_note_0 rfl 0 rfl ?_
  refine g_geti X (C := RX11) (T := TX11) (N := 39) (ci := 9) (k := 24) iX11_note_X11 rfl kX11_note_82 (Nat.le_of_ble_eq_true rfl) rfl (by decide) rfl rfl dX11_note_1 ?_
  refine g_bipush X (v := 8) dX11_note_4 (by decide) ?_
  refine g_icmp_ne X (tgt := 49) dX11_note_6 (by decide) (fun c10 => ?_) (fun c10 => ?_)
  · have h := h.1 c10
    refine GW.sub (lv' := [(0, .ref (ea (zE Z) 87))]) [0] rfl ?_
    exact w_X11_note_B49 X R   I J h
  · have h := h.2 c10
    refine g_iconst X (v := 0) dX11_note_9 (by decide) ?_
    refine g_istore_n X (lv' := [(1, .int 0), (0, .ref (ea (zE Z) 87))]) dX11_note_10 rfl (by decide) rfl ?_
    refine GW.sub (lv' := [(0, .ref (ea (zE Z) 87)), (1, .int 0)]) [1, 0] rfl ?_
    obtain ⟨n, h⟩ := h
    exact w_X11_note_L11 X R   n 0 I J h

/-! X11_fill.fill(II)I -/
def rmX11_fill : Room := { frames := 2, cells := 0, slots := 0, locals := 45 }
theorem yo_X11_fill : yX11_fill.cls = RX11 ∧ yX11_fill.cls ≠ "java/lang/invoke/MethodHandle" ∧ yX11_fill.cls ≠ "java/lang/invoke/VarHandle" ∧ (parseMethodDescriptor yX11_fill.desc).map (fun d => d.parameters.length) = some 2 := by decide +kernel
theorem kX11_fill_7 : Cond.fieldLink RX11 7 "SnowCourseModel" (TX11 1).2.1 (TX11 1).2.2.1 ∈ wsX11_fill := by decide +kernel
theorem iX11_fill_X11 : ∀ w ∈ u_ws RX11 TX11 39, w ∈ wsX11_fill := by decide +kernel
theorem kX11_fill_25 : Cond.fieldLink RX11 25 "SnowCourseModel" (TX11 20).2.1 (TX11 20).2.2.1 ∈ wsX11_fill := by decide +kernel
def vc_X11_fill (p1 : Int32) (p2 : Int32) (I : MI) (J : MJ) (Q : Int32 → MI → MJ → Prop) : Prop := vc_X11_isCart p1 I J (fun (r3 : Int32) (I1 : MI) (J2 : MJ) => ((¬ r3 = 0 → vc_X11_in p2 1 99 I1 J2 (fun (r7 : Int32) (I5 : MI) (J6 : MJ) => ((¬ r7 = 0 → vp_in p1 20 ∧ vp_in (I5 93 (Int32.toNatClampNeg p1)) 7 ∧ (((I5 88 (Int32.toNatClampNeg (I5 93 (Int32.toNatClampNeg p1)))) = 1 → vp_in (8 + p1) 20 ∧ ((((I5 93 (Int32.toNatClampNeg (8 + p1))) + p2) ≤ 99 → vc_X11_note  I5 J6 (fun (I14 : MI) (J15 : MJ) => vp_in (8 + p1) 20 ∧ vp_in (8 + p1) 20 ∧ ∀ I18 : MI, I18 = wI I14 93 (Int32.toNatClampNeg (8 + p1)) ((I14 93 (Int32.toNatClampNeg (8 + p1))) + p2) → vp_in (8 + p1) 20 ∧ Q (I18 93 (Int32.toNatClampNeg (8 + p1))) I18 J15)) ∧ (¬ ((I5 93 (Int32.toNatClampNeg (8 + p1))) + p2) ≤ 99 → Q (-5) I5 J6))) ∧ (¬ (I5 88 (Int32.toNatClampNeg (I5 93 (Int32.toNatClampNeg p1)))) = 1 → Q (-4) I5 J6))) ∧ (r7 = 0 → Q (-3) I5 J6)))) ∧ (r3 = 0 → Q (-2) I1 J2)))
set_option maxRecDepth 100000 in
set_option maxHeartbeats 4000000 in
theorem c_X11_fill (l : Launch) (E : ET)  (p1 : Int32) (p2 : Int32) : CI l yX11_fill wsX11_fill rmX11_fill E [.ref (ea E 87), .int p1, .int p2] (vc_X11_fill p1 p2) := by
  refine CI.of (cc := cX11_fill) (maxL := 3) (own := RX11) (by decide) rfl rfl (Nat.le_of_ble_eq_true rfl) ?_
  intro Z I J Q hE hl X R h
  subst hE
  subst hl
  show GW Z 3 I J 0 [(0, .ref (ea (zE Z) 87)), (1, .int p1), (2, .int p2)] []
  refine g_aload_n X dX11_fill_0 rfl 0 rfl ?_
  refine g_iload_n X dX11_fill_1 rfl 1 rfl ?_
  refine g_callVI X (As := [.int p1]) (rest := []) (T := TX11) (N := 39) (c_X11_isCart (zl Z) (zE Z) p1) gX11_fill_X11_isCart yo_X11_isCart rfl ⟨Nat.le_of_ble_eq_true rfl, Nat.le_of_ble_eq_true rfl⟩ (Nat.le_of_ble_eq_true rfl) rfl rfl rfl dX11_fill_2 h (fun r3 I1 J2 h => ?_)
  refine g_if_ne X (tgt := 11) dX11_fill_5 (by decide) (fun c4 => ?_) (fun c4 => ?_)
  · have h := h.1 c4
    refine g_iload_n X dX11_fill_11 rfl 2 rfl ?_
    refine g_iconst X (v := 1) dX11_fill_12 (by decide) ?_
    refine g_bipush X (v := 99) dX11_fill_13 (by decide) ?_
    refine g_callSI X (As := [.int p2, .int 1, .int 99]) (rest := []) (c_X11_in (zl Z) (zE Z) p2 1 99) gX11_fill_X11_in yo_X11_in.2 rfl ⟨Nat.le_of_ble_eq_true rfl, Nat.le_of_ble_eq_true rfl⟩ rfl dX11_fill_15 h (fun r7 I5 J6 h => ?_)
    refine g_if_ne X (tgt := 24) dX11_fill_18 (by decide) (fun c8 => ?_) (fun c8 => ?_)
    · have h := h.1 c8
      refine g_aload_n X dX11_fill_24 rfl 0 rfl ?_
      refine g_getr X (C := RX11) (T := TX11) (N := 39) (ci := 9) (k := 1) iX11_fill_X11 rfl kX11_fill_7 (Nat.le_of_ble_eq_true rfl) rfl (by decide) rfl rfl dX11_fill_25 ?_
      refine g_aload_n X dX11_fill_28 rfl 0 rfl ?_
      refine g_getr X (C := RX11) (T := TX11) (N := 39) (ci := 9) (k := 20) iX11_fill_X11 rfl kX11_fill_25 (Nat.le_of_ble_eq_true rfl) rfl (by decide) rfl rfl dX11_fill_29 ?_
      refine g_iload_n X dX11_fill_32 rfl 1 rfl ?_
      obtain ⟨b9, h⟩ := h
      refine g_iald X (Nat.le_of_ble_eq_true rfl) rfl b9 dX11_fill_33 ?_
      obtain ⟨b10, h⟩ := h
      refine g_iald X (Nat.le_of_ble_eq_true rfl) rfl b10 dX11_fill_34 ?_
      refine g_iconst X (v := 1) dX11_fill_35 (by decide) ?_
      refine g_icmp_eq X (tgt := 42) dX11_fill_36 (by decide) (fun c11 => ?_) (fun c11 => ?_)
      · have h := h.1 c11
        refine g_aload_n X dX11_fill_42 rfl 0 rfl ?_
        refine g_getr X (C := RX11) (T := TX11) (N := 39) (ci := 9) (k := 20) iX11_fill_X11 rfl kX11_fill_25 (Nat.le_of_ble_eq_true rfl) rfl (by decide) rfl rfl dX11_fill_43 ?_
        refine g_bipush X (v := 8) dX11_fill_46 (by decide) ?_
        refine g_iload_n X dX11_fill_48 rfl 1 rfl ?_
        refine g_iadd X dX11_fill_49 ?_
        obtain ⟨b12, h⟩ := h
        refine g_iald X (Nat.le_of_ble_eq_true rfl) rfl b12 dX11_fill_50 ?_
        refine g_iload_n X dX11_fill_51 rfl 2 rfl ?_
        refine g_iadd X dX11_fill_52 ?_
        refine g_bipush X (v := 99) dX11_fill_53 (by decide) ?_
        refine g_icmp_le X (tgt := 61) dX11_fill_55 (by decide) (fun c13 => ?_) (fun c13 => ?_)
        · have h := h.1 c13
          refine g_aload_n X dX11_fill_61 rfl 0 rfl ?_
          refine g_callVV X (As := []) (rest := []) (T := TX11) (N := 39) (c_X11_note (zl Z) (zE Z) ) gX11_fill_X11_note yo_X11_note rfl ⟨Nat.le_of_ble_eq_true rfl, Nat.le_of_ble_eq_true rfl⟩ (Nat.le_of_ble_eq_true rfl) rfl rfl rfl dX11_fill_62 h (fun  I14 J15 h => ?_)
          refine g_aload_n X dX11_fill_65 rfl 0 rfl ?_
          refine g_getr X (C := RX11) (T := TX11) (N := 39) (ci := 9) (k := 20) iX11_fill_X11 rfl kX11_fill_25 (Nat.le_of_ble_eq_true rfl) rfl (by decide) rfl rfl dX11_fill_66 ?_
          refine g_bipush X (v := 8) dX11_fill_69 (by decide) ?_
          refine g_iload_n X dX11_fill_71 rfl 1 rfl ?_
          refine g_iadd X dX11_fill_72 ?_
          refine g_dup2 X dX11_fill_73 rfl rfl ?_
          obtain ⟨b16, h⟩ := h
          refine g_iald X (Nat.le_of_ble_eq_true rfl) rfl b16 dX11_fill_74 ?_
          refine g_iload_n X dX11_fill_75 rfl 2 rfl ?_
          refine g_iadd X dX11_fill_76 ?_
          obtain ⟨b17, h⟩ := h
          refine g_iast X (Nat.le_of_ble_eq_true rfl) rfl b17 dX11_fill_77 ?_
          refine g_nmI (fun I18 eI18 => ?_)
          have h := h I18 eI18
          refine g_aload_n X dX11_fill_78 rfl 0 rfl ?_
          refine g_getr X (C := RX11) (T := TX11) (N := 39) (ci := 9) (k := 20) iX11_fill_X11 rfl kX11_fill_25 (Nat.le_of_ble_eq_true rfl) rfl (by decide) rfl rfl dX11_fill_79 ?_
          refine g_bipush X (v := 8) dX11_fill_82 (by decide) ?_
          refine g_iload_n X dX11_fill_84 rfl 1 rfl ?_
          refine g_iadd X dX11_fill_85 ?_
          obtain ⟨b19, h⟩ := h
          refine g_iald X (Nat.le_of_ble_eq_true rfl) rfl b19 dX11_fill_86 ?_
          exact g_iret X R dX11_fill_87 h
        · have h := h.2 c13
          refine g_bipush X (v := (-5)) dX11_fill_58 (by decide) ?_
          exact g_iret X R dX11_fill_60 h
      · have h := h.2 c11
        refine g_bipush X (v := (-4)) dX11_fill_39 (by decide) ?_
        exact g_iret X R dX11_fill_41 h
    · have h := h.2 c8
      refine g_bipush X (v := (-3)) dX11_fill_21 (by decide) ?_
      exact g_iret X R dX11_fill_23 h
  · have h := h.2 c4
    refine g_bipush X (v := (-2)) dX11_fill_8 (by decide) ?_
    exact g_iret X R dX11_fill_10 h

/-! X11_go.go(II)I -/
def rmX11_go : Room := { frames := 3, cells := 0, slots := 0, locals := 75 }
theorem yo_X11_go : yX11_go.cls = RX11 ∧ yX11_go.cls ≠ "java/lang/invoke/MethodHandle" ∧ yX11_go.cls ≠ "java/lang/invoke/VarHandle" ∧ (parseMethodDescriptor yX11_go.desc).map (fun d => d.parameters.length) = some 2 := by decide +kernel
theorem kX11_go_25 : Cond.fieldLink RX11 25 "SnowCourseModel" (TX11 20).2.1 (TX11 20).2.2.1 ∈ wsX11_go := by decide +kernel
theorem iX11_go_X11 : ∀ w ∈ u_ws RX11 TX11 39, w ∈ wsX11_go := by decide +kernel
theorem kX11_go_13 : Cond.fieldLink RX11 13 "SnowCourseModel" (TX11 3).2.1 (TX11 3).2.2.1 ∈ wsX11_go := by decide +kernel
def vc_X11_go (p1 : Int32) (p2 : Int32) (I : MI) (J : MJ) (Q : Int32 → MI → MJ → Prop) : Prop := vc_X11_isCart p1 I J (fun (r3 : Int32) (I1 : MI) (J2 : MJ) => ((r3 = 0 → Q (-2) I1 J2) ∧ (¬ r3 = 0 → vc_X11_isRoad p2 I1 J2 (fun (r7 : Int32) (I5 : MI) (J6 : MJ) => ((¬ r7 = 0 → vp_in p1 20 ∧ vc_X11_endOf p2 (I5 93 (Int32.toNatClampNeg p1)) I5 J6 (fun (r12 : Int32) (I10 : MI) (J11 : MJ) => ((¬ r12 = (-1) → vp_in (4 + p1) 20 ∧ vp_in ((4 * p2) + 2) 36 ∧ ((((I10 93 (Int32.toNatClampNeg (4 + p1))) + (I10 89 (Int32.toNatClampNeg ((4 * p2) + 2)))) ≤ 48 → vc_X11_note  I10 J11 (fun (I17 : MI) (J18 : MJ) => vp_in (8 + p1) 20 ∧ vc_X11_kindOf p1 I17 J18 (fun (r22 : Int32) (I20 : MI) (J21 : MJ) => vc_X11_strawOf p1 I20 J21 (fun (r25 : Int32) (I23 : MI) (J24 : MJ) => vp_in (4 + p1) 20 ∧ vc_X11_comesBy p2 (I17 93 (Int32.toNatClampNeg (8 + p1))) r22 r25 (I23 93 (Int32.toNatClampNeg (4 + p1))) I23 J24 (fun (r29 : Int32) (I27 : MI) (J28 : MJ) => vp_in (8 + p1) 20 ∧ ∀ I31 : MI, I31 = wI I27 93 (Int32.toNatClampNeg (8 + p1)) r29 → vp_in (4 + p1) 20 ∧ vp_in ((4 * p2) + 2) 36 ∧ vp_in (4 + p1) 20 ∧ ∀ I35 : MI, I35 = wI I31 93 (Int32.toNatClampNeg (4 + p1)) ((I31 93 (Int32.toNatClampNeg (4 + p1))) + (I31 89 (Int32.toNatClampNeg ((4 * p2) + 2)))) → vp_in p1 20 ∧ ∀ I37 : MI, I37 = wI I35 93 (Int32.toNatClampNeg p1) r12 → vp_in (8 + p1) 20 ∧ Q (I37 93 (Int32.toNatClampNeg (8 + p1))) I37 J28))))) ∧ (¬ ((I10 93 (Int32.toNatClampNeg (4 + p1))) + (I10 89 (Int32.toNatClampNeg ((4 * p2) + 2)))) ≤ 48 → Q (-5) I10 J11))) ∧ (r12 = (-1) → Q (-4) I10 J11)))) ∧ (r7 = 0 → Q (-2) I5 J6))))))
set_option maxRecDepth 100000 in
set_option maxHeartbeats 4000000 in
theorem c_X11_go (l : Launch) (E : ET)  (p1 : Int32) (p2 : Int32) : CI l yX11_go wsX11_go rmX11_go E [.ref (ea E 87), .int p1, .int p2] (vc_X11_go p1 p2) := by
  refine CI.of (cc := cX11_go) (maxL := 4) (own := RX11) (by decide) rfl rfl (Nat.le_of_ble_eq_true rfl) ?_
  intro Z I J Q hE hl X R h
  subst hE
  subst hl
  show GW Z 4 I J 0 [(0, .ref (ea (zE Z) 87)), (1, .int p1), (2, .int p2)] []
  refine g_aload_n X dX11_go_0 rfl 0 rfl ?_
  refine g_iload_n X dX11_go_1 rfl 1 rfl ?_
  refine g_callVI X (As := [.int p1]) (rest := []) (T := TX11) (N := 39) (c_X11_isCart (zl Z) (zE Z) p1) gX11_go_X11_isCart yo_X11_isCart rfl ⟨Nat.le_of_ble_eq_true rfl, Nat.le_of_ble_eq_true rfl⟩ (Nat.le_of_ble_eq_true rfl) rfl rfl rfl dX11_go_2 h (fun r3 I1 J2 h => ?_)
  refine g_if_eq X (tgt := 16) dX11_go_5 (by decide) (fun c4 => ?_) (fun c4 => ?_)
  · have h := h.1 c4
    refine g_bipush X (v := (-2)) dX11_go_16 (by decide) ?_
    exact g_iret X R dX11_go_18 h
  · have h := h.2 c4
    refine g_aload_n X dX11_go_8 rfl 0 rfl ?_
    refine g_iload_n X dX11_go_9 rfl 2 rfl ?_
    refine g_callVI X (As := [.int p2]) (rest := []) (T := TX11) (N := 39) (c_X11_isRoad (zl Z) (zE Z) p2) gX11_go_X11_isRoad yo_X11_isRoad rfl ⟨Nat.le_of_ble_eq_true rfl, Nat.le_of_ble_eq_true rfl⟩ (Nat.le_of_ble_eq_true rfl) rfl rfl rfl dX11_go_10 h (fun r7 I5 J6 h => ?_)
    refine g_if_ne X (tgt := 19) dX11_go_13 (by decide) (fun c8 => ?_) (fun c8 => ?_)
    · have h := h.1 c8
      refine g_aload_n X dX11_go_19 rfl 0 rfl ?_
      refine g_iload_n X dX11_go_20 rfl 2 rfl ?_
      refine g_aload_n X dX11_go_21 rfl 0 rfl ?_
      refine g_getr X (C := RX11) (T := TX11) (N := 39) (ci := 9) (k := 20) iX11_go_X11 rfl kX11_go_25 (Nat.le_of_ble_eq_true rfl) rfl (by decide) rfl rfl dX11_go_22 ?_
      refine g_iload_n X dX11_go_25 rfl 1 rfl ?_
      obtain ⟨b9, h⟩ := h
      refine g_iald X (Nat.le_of_ble_eq_true rfl) rfl b9 dX11_go_26 ?_
      refine g_callVI X (As := [.int p2, .int (I5 93 (Int32.toNatClampNeg p1))]) (rest := []) (T := TX11) (N := 39) (c_X11_endOf (zl Z) (zE Z) p2 (I5 93 (Int32.toNatClampNeg p1))) gX11_go_X11_endOf yo_X11_endOf rfl ⟨Nat.le_of_ble_eq_true rfl, Nat.le_of_ble_eq_true rfl⟩ (Nat.le_of_ble_eq_true rfl) rfl rfl rfl dX11_go_27 h (fun r12 I10 J11 h => ?_)
      refine g_istore_n X (lv' := [(3, .int r12), (0, .ref (ea (zE Z) 87)), (1, .int p1), (2, .int p2)]) dX11_go_30 rfl (by decide) rfl ?_
      refine g_iload_n X dX11_go_31 rfl 0 rfl ?_
      refine g_iconst X (v := (-1)) dX11_go_32 (by decide) ?_
      refine g_icmp_ne X (tgt := 39) dX11_go_33 (by decide) (fun c13 => ?_) (fun c13 => ?_)
      · have h := h.1 c13
        refine g_aload_n X dX11_go_39 rfl 1 rfl ?_
        refine g_getr X (C := RX11) (T := TX11) (N := 39) (ci := 9) (k := 20) iX11_go_X11 rfl kX11_go_25 (Nat.le_of_ble_eq_true rfl) rfl (by decide) rfl rfl dX11_go_40 ?_
        refine g_iconst X (v := 4) dX11_go_43 (by decide) ?_
        refine g_iload_n X dX11_go_44 rfl 2 rfl ?_
        refine g_iadd X dX11_go_45 ?_
        obtain ⟨b14, h⟩ := h
        refine g_iald X (Nat.le_of_ble_eq_true rfl) rfl b14 dX11_go_46 ?_
        refine g_aload_n X dX11_go_47 rfl 1 rfl ?_
        refine g_getr X (C := RX11) (T := TX11) (N := 39) (ci := 9) (k := 3) iX11_go_X11 rfl kX11_go_13 (Nat.le_of_ble_eq_true rfl) rfl (by decide) rfl rfl dX11_go_48 ?_
        refine g_iconst X (v := 4) dX11_go_51 (by decide) ?_
        refine g_iload_n X dX11_go_52 rfl 3 rfl ?_
        refine g_imul X dX11_go_53 ?_
        refine g_iconst X (v := 2) dX11_go_54 (by decide) ?_
        refine g_iadd X dX11_go_55 ?_
        obtain ⟨b15, h⟩ := h
        refine g_iald X (Nat.le_of_ble_eq_true rfl) rfl b15 dX11_go_56 ?_
        refine g_iadd X dX11_go_57 ?_
        refine g_bipush X (v := 48) dX11_go_58 (by decide) ?_
        refine g_icmp_le X (tgt := 66) dX11_go_60 (by decide) (fun c16 => ?_) (fun c16 => ?_)
        · have h := h.1 c16
          refine g_aload_n X dX11_go_66 rfl 1 rfl ?_
          refine g_callVV X (As := []) (rest := []) (T := TX11) (N := 39) (c_X11_note (zl Z) (zE Z) ) gX11_go_X11_note yo_X11_note rfl ⟨Nat.le_of_ble_eq_true rfl, Nat.le_of_ble_eq_true rfl⟩ (Nat.le_of_ble_eq_true rfl) rfl rfl rfl dX11_go_67 h (fun  I17 J18 h => ?_)
          refine g_aload_n X dX11_go_70 rfl 1 rfl ?_
          refine g_getr X (C := RX11) (T := TX11) (N := 39) (ci := 9) (k := 20) iX11_go_X11 rfl kX11_go_25 (Nat.le_of_ble_eq_true rfl) rfl (by decide) rfl rfl dX11_go_71 ?_
          refine g_bipush X (v := 8) dX11_go_74 (by decide) ?_
          refine g_iload_n X dX11_go_76 rfl 2 rfl ?_
          refine g_iadd X dX11_go_77 ?_
          refine g_aload_n X dX11_go_78 rfl 1 rfl ?_
          refine g_iload_n X dX11_go_79 rfl 3 rfl ?_
          refine g_aload_n X dX11_go_80 rfl 1 rfl ?_
          refine g_getr X (C := RX11) (T := TX11) (N := 39) (ci := 9) (k := 20) iX11_go_X11 rfl kX11_go_25 (Nat.le_of_ble_eq_true rfl) rfl (by decide) rfl rfl dX11_go_81 ?_
          refine g_bipush X (v := 8) dX11_go_84 (by decide) ?_
          refine g_iload_n X dX11_go_86 rfl 2 rfl ?_
          refine g_iadd X dX11_go_87 ?_
          obtain ⟨b19, h⟩ := h
          refine g_iald X (Nat.le_of_ble_eq_true rfl) rfl b19 dX11_go_88 ?_
          refine g_aload_n X dX11_go_89 rfl 1 rfl ?_
          refine g_iload_n X dX11_go_90 rfl 2 rfl ?_
          refine g_callVI X (As := [.int p1]) (rest := [.int (I17 93 (Int32.toNatClampNeg (8 + p1))), .int p2, .ref (ea (zE Z) 87), .int (8 + p1), .ref (ea (zE Z) 93)]) (T := TX11) (N := 39) (c_X11_kindOf (zl Z) (zE Z) p1) gX11_go_X11_kindOf yo_X11_kindOf rfl ⟨Nat.le_of_ble_eq_true rfl, Nat.le_of_ble_eq_true rfl⟩ (Nat.le_of_ble_eq_true rfl) rfl rfl rfl dX11_go_91 h (fun r22 I20 J21 h => ?_)
          refine g_aload_n X dX11_go_94 rfl 1 rfl ?_
          refine g_iload_n X dX11_go_95 rfl 2 rfl ?_
          refine g_callVI X (As := [.int p1]) (rest := [.int r22, .int (I17 93 (Int32.toNatClampNeg (8 + p1))), .int p2, .ref (ea (zE Z) 87), .int (8 + p1), .ref (ea (zE Z) 93)]) (T := TX11) (N := 39) (c_X11_strawOf (zl Z) (zE Z) p1) gX11_go_X11_strawOf yo_X11_strawOf rfl ⟨Nat.le_of_ble_eq_true rfl, Nat.le_of_ble_eq_true rfl⟩ (Nat.le_of_ble_eq_true rfl) rfl rfl rfl dX11_go_96 h (fun r25 I23 J24 h => ?_)
          refine g_aload_n X dX11_go_99 rfl 1 rfl ?_
          refine g_getr X (C := RX11) (T := TX11) (N := 39) (ci := 9) (k := 20) iX11_go_X11 rfl kX11_go_25 (Nat.le_of_ble_eq_true rfl) rfl (by decide) rfl rfl dX11_go_100 ?_
          refine g_iconst X (v := 4) dX11_go_103 (by decide) ?_
          refine g_iload_n X dX11_go_104 rfl 2 rfl ?_
          refine g_iadd X dX11_go_105 ?_
          obtain ⟨b26, h⟩ := h
          refine g_iald X (Nat.le_of_ble_eq_true rfl) rfl b26 dX11_go_106 ?_
          refine g_callVI X (As := [.int p2, .int (I17 93 (Int32.toNatClampNeg (8 + p1))), .int r22, .int r25, .int (I23 93 (Int32.toNatClampNeg (4 + p1)))]) (rest := [.int (8 + p1), .ref (ea (zE Z) 93)]) (T := TX11) (N := 39) (c_X11_comesBy (zl Z) (zE Z) p2 (I17 93 (Int32.toNatClampNeg (8 + p1))) r22 r25 (I23 93 (Int32.toNatClampNeg (4 + p1)))) gX11_go_X11_comesBy yo_X11_comesBy rfl ⟨Nat.le_of_ble_eq_true rfl, Nat.le_of_ble_eq_true rfl⟩ (Nat.le_of_ble_eq_true rfl) rfl rfl rfl dX11_go_107 h (fun r29 I27 J28 h => ?_)
          obtain ⟨b30, h⟩ := h
          refine g_iast X (Nat.le_of_ble_eq_true rfl) rfl b30 dX11_go_110 ?_
          refine g_nmI (fun I31 eI31 => ?_)
          have h := h I31 eI31
          refine g_aload_n X dX11_go_111 rfl 1 rfl ?_
          refine g_getr X (C := RX11) (T := TX11) (N := 39) (ci := 9) (k := 20) iX11_go_X11 rfl kX11_go_25 (Nat.le_of_ble_eq_true rfl) rfl (by decide) rfl rfl dX11_go_112 ?_
          refine g_iconst X (v := 4) dX11_go_115 (by decide) ?_
          refine g_iload_n X dX11_go_116 rfl 2 rfl ?_
          refine g_iadd X dX11_go_117 ?_
          refine g_dup2 X dX11_go_118 rfl rfl ?_
          obtain ⟨b32, h⟩ := h
          refine g_iald X (Nat.le_of_ble_eq_true rfl) rfl b32 dX11_go_119 ?_
          refine g_aload_n X dX11_go_120 rfl 1 rfl ?_
          refine g_getr X (C := RX11) (T := TX11) (N := 39) (ci := 9) (k := 3) iX11_go_X11 rfl kX11_go_13 (Nat.le_of_ble_eq_true rfl) rfl (by decide) rfl rfl dX11_go_121 ?_
          refine g_iconst X (v := 4) dX11_go_124 (by decide) ?_
          refine g_iload_n X dX11_go_125 rfl 3 rfl ?_
          refine g_imul X dX11_go_126 ?_
          refine g_iconst X (v := 2) dX11_go_127 (by decide) ?_
          refine g_iadd X dX11_go_128 ?_
          obtain ⟨b33, h⟩ := h
          refine g_iald X (Nat.le_of_ble_eq_true rfl) rfl b33 dX11_go_129 ?_
          refine g_iadd X dX11_go_130 ?_
          obtain ⟨b34, h⟩ := h
          refine g_iast X (Nat.le_of_ble_eq_true rfl) rfl b34 dX11_go_131 ?_
          refine g_nmI (fun I35 eI35 => ?_)
          have h := h I35 eI35
          refine g_aload_n X dX11_go_132 rfl 1 rfl ?_
          refine g_getr X (C := RX11) (T := TX11) (N := 39) (ci := 9) (k := 20) iX11_go_X11 rfl kX11_go_25 (Nat.le_of_ble_eq_true rfl) rfl (by decide) rfl rfl dX11_go_133 ?_
          refine g_iload_n X dX11_go_136 rfl 2 rfl ?_
          refine g_iload_n X dX11_go_137 rfl 0 rfl ?_
          obtain ⟨b36, h⟩ := h
          refine g_iast X (Nat.le_of_ble_eq_true rfl) rfl b36 dX11_go_138 ?_
          refine g_nmI (fun I37 eI37 => ?_)
          have h := h I37 eI37
          refine g_aload_n X dX11_go_139 rfl 1 rfl ?_
          refine g_getr X (C := RX11) (T := TX11) (N := 39) (ci := 9) (k := 20) iX11_go_X11 rfl kX11_go_25 (Nat.le_of_ble_eq_true rfl) rfl (by decide) rfl rfl dX11_go_140 ?_
          refine g_bipush X (v := 8) dX11_go_143 (by decide) ?_
          refine g_iload_n X dX11_go_145 rfl 2 rfl ?_
          refine g_iadd X dX11_go_146 ?_
          obtain ⟨b38, h⟩ := h
          refine g_iald X (Nat.le_of_ble_eq_true rfl) rfl b38 dX11_go_147 ?_
          exact g_iret X R dX11_go_148 h
        · have h := h.2 c16
          refine g_bipush X (v := (-5)) dX11_go_63 (by decide) ?_
          exact g_iret X R dX11_go_65 h
      · have h := h.2 c13
        refine g_bipush X (v := (-4)) dX11_go_36 (by decide) ?_
        exact g_iret X R dX11_go_38 h
    · have h := h.2 c8
      refine g_bipush X (v := (-2)) dX11_go_16 (by decide) ?_
      exact g_iret X R dX11_go_18 h

/-! X11_snowTill.snowTill(II)I -/
def rmX11_snowTill : Room := { frames := 3, cells := 0, slots := 0, locals := 73 }
theorem yo_X11_snowTill : yX11_snowTill.cls = RX11 ∧ yX11_snowTill.cls ≠ "java/lang/invoke/MethodHandle" ∧ yX11_snowTill.cls ≠ "java/lang/invoke/VarHandle" ∧ (parseMethodDescriptor yX11_snowTill.desc).map (fun d => d.parameters.length) = some 2 := by decide +kernel
theorem kX11_snowTill_25 : Cond.fieldLink RX11 25 "SnowCourseModel" (TX11 20).2.1 (TX11 20).2.2.1 ∈ wsX11_snowTill := by decide +kernel
theorem iX11_snowTill_X11 : ∀ w ∈ u_ws RX11 TX11 39, w ∈ wsX11_snowTill := by decide +kernel
def vc_X11_snowTill_L20s  (Q : Int32 → MI → MJ → Prop)  (k20 : Int32 → Int32 → Int32 → Int32 → MI → MJ → Prop) (v1 : Int32) (v2 : Int32) (v3 : Int32) (v4 : Int32) (I : MI) (J : MJ) : Prop := ((v2 ≤ v4 → Q v3 I J) ∧ (¬ v2 ≤ v4 → vc_X11_kindOf v1 I J (fun (r4 : Int32) (I2 : MI) (J3 : MJ) => vc_X11_strawOf v1 I2 J3 (fun (r7 : Int32) (I5 : MI) (J6 : MJ) => vp_in v1 20 ∧ vc_X11_restedBy v3 r4 r7 v4 (I5 93 (Int32.toNatClampNeg v1)) I5 J6 (fun (r11 : Int32) (I9 : MI) (J10 : MJ) => ∀ x12 : Int32, x12 = v4 + 1 → k20 v1 v2 r11 x12 I9 J10)))))
def vc_X11_snowTill_L20  (Q : Int32 → MI → MJ → Prop)  (n : Nat) : Int32 → Int32 → Int32 → Int32 → MI → MJ → Prop := Nat.rec (fun _ _ _ _ _ _ => False) (fun _ ih => vc_X11_snowTill_L20s  Q  ih) n
set_option maxRecDepth 100000 in
set_option maxHeartbeats 4000000 in
theorem w_X11_snowTill_L20s {Z : RT}  (X : Cx Z cX11_snowTill 5 RX11 wsX11_snowTill rmX11_snowTill (some .int)) {Q : Int32 → MI → MJ → Prop} (R : RI Z Q)    {k20 : Int32 → Int32 → Int32 → Int32 → MI → MJ → Prop} (hk20 : ∀ (v1 : Int32) (v2 : Int32) (v3 : Int32) (v4 : Int32) (I : MI) (J : MJ), k20 v1 v2 v3 v4 I J → GW Z 5 I J 20 [(0, .ref (ea (zE Z) 87)), (1, .int v1), (2, .int v2), (3, .int v3), (4, .int v4)] []) (v1 : Int32) (v2 : Int32) (v3 : Int32) (v4 : Int32) (I : MI) (J : MJ) (h : vc_X11_snowTill_L20s  Q  k20 v1 v2 v3 v4 I J) : GW Z 5 I J 20 [(0, .ref (ea (zE Z) 87)), (1, .int v1), (2, .int v2), (3, .int v3), (4, .int v4)] [] := by
  refine g_iload X dX11_snowTill_20 4 rfl ?_
  refine g_iload_n X dX11_snowTill_22 rfl 2 rfl ?_
  refine g_icmp_ge X (tgt := 56) dX11_snowTill_23 (by decide) (fun c1 => ?_) (fun c1 => ?_)
  · have h := h.1 c1
    refine g_iload_n X dX11_snowTill_56 rfl 3 rfl ?_
    exact g_iret X R dX11_snowTill_57 h
  · have h := h.2 c1
    refine g_aload_n X dX11_snowTill_26 rfl 0 rfl ?_
    refine g_iload_n X dX11_snowTill_27 rfl 3 rfl ?_
    refine g_aload_n X dX11_snowTill_28 rfl 0 rfl ?_
    refine g_iload_n X dX11_snowTill_29 rfl 1 rfl ?_
    refine g_callVI X (As := [.int v1]) (rest := [.int v3, .ref (ea (zE Z) 87)]) (T := TX11) (N := 39) (c_X11_kindOf (zl Z) (zE Z) v1) gX11_snowTill_X11_kindOf yo_X11_kindOf rfl ⟨Nat.le_of_ble_eq_true rfl, Nat.le_of_ble_eq_true rfl⟩ (Nat.le_of_ble_eq_true rfl) rfl rfl rfl dX11_snowTill_30 h (fun r4 I2 J3 h => ?_)
    refine g_aload_n X dX11_snowTill_33 rfl 0 rfl ?_
    refine g_iload_n X dX11_snowTill_34 rfl 1 rfl ?_
    refine g_callVI X (As := [.int v1]) (rest := [.int r4, .int v3, .ref (ea (zE Z) 87)]) (T := TX11) (N := 39) (c_X11_strawOf (zl Z) (zE Z) v1) gX11_snowTill_X11_strawOf yo_X11_strawOf rfl ⟨Nat.le_of_ble_eq_true rfl, Nat.le_of_ble_eq_true rfl⟩ (Nat.le_of_ble_eq_true rfl) rfl rfl rfl dX11_snowTill_35 h (fun r7 I5 J6 h => ?_)
    refine g_iload X dX11_snowTill_38 4 rfl ?_
    refine g_aload_n X dX11_snowTill_40 rfl 0 rfl ?_
    refine g_getr X (C := RX11) (T := TX11) (N := 39) (ci := 9) (k := 20) iX11_snowTill_X11 rfl kX11_snowTill_25 (Nat.le_of_ble_eq_true rfl) rfl (by decide) rfl rfl dX11_snowTill_41 ?_
    refine g_iload_n X dX11_snowTill_44 rfl 1 rfl ?_
    obtain ⟨b8, h⟩ := h
    refine g_iald X (Nat.le_of_ble_eq_true rfl) rfl b8 dX11_snowTill_45 ?_
    refine g_callVI X (As := [.int v3, .int r4, .int r7, .int v4, .int (I5 93 (Int32.toNatClampNeg v1))]) (rest := []) (T := TX11) (N := 39) (c_X11_restedBy (zl Z) (zE Z) v3 r4 r7 v4 (I5 93 (Int32.toNatClampNeg v1))) gX11_snowTill_X11_restedBy yo_X11_restedBy rfl ⟨Nat.le_of_ble_eq_true rfl, Nat.le_of_ble_eq_true rfl⟩ (Nat.le_of_ble_eq_true rfl) rfl rfl rfl dX11_snowTill_46 h (fun r11 I9 J10 h => ?_)
    refine g_istore_n X (lv' := [(3, .int r11), (0, .ref (ea (zE Z) 87)), (1, .int v1), (2, .int v2), (4, .int v4)]) dX11_snowTill_49 rfl (by decide) rfl ?_
    obtain ⟨x12, ex12⟩ : ∃ y : Int32, y = v4 + 1 := ⟨_, rfl⟩
    have h := h x12 ex12
    refine g_iinc X (q := 4) (v := x12) (lv' := [(4, .int x12), (3, .int r11), (0, .ref (ea (zE Z) 87)), (1, .int v1), (2, .int v2)]) dX11_snowTill_50 rfl (by rw [ex12]; rfl) (by decide) rfl ?_
    refine g_goto X (tgt := 20) dX11_snowTill_53 (by decide) ?_
    refine GW.sub (lv' := [(0, .ref (ea (zE Z) 87)), (1, .int v1), (2, .int v2), (3, .int r11), (4, .int x12)]) [2, 3, 4, 1, 0] rfl ?_
    exact hk20 v1 v2 r11 x12 I9 J10 h
theorem w_X11_snowTill_L20 {Z : RT}  (X : Cx Z cX11_snowTill 5 RX11 wsX11_snowTill rmX11_snowTill (some .int)) {Q : Int32 → MI → MJ → Prop} (R : RI Z Q)    : ∀ (n : Nat) (v1 : Int32) (v2 : Int32) (v3 : Int32) (v4 : Int32) (I : MI) (J : MJ) (h : vc_X11_snowTill_L20  Q  n v1 v2 v3 v4 I J), GW Z 5 I J 20 [(0, .ref (ea (zE Z) 87)), (1, .int v1), (2, .int v2), (3, .int v3), (4, .int v4)] [] := by
  intro n
  induction n with
  | zero => intro v1 v2 v3 v4 I J h; exact h.elim
  | succ n ih => intro v1 v2 v3 v4 I J h; exact w_X11_snowTill_L20s X R   ih v1 v2 v3 v4 I J h
def vc_X11_snowTill (p1 : Int32) (p2 : Int32) (I : MI) (J : MJ) (Q : Int32 → MI → MJ → Prop) : Prop := vp_in (8 + p1) 20 ∧ ∀ x14 : Int32, x14 = I 93 (Int32.toNatClampNeg (8 + p1)) → vp_in (4 + p1) 20 ∧ ∀ x16 : Int32, x16 = I 93 (Int32.toNatClampNeg (4 + p1)) → (∃ n, vc_X11_snowTill_L20  Q  n p1 p2 x14 x16 I J)
set_option maxRecDepth 100000 in
set_option maxHeartbeats 4000000 in
theorem c_X11_snowTill (l : Launch) (E : ET)  (p1 : Int32) (p2 : Int32) : CI l yX11_snowTill wsX11_snowTill rmX11_snowTill E [.ref (ea E 87), .int p1, .int p2] (vc_X11_snowTill p1 p2) := by
  refine CI.of (cc := cX11_snowTill) (maxL := 5) (own := RX11) (by decide) rfl rfl (Nat.le_of_ble_eq_true rfl) ?_
  intro Z I J Q hE hl X R h
  subst hE
  subst hl
  show GW Z 5 I J 0 [(0, .ref (ea (zE Z) 87)), (1, .int p1), (2, .int p2)] []
  refine g_aload_n X dX11_snowTill_0 rfl 0 rfl ?_
  refine g_getr X (C := RX11) (T := TX11) (N := 39) (ci := 9) (k := 20) iX11_snowTill_X11 rfl kX11_snowTill_25 (Nat.le_of_ble_eq_true rfl) rfl (by decide) rfl rfl dX11_snowTill_1 ?_
  refine g_bipush X (v := 8) dX11_snowTill_4 (by decide) ?_
  refine g_iload_n X dX11_snowTill_6 rfl 1 rfl ?_
  refine g_iadd X dX11_snowTill_7 ?_
  obtain ⟨b13, h⟩ := h
  refine g_iald X (Nat.le_of_ble_eq_true rfl) rfl b13 dX11_snowTill_8 ?_
  refine g_topi (fun x14 ex14 => ?_)
  have h := h x14 ex14
  refine g_istore_n X (lv' := [(3, .int x14), (0, .ref (ea (zE Z) 87)), (1, .int p1), (2, .int p2)]) dX11_snowTill_9 rfl (by decide) rfl ?_
  refine g_aload_n X dX11_snowTill_10 rfl 1 rfl ?_
  refine g_getr X (C := RX11) (T := TX11) (N := 39) (ci := 9) (k := 20) iX11_snowTill_X11 rfl kX11_snowTill_25 (Nat.le_of_ble_eq_true rfl) rfl (by decide) rfl rfl dX11_snowTill_11 ?_
  refine g_iconst X (v := 4) dX11_snowTill_14 (by decide) ?_
  refine g_iload_n X dX11_snowTill_15 rfl 2 rfl ?_
  refine g_iadd X dX11_snowTill_16 ?_
  obtain ⟨b15, h⟩ := h
  refine g_iald X (Nat.le_of_ble_eq_true rfl) rfl b15 dX11_snowTill_17 ?_
  refine g_topi (fun x16 ex16 => ?_)
  have h := h x16 ex16
  refine g_istore X (lv' := [(4, .int x16), (3, .int x14), (0, .ref (ea (zE Z) 87)), (1, .int p1), (2, .int p2)]) dX11_snowTill_18 (by decide) rfl ?_
  refine GW.sub (lv' := [(0, .ref (ea (zE Z) 87)), (1, .int p1), (2, .int p2), (3, .int x14), (4, .int x16)]) [2, 3, 4, 1, 0] rfl ?_
  obtain ⟨n, h⟩ := h
  exact w_X11_snowTill_L20 X R   n p1 p2 x14 x16 I J h

/-! X11_rest.rest(II)I -/
def rmX11_rest : Room := { frames := 4, cells := 0, slots := 0, locals := 97 }
theorem yo_X11_rest : yX11_rest.cls = RX11 ∧ yX11_rest.cls ≠ "java/lang/invoke/MethodHandle" ∧ yX11_rest.cls ≠ "java/lang/invoke/VarHandle" ∧ (parseMethodDescriptor yX11_rest.desc).map (fun d => d.parameters.length) = some 2 := by decide +kernel
theorem kX11_rest_25 : Cond.fieldLink RX11 25 "SnowCourseModel" (TX11 20).2.1 (TX11 20).2.2.1 ∈ wsX11_rest := by decide +kernel
theorem iX11_rest_X11 : ∀ w ∈ u_ws RX11 TX11 39, w ∈ wsX11_rest := by decide +kernel
def vc_X11_rest (p1 : Int32) (p2 : Int32) (I : MI) (J : MJ) (Q : Int32 → MI → MJ → Prop) : Prop := vc_X11_isCart p1 I J (fun (r3 : Int32) (I1 : MI) (J2 : MJ) => ((¬ r3 = 0 → vc_X11_in p2 1 48 I1 J2 (fun (r7 : Int32) (I5 : MI) (J6 : MJ) => ((¬ r7 = 0 → vp_in (4 + p1) 20 ∧ ∀ x10 : Int32, x10 = (I5 93 (Int32.toNatClampNeg (4 + p1))) + p2 → ((x10 ≤ 48 → vc_X11_note  I5 J6 (fun (I12 : MI) (J13 : MJ) => vc_X11_snowTill p1 x10 I12 J13 (fun (r16 : Int32) (I14 : MI) (J15 : MJ) => vp_in (8 + p1) 20 ∧ ∀ I18 : MI, I18 = wI I14 93 (Int32.toNatClampNeg (8 + p1)) r16 → vp_in (4 + p1) 20 ∧ ∀ I20 : MI, I20 = wI I18 93 (Int32.toNatClampNeg (4 + p1)) x10 → vp_in (8 + p1) 20 ∧ Q (I20 93 (Int32.toNatClampNeg (8 + p1))) I20 J15))) ∧ (¬ x10 ≤ 48 → Q (-5) I5 J6))) ∧ (r7 = 0 → Q (-3) I5 J6)))) ∧ (r3 = 0 → Q (-2) I1 J2)))
set_option maxRecDepth 100000 in
set_option maxHeartbeats 4000000 in
theorem c_X11_rest (l : Launch) (E : ET)  (p1 : Int32) (p2 : Int32) : CI l yX11_rest wsX11_rest rmX11_rest E [.ref (ea E 87), .int p1, .int p2] (vc_X11_rest p1 p2) := by
  refine CI.of (cc := cX11_rest) (maxL := 4) (own := RX11) (by decide) rfl rfl (Nat.le_of_ble_eq_true rfl) ?_
  intro Z I J Q hE hl X R h
  subst hE
  subst hl
  show GW Z 4 I J 0 [(0, .ref (ea (zE Z) 87)), (1, .int p1), (2, .int p2)] []
  refine g_aload_n X dX11_rest_0 rfl 0 rfl ?_
  refine g_iload_n X dX11_rest_1 rfl 1 rfl ?_
  refine g_callVI X (As := [.int p1]) (rest := []) (T := TX11) (N := 39) (c_X11_isCart (zl Z) (zE Z) p1) gX11_rest_X11_isCart yo_X11_isCart rfl ⟨Nat.le_of_ble_eq_true rfl, Nat.le_of_ble_eq_true rfl⟩ (Nat.le_of_ble_eq_true rfl) rfl rfl rfl dX11_rest_2 h (fun r3 I1 J2 h => ?_)
  refine g_if_ne X (tgt := 11) dX11_rest_5 (by decide) (fun c4 => ?_) (fun c4 => ?_)
  · have h := h.1 c4
    refine g_iload_n X dX11_rest_11 rfl 2 rfl ?_
    refine g_iconst X (v := 1) dX11_rest_12 (by decide) ?_
    refine g_bipush X (v := 48) dX11_rest_13 (by decide) ?_
    refine g_callSI X (As := [.int p2, .int 1, .int 48]) (rest := []) (c_X11_in (zl Z) (zE Z) p2 1 48) gX11_rest_X11_in yo_X11_in.2 rfl ⟨Nat.le_of_ble_eq_true rfl, Nat.le_of_ble_eq_true rfl⟩ rfl dX11_rest_15 h (fun r7 I5 J6 h => ?_)
    refine g_if_ne X (tgt := 24) dX11_rest_18 (by decide) (fun c8 => ?_) (fun c8 => ?_)
    · have h := h.1 c8
      refine g_aload_n X dX11_rest_24 rfl 0 rfl ?_
      refine g_getr X (C := RX11) (T := TX11) (N := 39) (ci := 9) (k := 20) iX11_rest_X11 rfl kX11_rest_25 (Nat.le_of_ble_eq_true rfl) rfl (by decide) rfl rfl dX11_rest_25 ?_
      refine g_iconst X (v := 4) dX11_rest_28 (by decide) ?_
      refine g_iload_n X dX11_rest_29 rfl 1 rfl ?_
      refine g_iadd X dX11_rest_30 ?_
      obtain ⟨b9, h⟩ := h
      refine g_iald X (Nat.le_of_ble_eq_true rfl) rfl b9 dX11_rest_31 ?_
      refine g_iload_n X dX11_rest_32 rfl 2 rfl ?_
      refine g_iadd X dX11_rest_33 ?_
      refine g_topi (fun x10 ex10 => ?_)
      have h := h x10 ex10
      refine g_istore_n X (lv' := [(3, .int x10), (0, .ref (ea (zE Z) 87)), (1, .int p1), (2, .int p2)]) dX11_rest_34 rfl (by decide) rfl ?_
      refine g_iload_n X dX11_rest_35 rfl 0 rfl ?_
      refine g_bipush X (v := 48) dX11_rest_36 (by decide) ?_
      refine g_icmp_le X (tgt := 44) dX11_rest_38 (by decide) (fun c11 => ?_) (fun c11 => ?_)
      · have h := h.1 c11
        refine g_aload_n X dX11_rest_44 rfl 1 rfl ?_
        refine g_callVV X (As := []) (rest := []) (T := TX11) (N := 39) (c_X11_note (zl Z) (zE Z) ) gX11_rest_X11_note yo_X11_note rfl ⟨Nat.le_of_ble_eq_true rfl, Nat.le_of_ble_eq_true rfl⟩ (Nat.le_of_ble_eq_true rfl) rfl rfl rfl dX11_rest_45 h (fun  I12 J13 h => ?_)
        refine g_aload_n X dX11_rest_48 rfl 1 rfl ?_
        refine g_getr X (C := RX11) (T := TX11) (N := 39) (ci := 9) (k := 20) iX11_rest_X11 rfl kX11_rest_25 (Nat.le_of_ble_eq_true rfl) rfl (by decide) rfl rfl dX11_rest_49 ?_
        refine g_bipush X (v := 8) dX11_rest_52 (by decide) ?_
        refine g_iload_n X dX11_rest_54 rfl 2 rfl ?_
        refine g_iadd X dX11_rest_55 ?_
        refine g_aload_n X dX11_rest_56 rfl 1 rfl ?_
        refine g_iload_n X dX11_rest_57 rfl 2 rfl ?_
        refine g_iload_n X dX11_rest_58 rfl 0 rfl ?_
        refine g_callVI X (As := [.int p1, .int x10]) (rest := [.int (8 + p1), .ref (ea (zE Z) 93)]) (T := TX11) (N := 39) (c_X11_snowTill (zl Z) (zE Z) p1 x10) gX11_rest_X11_snowTill yo_X11_snowTill rfl ⟨Nat.le_of_ble_eq_true rfl, Nat.le_of_ble_eq_true rfl⟩ (Nat.le_of_ble_eq_true rfl) rfl rfl rfl dX11_rest_59 h (fun r16 I14 J15 h => ?_)
        obtain ⟨b17, h⟩ := h
        refine g_iast X (Nat.le_of_ble_eq_true rfl) rfl b17 dX11_rest_62 ?_
        refine g_nmI (fun I18 eI18 => ?_)
        have h := h I18 eI18
        refine g_aload_n X dX11_rest_63 rfl 1 rfl ?_
        refine g_getr X (C := RX11) (T := TX11) (N := 39) (ci := 9) (k := 20) iX11_rest_X11 rfl kX11_rest_25 (Nat.le_of_ble_eq_true rfl) rfl (by decide) rfl rfl dX11_rest_64 ?_
        refine g_iconst X (v := 4) dX11_rest_67 (by decide) ?_
        refine g_iload_n X dX11_rest_68 rfl 2 rfl ?_
        refine g_iadd X dX11_rest_69 ?_
        refine g_iload_n X dX11_rest_70 rfl 0 rfl ?_
        obtain ⟨b19, h⟩ := h
        refine g_iast X (Nat.le_of_ble_eq_true rfl) rfl b19 dX11_rest_71 ?_
        refine g_nmI (fun I20 eI20 => ?_)
        have h := h I20 eI20
        refine g_aload_n X dX11_rest_72 rfl 1 rfl ?_
        refine g_getr X (C := RX11) (T := TX11) (N := 39) (ci := 9) (k := 20) iX11_rest_X11 rfl kX11_rest_25 (Nat.le_of_ble_eq_true rfl) rfl (by decide) rfl rfl dX11_rest_73 ?_
        refine g_bipush X (v := 8) dX11_rest_76 (by decide) ?_
        refine g_iload_n X dX11_rest_78 rfl 2 rfl ?_
        refine g_iadd X dX11_rest_79 ?_
        obtain ⟨b21, h⟩ := h
        refine g_iald X (Nat.le_of_ble_eq_true rfl) rfl b21 dX11_rest_80 ?_
        exact g_iret X R dX11_rest_81 h
      · have h := h.2 c11
        refine g_bipush X (v := (-5)) dX11_rest_41 (by decide) ?_
        exact g_iret X R dX11_rest_43 h
    · have h := h.2 c8
      refine g_bipush X (v := (-3)) dX11_rest_21 (by decide) ?_
      exact g_iret X R dX11_rest_23 h
  · have h := h.2 c4
    refine g_bipush X (v := (-2)) dX11_rest_8 (by decide) ?_
    exact g_iret X R dX11_rest_10 h

/-! X11_join.join(II)I -/
def rmX11_join : Room := { frames := 4, cells := 0, slots := 0, locals := 97 }
theorem yo_X11_join : yX11_join.cls = RX11 ∧ yX11_join.cls ≠ "java/lang/invoke/MethodHandle" ∧ yX11_join.cls ≠ "java/lang/invoke/VarHandle" ∧ (parseMethodDescriptor yX11_join.desc).map (fun d => d.parameters.length) = some 2 := by decide +kernel
theorem kX11_join_25 : Cond.fieldLink RX11 25 "SnowCourseModel" (TX11 20).2.1 (TX11 20).2.2.1 ∈ wsX11_join := by decide +kernel
theorem iX11_join_X11 : ∀ w ∈ u_ws RX11 TX11 39, w ∈ wsX11_join := by decide +kernel
def vc_X11_join_B80  (Q : Int32 → MI → MJ → Prop)  (v1 : Int32) (v2 : Int32) (s0 : Int32) (I : MI) (J : MJ) : Prop := vc_X11_snowTill v1 s0 I J (fun (r3 : Int32) (I1 : MI) (J2 : MJ) => vc_X11_snowTill v2 s0 I1 J2 (fun (r6 : Int32) (I4 : MI) (J5 : MJ) => ∀ x7 : Int32, x7 = r3 + r6 → ((x7 ≤ 99 → vc_X11_note  I4 J5 (fun (I9 : MI) (J10 : MJ) => vp_in (8 + v1) 20 ∧ ∀ I12 : MI, I12 = wI I9 93 (Int32.toNatClampNeg (8 + v1)) x7 → vp_in (8 + v2) 20 ∧ ∀ I14 : MI, I14 = wI I12 93 (Int32.toNatClampNeg (8 + v2)) 0 → vp_in (4 + v1) 20 ∧ ∀ I16 : MI, I16 = wI I14 93 (Int32.toNatClampNeg (4 + v1)) s0 → vp_in (4 + v2) 20 ∧ ∀ I18 : MI, I18 = wI I16 93 (Int32.toNatClampNeg (4 + v2)) s0 → Q x7 I18 J10)) ∧ (¬ x7 ≤ 99 → Q (-5) I4 J5))))
set_option maxRecDepth 100000 in
set_option maxHeartbeats 4000000 in
theorem w_X11_join_B80 {Z : RT}  (X : Cx Z cX11_join 5 RX11 wsX11_join rmX11_join (some .int)) {Q : Int32 → MI → MJ → Prop} (R : RI Z Q)    (v1 : Int32) (v2 : Int32) (s0 : Int32) (I : MI) (J : MJ) (h : vc_X11_join_B80  Q  v1 v2 s0 I J) : GW Z 5 I J 80 [(0, .ref (ea (zE Z) 87)), (1, .int v1), (2, .int v2)] [.int s0] := by
  refine g_istore_n X (lv' := [(3, .int s0), (0, .ref (ea (zE Z) 87)), (1, .int v1), (2, .int v2)]) dX11_join_80 rfl (by decide) rfl ?_
  refine g_aload_n X dX11_join_81 rfl 1 rfl ?_
  refine g_iload_n X dX11_join_82 rfl 2 rfl ?_
  refine g_iload_n X dX11_join_83 rfl 0 rfl ?_
  refine g_callVI X (As := [.int v1, .int s0]) (rest := []) (T := TX11) (N := 39) (c_X11_snowTill (zl Z) (zE Z) v1 s0) gX11_join_X11_snowTill yo_X11_snowTill rfl ⟨Nat.le_of_ble_eq_true rfl, Nat.le_of_ble_eq_true rfl⟩ (Nat.le_of_ble_eq_true rfl) rfl rfl rfl dX11_join_84 h (fun r3 I1 J2 h => ?_)
  refine g_aload_n X dX11_join_87 rfl 1 rfl ?_
  refine g_iload_n X dX11_join_88 rfl 3 rfl ?_
  refine g_iload_n X dX11_join_89 rfl 0 rfl ?_
  refine g_callVI X (As := [.int v2, .int s0]) (rest := [.int r3]) (T := TX11) (N := 39) (c_X11_snowTill (zl Z) (zE Z) v2 s0) gX11_join_X11_snowTill yo_X11_snowTill rfl ⟨Nat.le_of_ble_eq_true rfl, Nat.le_of_ble_eq_true rfl⟩ (Nat.le_of_ble_eq_true rfl) rfl rfl rfl dX11_join_90 h (fun r6 I4 J5 h => ?_)
  refine g_iadd X dX11_join_93 ?_
  refine g_topi (fun x7 ex7 => ?_)
  have h := h x7 ex7
  refine g_istore X (lv' := [(4, .int x7), (3, .int s0), (0, .ref (ea (zE Z) 87)), (1, .int v1), (2, .int v2)]) dX11_join_94 (by decide) rfl ?_
  refine g_iload X dX11_join_96 0 rfl ?_
  refine g_bipush X (v := 99) dX11_join_98 (by decide) ?_
  refine g_icmp_le X (tgt := 106) dX11_join_100 (by decide) (fun c8 => ?_) (fun c8 => ?_)
  · have h := h.1 c8
    refine g_aload_n X dX11_join_106 rfl 2 rfl ?_
    refine g_callVV X (As := []) (rest := []) (T := TX11) (N := 39) (c_X11_note (zl Z) (zE Z) ) gX11_join_X11_note yo_X11_note rfl ⟨Nat.le_of_ble_eq_true rfl, Nat.le_of_ble_eq_true rfl⟩ (Nat.le_of_ble_eq_true rfl) rfl rfl rfl dX11_join_107 h (fun  I9 J10 h => ?_)
    refine g_aload_n X dX11_join_110 rfl 2 rfl ?_
    refine g_getr X (C := RX11) (T := TX11) (N := 39) (ci := 9) (k := 20) iX11_join_X11 rfl kX11_join_25 (Nat.le_of_ble_eq_true rfl) rfl (by decide) rfl rfl dX11_join_111 ?_
    refine g_bipush X (v := 8) dX11_join_114 (by decide) ?_
    refine g_iload_n X dX11_join_116 rfl 3 rfl ?_
    refine g_iadd X dX11_join_117 ?_
    refine g_iload X dX11_join_118 0 rfl ?_
    obtain ⟨b11, h⟩ := h
    refine g_iast X (Nat.le_of_ble_eq_true rfl) rfl b11 dX11_join_120 ?_
    refine g_nmI (fun I12 eI12 => ?_)
    have h := h I12 eI12
    refine g_aload_n X dX11_join_121 rfl 2 rfl ?_
    refine g_getr X (C := RX11) (T := TX11) (N := 39) (ci := 9) (k := 20) iX11_join_X11 rfl kX11_join_25 (Nat.le_of_ble_eq_true rfl) rfl (by decide) rfl rfl dX11_join_122 ?_
    refine g_bipush X (v := 8) dX11_join_125 (by decide) ?_
    refine g_iload_n X dX11_join_127 rfl 4 rfl ?_
    refine g_iadd X dX11_join_128 ?_
    refine g_iconst X (v := 0) dX11_join_129 (by decide) ?_
    obtain ⟨b13, h⟩ := h
    refine g_iast X (Nat.le_of_ble_eq_true rfl) rfl b13 dX11_join_130 ?_
    refine g_nmI (fun I14 eI14 => ?_)
    have h := h I14 eI14
    refine g_aload_n X dX11_join_131 rfl 2 rfl ?_
    refine g_getr X (C := RX11) (T := TX11) (N := 39) (ci := 9) (k := 20) iX11_join_X11 rfl kX11_join_25 (Nat.le_of_ble_eq_true rfl) rfl (by decide) rfl rfl dX11_join_132 ?_
    refine g_iconst X (v := 4) dX11_join_135 (by decide) ?_
    refine g_iload_n X dX11_join_136 rfl 3 rfl ?_
    refine g_iadd X dX11_join_137 ?_
    refine g_iload_n X dX11_join_138 rfl 1 rfl ?_
    obtain ⟨b15, h⟩ := h
    refine g_iast X (Nat.le_of_ble_eq_true rfl) rfl b15 dX11_join_139 ?_
    refine g_nmI (fun I16 eI16 => ?_)
    have h := h I16 eI16
    refine g_aload_n X dX11_join_140 rfl 2 rfl ?_
    refine g_getr X (C := RX11) (T := TX11) (N := 39) (ci := 9) (k := 20) iX11_join_X11 rfl kX11_join_25 (Nat.le_of_ble_eq_true rfl) rfl (by decide) rfl rfl dX11_join_141 ?_
    refine g_iconst X (v := 4) dX11_join_144 (by decide) ?_
    refine g_iload_n X dX11_join_145 rfl 4 rfl ?_
    refine g_iadd X dX11_join_146 ?_
    refine g_iload_n X dX11_join_147 rfl 1 rfl ?_
    obtain ⟨b17, h⟩ := h
    refine g_iast X (Nat.le_of_ble_eq_true rfl) rfl b17 dX11_join_148 ?_
    refine g_nmI (fun I18 eI18 => ?_)
    have h := h I18 eI18
    refine g_iload X dX11_join_149 0 rfl ?_
    exact g_iret X R dX11_join_151 h
  · have h := h.2 c8
    refine g_bipush X (v := (-5)) dX11_join_103 (by decide) ?_
    exact g_iret X R dX11_join_105 h
def vc_X11_join (p1 : Int32) (p2 : Int32) (I : MI) (J : MJ) (Q : Int32 → MI → MJ → Prop) : Prop := vc_X11_isCart p1 I J (fun (r21 : Int32) (I19 : MI) (J20 : MJ) => ((r21 = 0 → Q (-2) I19 J20) ∧ (¬ r21 = 0 → vc_X11_isCart p2 I19 J20 (fun (r25 : Int32) (I23 : MI) (J24 : MJ) => ((r25 = 0 → Q (-2) I23 J24) ∧ (¬ r25 = 0 → ((¬ p1 = p2 → vp_in p1 20 ∧ vp_in p2 20 ∧ (((I23 93 (Int32.toNatClampNeg p1)) = (I23 93 (Int32.toNatClampNeg p2)) → vp_in (4 + p1) 20 ∧ vp_in (4 + p2) 20 ∧ (((I23 93 (Int32.toNatClampNeg (4 + p1))) ≤ (I23 93 (Int32.toNatClampNeg (4 + p2))) → vp_in (4 + p2) 20 ∧ vc_X11_join_B80  Q  p1 p2 (I23 93 (Int32.toNatClampNeg (4 + p2))) I23 J24) ∧ (¬ (I23 93 (Int32.toNatClampNeg (4 + p1))) ≤ (I23 93 (Int32.toNatClampNeg (4 + p2))) → vp_in (4 + p1) 20 ∧ vc_X11_join_B80  Q  p1 p2 (I23 93 (Int32.toNatClampNeg (4 + p1))) I23 J24))) ∧ (¬ (I23 93 (Int32.toNatClampNeg p1)) = (I23 93 (Int32.toNatClampNeg p2)) → Q (-4) I23 J24))) ∧ (p1 = p2 → Q (-2) I23 J24))))))))
set_option maxRecDepth 100000 in
set_option maxHeartbeats 4000000 in
theorem c_X11_join (l : Launch) (E : ET)  (p1 : Int32) (p2 : Int32) : CI l yX11_join wsX11_join rmX11_join E [.ref (ea E 87), .int p1, .int p2] (vc_X11_join p1 p2) := by
  refine CI.of (cc := cX11_join) (maxL := 5) (own := RX11) (by decide) rfl rfl (Nat.le_of_ble_eq_true rfl) ?_
  intro Z I J Q hE hl X R h
  subst hE
  subst hl
  show GW Z 5 I J 0 [(0, .ref (ea (zE Z) 87)), (1, .int p1), (2, .int p2)] []
  refine g_aload_n X dX11_join_0 rfl 0 rfl ?_
  refine g_iload_n X dX11_join_1 rfl 1 rfl ?_
  refine g_callVI X (As := [.int p1]) (rest := []) (T := TX11) (N := 39) (c_X11_isCart (zl Z) (zE Z) p1) gX11_join_X11_isCart yo_X11_isCart rfl ⟨Nat.le_of_ble_eq_true rfl, Nat.le_of_ble_eq_true rfl⟩ (Nat.le_of_ble_eq_true rfl) rfl rfl rfl dX11_join_2 h (fun r21 I19 J20 h => ?_)
  refine g_if_eq X (tgt := 21) dX11_join_5 (by decide) (fun c22 => ?_) (fun c22 => ?_)
  · have h := h.1 c22
    refine g_bipush X (v := (-2)) dX11_join_21 (by decide) ?_
    exact g_iret X R dX11_join_23 h
  · have h := h.2 c22
    refine g_aload_n X dX11_join_8 rfl 0 rfl ?_
    refine g_iload_n X dX11_join_9 rfl 2 rfl ?_
    refine g_callVI X (As := [.int p2]) (rest := []) (T := TX11) (N := 39) (c_X11_isCart (zl Z) (zE Z) p2) gX11_join_X11_isCart yo_X11_isCart rfl ⟨Nat.le_of_ble_eq_true rfl, Nat.le_of_ble_eq_true rfl⟩ (Nat.le_of_ble_eq_true rfl) rfl rfl rfl dX11_join_10 h (fun r25 I23 J24 h => ?_)
    refine g_if_eq X (tgt := 21) dX11_join_13 (by decide) (fun c26 => ?_) (fun c26 => ?_)
    · have h := h.1 c26
      refine g_bipush X (v := (-2)) dX11_join_21 (by decide) ?_
      exact g_iret X R dX11_join_23 h
    · have h := h.2 c26
      refine g_iload_n X dX11_join_16 rfl 1 rfl ?_
      refine g_iload_n X dX11_join_17 rfl 2 rfl ?_
      refine g_icmp_ne X (tgt := 24) dX11_join_18 (by decide) (fun c27 => ?_) (fun c27 => ?_)
      · have h := h.1 c27
        refine g_aload_n X dX11_join_24 rfl 0 rfl ?_
        refine g_getr X (C := RX11) (T := TX11) (N := 39) (ci := 9) (k := 20) iX11_join_X11 rfl kX11_join_25 (Nat.le_of_ble_eq_true rfl) rfl (by decide) rfl rfl dX11_join_25 ?_
        refine g_iload_n X dX11_join_28 rfl 1 rfl ?_
        obtain ⟨b28, h⟩ := h
        refine g_iald X (Nat.le_of_ble_eq_true rfl) rfl b28 dX11_join_29 ?_
        refine g_aload_n X dX11_join_30 rfl 0 rfl ?_
        refine g_getr X (C := RX11) (T := TX11) (N := 39) (ci := 9) (k := 20) iX11_join_X11 rfl kX11_join_25 (Nat.le_of_ble_eq_true rfl) rfl (by decide) rfl rfl dX11_join_31 ?_
        refine g_iload_n X dX11_join_34 rfl 2 rfl ?_
        obtain ⟨b29, h⟩ := h
        refine g_iald X (Nat.le_of_ble_eq_true rfl) rfl b29 dX11_join_35 ?_
        refine g_icmp_eq X (tgt := 42) dX11_join_36 (by decide) (fun c30 => ?_) (fun c30 => ?_)
        · have h := h.1 c30
          refine g_aload_n X dX11_join_42 rfl 0 rfl ?_
          refine g_getr X (C := RX11) (T := TX11) (N := 39) (ci := 9) (k := 20) iX11_join_X11 rfl kX11_join_25 (Nat.le_of_ble_eq_true rfl) rfl (by decide) rfl rfl dX11_join_43 ?_
          refine g_iconst X (v := 4) dX11_join_46 (by decide) ?_
          refine g_iload_n X dX11_join_47 rfl 1 rfl ?_
          refine g_iadd X dX11_join_48 ?_
          obtain ⟨b31, h⟩ := h
          refine g_iald X (Nat.le_of_ble_eq_true rfl) rfl b31 dX11_join_49 ?_
          refine g_aload_n X dX11_join_50 rfl 0 rfl ?_
          refine g_getr X (C := RX11) (T := TX11) (N := 39) (ci := 9) (k := 20) iX11_join_X11 rfl kX11_join_25 (Nat.le_of_ble_eq_true rfl) rfl (by decide) rfl rfl dX11_join_51 ?_
          refine g_iconst X (v := 4) dX11_join_54 (by decide) ?_
          refine g_iload_n X dX11_join_55 rfl 2 rfl ?_
          refine g_iadd X dX11_join_56 ?_
          obtain ⟨b32, h⟩ := h
          refine g_iald X (Nat.le_of_ble_eq_true rfl) rfl b32 dX11_join_57 ?_
          refine g_icmp_le X (tgt := 72) dX11_join_58 (by decide) (fun c33 => ?_) (fun c33 => ?_)
          · have h := h.1 c33
            refine g_aload_n X dX11_join_72 rfl 0 rfl ?_
            refine g_getr X (C := RX11) (T := TX11) (N := 39) (ci := 9) (k := 20) iX11_join_X11 rfl kX11_join_25 (Nat.le_of_ble_eq_true rfl) rfl (by decide) rfl rfl dX11_join_73 ?_
            refine g_iconst X (v := 4) dX11_join_76 (by decide) ?_
            refine g_iload_n X dX11_join_77 rfl 2 rfl ?_
            refine g_iadd X dX11_join_78 ?_
            obtain ⟨b34, h⟩ := h
            refine g_iald X (Nat.le_of_ble_eq_true rfl) rfl b34 dX11_join_79 ?_
            refine GW.sub (lv' := [(0, .ref (ea (zE Z) 87)), (1, .int p1), (2, .int p2)]) [0, 1, 2] rfl ?_
            exact w_X11_join_B80 X R   p1 p2 (I23 93 (Int32.toNatClampNeg (4 + p2))) I23 J24 h
          · have h := h.2 c33
            refine g_aload_n X dX11_join_61 rfl 0 rfl ?_
            refine g_getr X (C := RX11) (T := TX11) (N := 39) (ci := 9) (k := 20) iX11_join_X11 rfl kX11_join_25 (Nat.le_of_ble_eq_true rfl) rfl (by decide) rfl rfl dX11_join_62 ?_
            refine g_iconst X (v := 4) dX11_join_65 (by decide) ?_
            refine g_iload_n X dX11_join_66 rfl 1 rfl ?_
            refine g_iadd X dX11_join_67 ?_
            obtain ⟨b35, h⟩ := h
            refine g_iald X (Nat.le_of_ble_eq_true rfl) rfl b35 dX11_join_68 ?_
            refine g_goto X (tgt := 80) dX11_join_69 (by decide) ?_
            refine GW.sub (lv' := [(0, .ref (ea (zE Z) 87)), (1, .int p1), (2, .int p2)]) [0, 1, 2] rfl ?_
            exact w_X11_join_B80 X R   p1 p2 (I23 93 (Int32.toNatClampNeg (4 + p1))) I23 J24 h
        · have h := h.2 c30
          refine g_bipush X (v := (-4)) dX11_join_39 (by decide) ?_
          exact g_iret X R dX11_join_41 h
      · have h := h.2 c27
        refine g_bipush X (v := (-2)) dX11_join_21 (by decide) ?_
        exact g_iret X R dX11_join_23 h

/-! X11_opened.opened(I)I -/
def rmX11_opened : Room := { frames := 1, cells := 0, slots := 0, locals := 21 }
theorem yo_X11_opened : yX11_opened.cls = RX11 ∧ yX11_opened.cls ≠ "java/lang/invoke/MethodHandle" ∧ yX11_opened.cls ≠ "java/lang/invoke/VarHandle" ∧ (parseMethodDescriptor yX11_opened.desc).map (fun d => d.parameters.length) = some 1 := by decide +kernel
def vc_X11_opened (p0 : Int32) (I : MI) (J : MJ) (Q : Int32 → MI → MJ → Prop) : Prop := vc_X11_root p0 I J (fun (r3 : Int32) (I1 : MI) (J2 : MJ) => Q (p0 - r3) I1 J2)
set_option maxRecDepth 100000 in
set_option maxHeartbeats 4000000 in
theorem c_X11_opened (l : Launch) (E : ET)  (p0 : Int32) : CI l yX11_opened wsX11_opened rmX11_opened E [.int p0] (vc_X11_opened p0) := by
  refine CI.of (cc := cX11_opened) (maxL := 1) (own := RX11) (by decide) rfl rfl (Nat.le_of_ble_eq_true rfl) ?_
  intro Z I J Q hE hl X R h
  subst hE
  subst hl
  show GW Z 1 I J 0 [(0, .int p0)] []
  refine g_iload_n X dX11_opened_0 rfl 0 rfl ?_
  refine g_iload_n X dX11_opened_1 rfl 0 rfl ?_
  refine g_callSI X (As := [.int p0]) (rest := [.int p0]) (c_X11_root (zl Z) (zE Z) p0) gX11_opened_X11_root yo_X11_root.2 rfl ⟨Nat.le_of_ble_eq_true rfl, Nat.le_of_ble_eq_true rfl⟩ rfl dX11_opened_2 h (fun r3 I1 J2 h => ?_)
  refine g_isub X dX11_opened_5 ?_
  exact g_iret X R dX11_opened_6 h

/-! X11_store.store(I)I -/
def rmX11_store : Room := { frames := 2, cells := 0, slots := 0, locals := 45 }
theorem yo_X11_store : yX11_store.cls = RX11 ∧ yX11_store.cls ≠ "java/lang/invoke/MethodHandle" ∧ yX11_store.cls ≠ "java/lang/invoke/VarHandle" ∧ (parseMethodDescriptor yX11_store.desc).map (fun d => d.parameters.length) = some 1 := by decide +kernel
theorem kX11_store_25 : Cond.fieldLink RX11 25 "SnowCourseModel" (TX11 20).2.1 (TX11 20).2.2.1 ∈ wsX11_store := by decide +kernel
theorem iX11_store_X11 : ∀ w ∈ u_ws RX11 TX11 39, w ∈ wsX11_store := by decide +kernel
theorem kX11_store_7 : Cond.fieldLink RX11 7 "SnowCourseModel" (TX11 1).2.1 (TX11 1).2.2.1 ∈ wsX11_store := by decide +kernel
def vc_X11_store (p1 : Int32) (I : MI) (J : MJ) (Q : Int32 → MI → MJ → Prop) : Prop := vc_X11_isCart p1 I J (fun (r3 : Int32) (I1 : MI) (J2 : MJ) => ((¬ r3 = 0 → vp_in p1 20 ∧ ∀ x6 : Int32, x6 = I1 93 (Int32.toNatClampNeg p1) → vp_in x6 7 ∧ (((I1 88 (Int32.toNatClampNeg x6)) = 2 → vp_in (12 + x6) 20 ∧ vc_X11_opened (I1 93 (Int32.toNatClampNeg (12 + x6))) I1 J2 (fun (r12 : Int32) (I10 : MI) (J11 : MJ) => vp_in (8 + p1) 20 ∧ ∀ x14 : Int32, x14 = r12 + (I10 93 (Int32.toNatClampNeg (8 + p1))) → ((x14 ≤ 999 → vc_X11_note  I10 J11 (fun (I16 : MI) (J17 : MJ) => vp_in (12 + x6) 20 ∧ ∀ I19 : MI, I19 = wI I16 93 (Int32.toNatClampNeg (12 + x6)) x14 → vp_in (8 + p1) 20 ∧ ∀ I21 : MI, I21 = wI I19 93 (Int32.toNatClampNeg (8 + p1)) 0 → Q x14 I21 J17)) ∧ (¬ x14 ≤ 999 → Q (-5) I10 J11)))) ∧ (¬ (I1 88 (Int32.toNatClampNeg x6)) = 2 → Q (-4) I1 J2))) ∧ (r3 = 0 → Q (-2) I1 J2)))
set_option maxRecDepth 100000 in
set_option maxHeartbeats 4000000 in
theorem c_X11_store (l : Launch) (E : ET)  (p1 : Int32) : CI l yX11_store wsX11_store rmX11_store E [.ref (ea E 87), .int p1] (vc_X11_store p1) := by
  refine CI.of (cc := cX11_store) (maxL := 4) (own := RX11) (by decide) rfl rfl (Nat.le_of_ble_eq_true rfl) ?_
  intro Z I J Q hE hl X R h
  subst hE
  subst hl
  show GW Z 4 I J 0 [(0, .ref (ea (zE Z) 87)), (1, .int p1)] []
  refine g_aload_n X dX11_store_0 rfl 0 rfl ?_
  refine g_iload_n X dX11_store_1 rfl 1 rfl ?_
  refine g_callVI X (As := [.int p1]) (rest := []) (T := TX11) (N := 39) (c_X11_isCart (zl Z) (zE Z) p1) gX11_store_X11_isCart yo_X11_isCart rfl ⟨Nat.le_of_ble_eq_true rfl, Nat.le_of_ble_eq_true rfl⟩ (Nat.le_of_ble_eq_true rfl) rfl rfl rfl dX11_store_2 h (fun r3 I1 J2 h => ?_)
  refine g_if_ne X (tgt := 11) dX11_store_5 (by decide) (fun c4 => ?_) (fun c4 => ?_)
  · have h := h.1 c4
    refine g_aload_n X dX11_store_11 rfl 0 rfl ?_
    refine g_getr X (C := RX11) (T := TX11) (N := 39) (ci := 9) (k := 20) iX11_store_X11 rfl kX11_store_25 (Nat.le_of_ble_eq_true rfl) rfl (by decide) rfl rfl dX11_store_12 ?_
    refine g_iload_n X dX11_store_15 rfl 1 rfl ?_
    obtain ⟨b5, h⟩ := h
    refine g_iald X (Nat.le_of_ble_eq_true rfl) rfl b5 dX11_store_16 ?_
    refine g_topi (fun x6 ex6 => ?_)
    have h := h x6 ex6
    refine g_istore_n X (lv' := [(2, .int x6), (0, .ref (ea (zE Z) 87)), (1, .int p1)]) dX11_store_17 rfl (by decide) rfl ?_
    refine g_aload_n X dX11_store_18 rfl 1 rfl ?_
    refine g_getr X (C := RX11) (T := TX11) (N := 39) (ci := 9) (k := 1) iX11_store_X11 rfl kX11_store_7 (Nat.le_of_ble_eq_true rfl) rfl (by decide) rfl rfl dX11_store_19 ?_
    refine g_iload_n X dX11_store_22 rfl 0 rfl ?_
    obtain ⟨b7, h⟩ := h
    refine g_iald X (Nat.le_of_ble_eq_true rfl) rfl b7 dX11_store_23 ?_
    refine g_iconst X (v := 2) dX11_store_24 (by decide) ?_
    refine g_icmp_eq X (tgt := 31) dX11_store_25 (by decide) (fun c8 => ?_) (fun c8 => ?_)
    · have h := h.1 c8
      refine g_aload_n X dX11_store_31 rfl 1 rfl ?_
      refine g_getr X (C := RX11) (T := TX11) (N := 39) (ci := 9) (k := 20) iX11_store_X11 rfl kX11_store_25 (Nat.le_of_ble_eq_true rfl) rfl (by decide) rfl rfl dX11_store_32 ?_
      refine g_bipush X (v := 12) dX11_store_35 (by decide) ?_
      refine g_iload_n X dX11_store_37 rfl 0 rfl ?_
      refine g_iadd X dX11_store_38 ?_
      obtain ⟨b9, h⟩ := h
      refine g_iald X (Nat.le_of_ble_eq_true rfl) rfl b9 dX11_store_39 ?_
      refine g_callSI X (As := [.int (I1 93 (Int32.toNatClampNeg (12 + x6)))]) (rest := []) (c_X11_opened (zl Z) (zE Z) (I1 93 (Int32.toNatClampNeg (12 + x6)))) gX11_store_X11_opened yo_X11_opened.2 rfl ⟨Nat.le_of_ble_eq_true rfl, Nat.le_of_ble_eq_true rfl⟩ rfl dX11_store_40 h (fun r12 I10 J11 h => ?_)
      refine g_aload_n X dX11_store_43 rfl 1 rfl ?_
      refine g_getr X (C := RX11) (T := TX11) (N := 39) (ci := 9) (k := 20) iX11_store_X11 rfl kX11_store_25 (Nat.le_of_ble_eq_true rfl) rfl (by decide) rfl rfl dX11_store_44 ?_
      refine g_bipush X (v := 8) dX11_store_47 (by decide) ?_
      refine g_iload_n X dX11_store_49 rfl 2 rfl ?_
      refine g_iadd X dX11_store_50 ?_
      obtain ⟨b13, h⟩ := h
      refine g_iald X (Nat.le_of_ble_eq_true rfl) rfl b13 dX11_store_51 ?_
      refine g_iadd X dX11_store_52 ?_
      refine g_topi (fun x14 ex14 => ?_)
      have h := h x14 ex14
      refine g_istore_n X (lv' := [(3, .int x14), (2, .int x6), (0, .ref (ea (zE Z) 87)), (1, .int p1)]) dX11_store_53 rfl (by decide) rfl ?_
      refine g_iload_n X dX11_store_54 rfl 0 rfl ?_
      refine g_sipush X (v := 999) dX11_store_55 (by decide) ?_
      refine g_icmp_le X (tgt := 64) dX11_store_58 (by decide) (fun c15 => ?_) (fun c15 => ?_)
      · have h := h.1 c15
        refine g_aload_n X dX11_store_64 rfl 2 rfl ?_
        refine g_callVV X (As := []) (rest := []) (T := TX11) (N := 39) (c_X11_note (zl Z) (zE Z) ) gX11_store_X11_note yo_X11_note rfl ⟨Nat.le_of_ble_eq_true rfl, Nat.le_of_ble_eq_true rfl⟩ (Nat.le_of_ble_eq_true rfl) rfl rfl rfl dX11_store_65 h (fun  I16 J17 h => ?_)
        refine g_aload_n X dX11_store_68 rfl 2 rfl ?_
        refine g_getr X (C := RX11) (T := TX11) (N := 39) (ci := 9) (k := 20) iX11_store_X11 rfl kX11_store_25 (Nat.le_of_ble_eq_true rfl) rfl (by decide) rfl rfl dX11_store_69 ?_
        refine g_bipush X (v := 12) dX11_store_72 (by decide) ?_
        refine g_iload_n X dX11_store_74 rfl 1 rfl ?_
        refine g_iadd X dX11_store_75 ?_
        refine g_iload_n X dX11_store_76 rfl 0 rfl ?_
        obtain ⟨b18, h⟩ := h
        refine g_iast X (Nat.le_of_ble_eq_true rfl) rfl b18 dX11_store_77 ?_
        refine g_nmI (fun I19 eI19 => ?_)
        have h := h I19 eI19
        refine g_aload_n X dX11_store_78 rfl 2 rfl ?_
        refine g_getr X (C := RX11) (T := TX11) (N := 39) (ci := 9) (k := 20) iX11_store_X11 rfl kX11_store_25 (Nat.le_of_ble_eq_true rfl) rfl (by decide) rfl rfl dX11_store_79 ?_
        refine g_bipush X (v := 8) dX11_store_82 (by decide) ?_
        refine g_iload_n X dX11_store_84 rfl 3 rfl ?_
        refine g_iadd X dX11_store_85 ?_
        refine g_iconst X (v := 0) dX11_store_86 (by decide) ?_
        obtain ⟨b20, h⟩ := h
        refine g_iast X (Nat.le_of_ble_eq_true rfl) rfl b20 dX11_store_87 ?_
        refine g_nmI (fun I21 eI21 => ?_)
        have h := h I21 eI21
        refine g_iload_n X dX11_store_88 rfl 0 rfl ?_
        exact g_iret X R dX11_store_89 h
      · have h := h.2 c15
        refine g_bipush X (v := (-5)) dX11_store_61 (by decide) ?_
        exact g_iret X R dX11_store_63 h
    · have h := h.2 c8
      refine g_bipush X (v := (-4)) dX11_store_28 (by decide) ?_
      exact g_iret X R dX11_store_30 h
  · have h := h.2 c4
    refine g_bipush X (v := (-2)) dX11_store_8 (by decide) ?_
    exact g_iret X R dX11_store_10 h

/-! X11_take.take(II)I -/
def rmX11_take : Room := { frames := 2, cells := 0, slots := 0, locals := 45 }
theorem yo_X11_take : yX11_take.cls = RX11 ∧ yX11_take.cls ≠ "java/lang/invoke/MethodHandle" ∧ yX11_take.cls ≠ "java/lang/invoke/VarHandle" ∧ (parseMethodDescriptor yX11_take.desc).map (fun d => d.parameters.length) = some 2 := by decide +kernel
theorem kX11_take_25 : Cond.fieldLink RX11 25 "SnowCourseModel" (TX11 20).2.1 (TX11 20).2.2.1 ∈ wsX11_take := by decide +kernel
theorem iX11_take_X11 : ∀ w ∈ u_ws RX11 TX11 39, w ∈ wsX11_take := by decide +kernel
theorem kX11_take_7 : Cond.fieldLink RX11 7 "SnowCourseModel" (TX11 1).2.1 (TX11 1).2.2.1 ∈ wsX11_take := by decide +kernel
def vc_X11_take (p1 : Int32) (p2 : Int32) (I : MI) (J : MJ) (Q : Int32 → MI → MJ → Prop) : Prop := vc_X11_isCart p1 I J (fun (r3 : Int32) (I1 : MI) (J2 : MJ) => ((¬ r3 = 0 → vc_X11_in p2 1 99 I1 J2 (fun (r7 : Int32) (I5 : MI) (J6 : MJ) => ((¬ r7 = 0 → vp_in p1 20 ∧ ∀ x10 : Int32, x10 = I5 93 (Int32.toNatClampNeg p1) → vp_in x10 7 ∧ ((¬ (I5 88 (Int32.toNatClampNeg x10)) = 2 → Q (-4) I5 J6) ∧ ((I5 88 (Int32.toNatClampNeg x10)) = 2 → vp_in (12 + x10) 20 ∧ vc_X11_opened (I5 93 (Int32.toNatClampNeg (12 + x10))) I5 J6 (fun (r16 : Int32) (I14 : MI) (J15 : MJ) => ((p2 ≤ r16 → vp_in (8 + p1) 20 ∧ ((((I14 93 (Int32.toNatClampNeg (8 + p1))) + p2) ≤ 99 → vc_X11_note  I14 J15 (fun (I20 : MI) (J21 : MJ) => vp_in (12 + x10) 20 ∧ vc_X11_opened (I20 93 (Int32.toNatClampNeg (12 + x10))) I20 J21 (fun (r25 : Int32) (I23 : MI) (J24 : MJ) => vp_in (12 + x10) 20 ∧ ∀ I27 : MI, I27 = wI I23 93 (Int32.toNatClampNeg (12 + x10)) (r25 - p2) → vp_in (8 + p1) 20 ∧ vp_in (8 + p1) 20 ∧ ∀ I30 : MI, I30 = wI I27 93 (Int32.toNatClampNeg (8 + p1)) ((I27 93 (Int32.toNatClampNeg (8 + p1))) + p2) → vp_in (8 + p1) 20 ∧ Q (I30 93 (Int32.toNatClampNeg (8 + p1))) I30 J24))) ∧ (¬ ((I14 93 (Int32.toNatClampNeg (8 + p1))) + p2) ≤ 99 → Q (-5) I14 J15))) ∧ (¬ p2 ≤ r16 → Q (-4) I14 J15)))))) ∧ (r7 = 0 → Q (-3) I5 J6)))) ∧ (r3 = 0 → Q (-2) I1 J2)))
set_option maxRecDepth 100000 in
set_option maxHeartbeats 4000000 in
theorem c_X11_take (l : Launch) (E : ET)  (p1 : Int32) (p2 : Int32) : CI l yX11_take wsX11_take rmX11_take E [.ref (ea E 87), .int p1, .int p2] (vc_X11_take p1 p2) := by
  refine CI.of (cc := cX11_take) (maxL := 4) (own := RX11) (by decide) rfl rfl (Nat.le_of_ble_eq_true rfl) ?_
  intro Z I J Q hE hl X R h
  subst hE
  subst hl
  show GW Z 4 I J 0 [(0, .ref (ea (zE Z) 87)), (1, .int p1), (2, .int p2)] []
  refine g_aload_n X dX11_take_0 rfl 0 rfl ?_
  refine g_iload_n X dX11_take_1 rfl 1 rfl ?_
  refine g_callVI X (As := [.int p1]) (rest := []) (T := TX11) (N := 39) (c_X11_isCart (zl Z) (zE Z) p1) gX11_take_X11_isCart yo_X11_isCart rfl ⟨Nat.le_of_ble_eq_true rfl, Nat.le_of_ble_eq_true rfl⟩ (Nat.le_of_ble_eq_true rfl) rfl rfl rfl dX11_take_2 h (fun r3 I1 J2 h => ?_)
  refine g_if_ne X (tgt := 11) dX11_take_5 (by decide) (fun c4 => ?_) (fun c4 => ?_)
  · have h := h.1 c4
    refine g_iload_n X dX11_take_11 rfl 2 rfl ?_
    refine g_iconst X (v := 1) dX11_take_12 (by decide) ?_
    refine g_bipush X (v := 99) dX11_take_13 (by decide) ?_
    refine g_callSI X (As := [.int p2, .int 1, .int 99]) (rest := []) (c_X11_in (zl Z) (zE Z) p2 1 99) gX11_take_X11_in yo_X11_in.2 rfl ⟨Nat.le_of_ble_eq_true rfl, Nat.le_of_ble_eq_true rfl⟩ rfl dX11_take_15 h (fun r7 I5 J6 h => ?_)
    refine g_if_ne X (tgt := 24) dX11_take_18 (by decide) (fun c8 => ?_) (fun c8 => ?_)
    · have h := h.1 c8
      refine g_aload_n X dX11_take_24 rfl 0 rfl ?_
      refine g_getr X (C := RX11) (T := TX11) (N := 39) (ci := 9) (k := 20) iX11_take_X11 rfl kX11_take_25 (Nat.le_of_ble_eq_true rfl) rfl (by decide) rfl rfl dX11_take_25 ?_
      refine g_iload_n X dX11_take_28 rfl 1 rfl ?_
      obtain ⟨b9, h⟩ := h
      refine g_iald X (Nat.le_of_ble_eq_true rfl) rfl b9 dX11_take_29 ?_
      refine g_topi (fun x10 ex10 => ?_)
      have h := h x10 ex10
      refine g_istore_n X (lv' := [(3, .int x10), (0, .ref (ea (zE Z) 87)), (1, .int p1), (2, .int p2)]) dX11_take_30 rfl (by decide) rfl ?_
      refine g_aload_n X dX11_take_31 rfl 1 rfl ?_
      refine g_getr X (C := RX11) (T := TX11) (N := 39) (ci := 9) (k := 1) iX11_take_X11 rfl kX11_take_7 (Nat.le_of_ble_eq_true rfl) rfl (by decide) rfl rfl dX11_take_32 ?_
      refine g_iload_n X dX11_take_35 rfl 0 rfl ?_
      obtain ⟨b11, h⟩ := h
      refine g_iald X (Nat.le_of_ble_eq_true rfl) rfl b11 dX11_take_36 ?_
      refine g_iconst X (v := 2) dX11_take_37 (by decide) ?_
      refine g_icmp_ne X (tgt := 57) dX11_take_38 (by decide) (fun c12 => ?_) (fun c12 => ?_)
      · have h := h.1 c12
        refine g_bipush X (v := (-4)) dX11_take_57 (by decide) ?_
        exact g_iret X R dX11_take_59 h
      · have h := h.2 c12
        refine g_aload_n X dX11_take_41 rfl 1 rfl ?_
        refine g_getr X (C := RX11) (T := TX11) (N := 39) (ci := 9) (k := 20) iX11_take_X11 rfl kX11_take_25 (Nat.le_of_ble_eq_true rfl) rfl (by decide) rfl rfl dX11_take_42 ?_
        refine g_bipush X (v := 12) dX11_take_45 (by decide) ?_
        refine g_iload_n X dX11_take_47 rfl 0 rfl ?_
        refine g_iadd X dX11_take_48 ?_
        obtain ⟨b13, h⟩ := h
        refine g_iald X (Nat.le_of_ble_eq_true rfl) rfl b13 dX11_take_49 ?_
        refine g_callSI X (As := [.int (I5 93 (Int32.toNatClampNeg (12 + x10)))]) (rest := []) (c_X11_opened (zl Z) (zE Z) (I5 93 (Int32.toNatClampNeg (12 + x10)))) gX11_take_X11_opened yo_X11_opened.2 rfl ⟨Nat.le_of_ble_eq_true rfl, Nat.le_of_ble_eq_true rfl⟩ rfl dX11_take_50 h (fun r16 I14 J15 h => ?_)
        refine g_iload_n X dX11_take_53 rfl 3 rfl ?_
        refine g_icmp_ge X (tgt := 60) dX11_take_54 (by decide) (fun c17 => ?_) (fun c17 => ?_)
        · have h := h.1 c17
          refine g_aload_n X dX11_take_60 rfl 1 rfl ?_
          refine g_getr X (C := RX11) (T := TX11) (N := 39) (ci := 9) (k := 20) iX11_take_X11 rfl kX11_take_25 (Nat.le_of_ble_eq_true rfl) rfl (by decide) rfl rfl dX11_take_61 ?_
          refine g_bipush X (v := 8) dX11_take_64 (by decide) ?_
          refine g_iload_n X dX11_take_66 rfl 2 rfl ?_
          refine g_iadd X dX11_take_67 ?_
          obtain ⟨b18, h⟩ := h
          refine g_iald X (Nat.le_of_ble_eq_true rfl) rfl b18 dX11_take_68 ?_
          refine g_iload_n X dX11_take_69 rfl 3 rfl ?_
          refine g_iadd X dX11_take_70 ?_
          refine g_bipush X (v := 99) dX11_take_71 (by decide) ?_
          refine g_icmp_le X (tgt := 79) dX11_take_73 (by decide) (fun c19 => ?_) (fun c19 => ?_)
          · have h := h.1 c19
            refine g_aload_n X dX11_take_79 rfl 1 rfl ?_
            refine g_callVV X (As := []) (rest := []) (T := TX11) (N := 39) (c_X11_note (zl Z) (zE Z) ) gX11_take_X11_note yo_X11_note rfl ⟨Nat.le_of_ble_eq_true rfl, Nat.le_of_ble_eq_true rfl⟩ (Nat.le_of_ble_eq_true rfl) rfl rfl rfl dX11_take_80 h (fun  I20 J21 h => ?_)
            refine g_aload_n X dX11_take_83 rfl 1 rfl ?_
            refine g_getr X (C := RX11) (T := TX11) (N := 39) (ci := 9) (k := 20) iX11_take_X11 rfl kX11_take_25 (Nat.le_of_ble_eq_true rfl) rfl (by decide) rfl rfl dX11_take_84 ?_
            refine g_bipush X (v := 12) dX11_take_87 (by decide) ?_
            refine g_iload_n X dX11_take_89 rfl 0 rfl ?_
            refine g_iadd X dX11_take_90 ?_
            refine g_aload_n X dX11_take_91 rfl 1 rfl ?_
            refine g_getr X (C := RX11) (T := TX11) (N := 39) (ci := 9) (k := 20) iX11_take_X11 rfl kX11_take_25 (Nat.le_of_ble_eq_true rfl) rfl (by decide) rfl rfl dX11_take_92 ?_
            refine g_bipush X (v := 12) dX11_take_95 (by decide) ?_
            refine g_iload_n X dX11_take_97 rfl 0 rfl ?_
            refine g_iadd X dX11_take_98 ?_
            obtain ⟨b22, h⟩ := h
            refine g_iald X (Nat.le_of_ble_eq_true rfl) rfl b22 dX11_take_99 ?_
            refine g_callSI X (As := [.int (I20 93 (Int32.toNatClampNeg (12 + x10)))]) (rest := [.int (12 + x10), .ref (ea (zE Z) 93)]) (c_X11_opened (zl Z) (zE Z) (I20 93 (Int32.toNatClampNeg (12 + x10)))) gX11_take_X11_opened yo_X11_opened.2 rfl ⟨Nat.le_of_ble_eq_true rfl, Nat.le_of_ble_eq_true rfl⟩ rfl dX11_take_100 h (fun r25 I23 J24 h => ?_)
            refine g_iload_n X dX11_take_103 rfl 3 rfl ?_
            refine g_isub X dX11_take_104 ?_
            obtain ⟨b26, h⟩ := h
            refine g_iast X (Nat.le_of_ble_eq_true rfl) rfl b26 dX11_take_105 ?_
            refine g_nmI (fun I27 eI27 => ?_)
            have h := h I27 eI27
            refine g_aload_n X dX11_take_106 rfl 1 rfl ?_
            refine g_getr X (C := RX11) (T := TX11) (N := 39) (ci := 9) (k := 20) iX11_take_X11 rfl kX11_take_25 (Nat.le_of_ble_eq_true rfl) rfl (by decide) rfl rfl dX11_take_107 ?_
            refine g_bipush X (v := 8) dX11_take_110 (by decide) ?_
            refine g_iload_n X dX11_take_112 rfl 2 rfl ?_
            refine g_iadd X dX11_take_113 ?_
            refine g_dup2 X dX11_take_114 rfl rfl ?_
            obtain ⟨b28, h⟩ := h
            refine g_iald X (Nat.le_of_ble_eq_true rfl) rfl b28 dX11_take_115 ?_
            refine g_iload_n X dX11_take_116 rfl 3 rfl ?_
            refine g_iadd X dX11_take_117 ?_
            obtain ⟨b29, h⟩ := h
            refine g_iast X (Nat.le_of_ble_eq_true rfl) rfl b29 dX11_take_118 ?_
            refine g_nmI (fun I30 eI30 => ?_)
            have h := h I30 eI30
            refine g_aload_n X dX11_take_119 rfl 1 rfl ?_
            refine g_getr X (C := RX11) (T := TX11) (N := 39) (ci := 9) (k := 20) iX11_take_X11 rfl kX11_take_25 (Nat.le_of_ble_eq_true rfl) rfl (by decide) rfl rfl dX11_take_120 ?_
            refine g_bipush X (v := 8) dX11_take_123 (by decide) ?_
            refine g_iload_n X dX11_take_125 rfl 2 rfl ?_
            refine g_iadd X dX11_take_126 ?_
            obtain ⟨b31, h⟩ := h
            refine g_iald X (Nat.le_of_ble_eq_true rfl) rfl b31 dX11_take_127 ?_
            exact g_iret X R dX11_take_128 h
          · have h := h.2 c19
            refine g_bipush X (v := (-5)) dX11_take_76 (by decide) ?_
            exact g_iret X R dX11_take_78 h
        · have h := h.2 c17
          refine g_bipush X (v := (-4)) dX11_take_57 (by decide) ?_
          exact g_iret X R dX11_take_59 h
    · have h := h.2 c8
      refine g_bipush X (v := (-3)) dX11_take_21 (by decide) ?_
      exact g_iret X R dX11_take_23 h
  · have h := h.2 c4
    refine g_bipush X (v := (-2)) dX11_take_8 (by decide) ?_
    exact g_iret X R dX11_take_10 h

/-! X11_sell.sell(I)I -/
def rmX11_sell : Room := { frames := 2, cells := 0, slots := 0, locals := 45 }
theorem yo_X11_sell : yX11_sell.cls = RX11 ∧ yX11_sell.cls ≠ "java/lang/invoke/MethodHandle" ∧ yX11_sell.cls ≠ "java/lang/invoke/VarHandle" ∧ (parseMethodDescriptor yX11_sell.desc).map (fun d => d.parameters.length) = some 1 := by decide +kernel
theorem kX11_sell_7 : Cond.fieldLink RX11 7 "SnowCourseModel" (TX11 1).2.1 (TX11 1).2.2.1 ∈ wsX11_sell := by decide +kernel
theorem iX11_sell_X11 : ∀ w ∈ u_ws RX11 TX11 39, w ∈ wsX11_sell := by decide +kernel
theorem kX11_sell_25 : Cond.fieldLink RX11 25 "SnowCourseModel" (TX11 20).2.1 (TX11 20).2.2.1 ∈ wsX11_sell := by decide +kernel
def vc_X11_sell (p1 : Int32) (I : MI) (J : MJ) (Q : Int32 → MI → MJ → Prop) : Prop := vc_X11_isCart p1 I J (fun (r3 : Int32) (I1 : MI) (J2 : MJ) => ((¬ r3 = 0 → vp_in p1 20 ∧ vp_in (I1 93 (Int32.toNatClampNeg p1)) 7 ∧ (((I1 88 (Int32.toNatClampNeg (I1 93 (Int32.toNatClampNeg p1)))) = 3 → vc_X11_note  I1 J2 (fun (I8 : MI) (J9 : MJ) => vp_in (8 + p1) 20 ∧ vp_in (4 + p1) 20 ∧ vc_X11_priceIn (I8 93 (Int32.toNatClampNeg (4 + p1))) I8 J9 (fun (r14 : Int32) (I12 : MI) (J13 : MJ) => ∀ x15 : Int32, x15 = (I8 93 (Int32.toNatClampNeg (8 + p1))) * r14 → vp_in (8 + p1) 20 ∧ ∀ I17 : MI, I17 = wI I12 93 (Int32.toNatClampNeg (8 + p1)) 0 → vp_in 19 20 ∧ vp_in 19 20 ∧ ∀ I20 : MI, I20 = wI I17 93 (Int32.toNatClampNeg 19) ((I17 93 (Int32.toNatClampNeg 19)) + x15) → Q x15 I20 J13))) ∧ (¬ (I1 88 (Int32.toNatClampNeg (I1 93 (Int32.toNatClampNeg p1)))) = 3 → Q (-4) I1 J2))) ∧ (r3 = 0 → Q (-2) I1 J2)))
set_option maxRecDepth 100000 in
set_option maxHeartbeats 4000000 in
theorem c_X11_sell (l : Launch) (E : ET)  (p1 : Int32) : CI l yX11_sell wsX11_sell rmX11_sell E [.ref (ea E 87), .int p1] (vc_X11_sell p1) := by
  refine CI.of (cc := cX11_sell) (maxL := 3) (own := RX11) (by decide) rfl rfl (Nat.le_of_ble_eq_true rfl) ?_
  intro Z I J Q hE hl X R h
  subst hE
  subst hl
  show GW Z 3 I J 0 [(0, .ref (ea (zE Z) 87)), (1, .int p1)] []
  refine g_aload_n X dX11_sell_0 rfl 0 rfl ?_
  refine g_iload_n X dX11_sell_1 rfl 1 rfl ?_
  refine g_callVI X (As := [.int p1]) (rest := []) (T := TX11) (N := 39) (c_X11_isCart (zl Z) (zE Z) p1) gX11_sell_X11_isCart yo_X11_isCart rfl ⟨Nat.le_of_ble_eq_true rfl, Nat.le_of_ble_eq_true rfl⟩ (Nat.le_of_ble_eq_true rfl) rfl rfl rfl dX11_sell_2 h (fun r3 I1 J2 h => ?_)
  refine g_if_ne X (tgt := 11) dX11_sell_5 (by decide) (fun c4 => ?_) (fun c4 => ?_)
  · have h := h.1 c4
    refine g_aload_n X dX11_sell_11 rfl 0 rfl ?_
    refine g_getr X (C := RX11) (T := TX11) (N := 39) (ci := 9) (k := 1) iX11_sell_X11 rfl kX11_sell_7 (Nat.le_of_ble_eq_true rfl) rfl (by decide) rfl rfl dX11_sell_12 ?_
    refine g_aload_n X dX11_sell_15 rfl 0 rfl ?_
    refine g_getr X (C := RX11) (T := TX11) (N := 39) (ci := 9) (k := 20) iX11_sell_X11 rfl kX11_sell_25 (Nat.le_of_ble_eq_true rfl) rfl (by decide) rfl rfl dX11_sell_16 ?_
    refine g_iload_n X dX11_sell_19 rfl 1 rfl ?_
    obtain ⟨b5, h⟩ := h
    refine g_iald X (Nat.le_of_ble_eq_true rfl) rfl b5 dX11_sell_20 ?_
    obtain ⟨b6, h⟩ := h
    refine g_iald X (Nat.le_of_ble_eq_true rfl) rfl b6 dX11_sell_21 ?_
    refine g_iconst X (v := 3) dX11_sell_22 (by decide) ?_
    refine g_icmp_eq X (tgt := 29) dX11_sell_23 (by decide) (fun c7 => ?_) (fun c7 => ?_)
    · have h := h.1 c7
      refine g_aload_n X dX11_sell_29 rfl 0 rfl ?_
      refine g_callVV X (As := []) (rest := []) (T := TX11) (N := 39) (c_X11_note (zl Z) (zE Z) ) gX11_sell_X11_note yo_X11_note rfl ⟨Nat.le_of_ble_eq_true rfl, Nat.le_of_ble_eq_true rfl⟩ (Nat.le_of_ble_eq_true rfl) rfl rfl rfl dX11_sell_30 h (fun  I8 J9 h => ?_)
      refine g_aload_n X dX11_sell_33 rfl 0 rfl ?_
      refine g_getr X (C := RX11) (T := TX11) (N := 39) (ci := 9) (k := 20) iX11_sell_X11 rfl kX11_sell_25 (Nat.le_of_ble_eq_true rfl) rfl (by decide) rfl rfl dX11_sell_34 ?_
      refine g_bipush X (v := 8) dX11_sell_37 (by decide) ?_
      refine g_iload_n X dX11_sell_39 rfl 1 rfl ?_
      refine g_iadd X dX11_sell_40 ?_
      obtain ⟨b10, h⟩ := h
      refine g_iald X (Nat.le_of_ble_eq_true rfl) rfl b10 dX11_sell_41 ?_
      refine g_aload_n X dX11_sell_42 rfl 0 rfl ?_
      refine g_getr X (C := RX11) (T := TX11) (N := 39) (ci := 9) (k := 20) iX11_sell_X11 rfl kX11_sell_25 (Nat.le_of_ble_eq_true rfl) rfl (by decide) rfl rfl dX11_sell_43 ?_
      refine g_iconst X (v := 4) dX11_sell_46 (by decide) ?_
      refine g_iload_n X dX11_sell_47 rfl 1 rfl ?_
      refine g_iadd X dX11_sell_48 ?_
      obtain ⟨b11, h⟩ := h
      refine g_iald X (Nat.le_of_ble_eq_true rfl) rfl b11 dX11_sell_49 ?_
      refine g_callSI X (As := [.int (I8 93 (Int32.toNatClampNeg (4 + p1)))]) (rest := [.int (I8 93 (Int32.toNatClampNeg (8 + p1)))]) (c_X11_priceIn (zl Z) (zE Z) (I8 93 (Int32.toNatClampNeg (4 + p1)))) gX11_sell_X11_priceIn yo_X11_priceIn.2 rfl ⟨Nat.le_of_ble_eq_true rfl, Nat.le_of_ble_eq_true rfl⟩ rfl dX11_sell_50 h (fun r14 I12 J13 h => ?_)
      refine g_imul X dX11_sell_53 ?_
      refine g_topi (fun x15 ex15 => ?_)
      have h := h x15 ex15
      refine g_istore_n X (lv' := [(2, .int x15), (0, .ref (ea (zE Z) 87)), (1, .int p1)]) dX11_sell_54 rfl (by decide) rfl ?_
      refine g_aload_n X dX11_sell_55 rfl 1 rfl ?_
      refine g_getr X (C := RX11) (T := TX11) (N := 39) (ci := 9) (k := 20) iX11_sell_X11 rfl kX11_sell_25 (Nat.le_of_ble_eq_true rfl) rfl (by decide) rfl rfl dX11_sell_56 ?_
      refine g_bipush X (v := 8) dX11_sell_59 (by decide) ?_
      refine g_iload_n X dX11_sell_61 rfl 2 rfl ?_
      refine g_iadd X dX11_sell_62 ?_
      refine g_iconst X (v := 0) dX11_sell_63 (by decide) ?_
      obtain ⟨b16, h⟩ := h
      refine g_iast X (Nat.le_of_ble_eq_true rfl) rfl b16 dX11_sell_64 ?_
      refine g_nmI (fun I17 eI17 => ?_)
      have h := h I17 eI17
      refine g_aload_n X dX11_sell_65 rfl 1 rfl ?_
      refine g_getr X (C := RX11) (T := TX11) (N := 39) (ci := 9) (k := 20) iX11_sell_X11 rfl kX11_sell_25 (Nat.le_of_ble_eq_true rfl) rfl (by decide) rfl rfl dX11_sell_66 ?_
      refine g_bipush X (v := 19) dX11_sell_69 (by decide) ?_
      refine g_dup2 X dX11_sell_71 rfl rfl ?_
      obtain ⟨b18, h⟩ := h
      refine g_iald X (Nat.le_of_ble_eq_true rfl) rfl b18 dX11_sell_72 ?_
      refine g_iload_n X dX11_sell_73 rfl 0 rfl ?_
      refine g_iadd X dX11_sell_74 ?_
      obtain ⟨b19, h⟩ := h
      refine g_iast X (Nat.le_of_ble_eq_true rfl) rfl b19 dX11_sell_75 ?_
      refine g_nmI (fun I20 eI20 => ?_)
      have h := h I20 eI20
      refine g_iload_n X dX11_sell_76 rfl 0 rfl ?_
      exact g_iret X R dX11_sell_77 h
    · have h := h.2 c7
      refine g_bipush X (v := (-4)) dX11_sell_26 (by decide) ?_
      exact g_iret X R dX11_sell_28 h
  · have h := h.2 c4
    refine g_bipush X (v := (-2)) dX11_sell_8 (by decide) ?_
    exact g_iret X R dX11_sell_10 h

/-! X11_undo.undo()I -/
def rmX11_undo : Room := { frames := 1, cells := 0, slots := 0, locals := 24 }
theorem yo_X11_undo : yX11_undo.cls = RX11 ∧ yX11_undo.cls ≠ "java/lang/invoke/MethodHandle" ∧ yX11_undo.cls ≠ "java/lang/invoke/VarHandle" ∧ (parseMethodDescriptor yX11_undo.desc).map (fun d => d.parameters.length) = some 0 := by decide +kernel
theorem kX11_undo_82 : Cond.fieldLink RX11 82 "SnowCourseModel" (TX11 24).2.1 (TX11 24).2.2.1 ∈ wsX11_undo := by decide +kernel
theorem iX11_undo_X11 : ∀ w ∈ u_ws RX11 TX11 39, w ∈ wsX11_undo := by decide +kernel
theorem kX11_undo_35 : Cond.fieldLink RX11 35 "SnowCourseModel" (TX11 23).2.1 (TX11 23).2.2.1 ∈ wsX11_undo := by decide +kernel
theorem kX11_undo_25 : Cond.fieldLink RX11 25 "SnowCourseModel" (TX11 20).2.1 (TX11 20).2.2.1 ∈ wsX11_undo := by decide +kernel
def vc_X11_undo  (I : MI) (J : MJ) (Q : Int32 → MI → MJ → Prop) : Prop := ((¬ (I 87 24) = 0 → ∀ I2 : MI, I2 = wI I 87 24 ((I 87 24) - 1) → vc_X11_copy 96 160 (20 * (I2 87 24)) 93 20 0 I2 J (fun (I3 : MI) (J4 : MJ) => Q (I3 87 24) I3 J4)) ∧ ((I 87 24) = 0 → Q (-4) I J))
set_option maxRecDepth 100000 in
set_option maxHeartbeats 4000000 in
theorem c_X11_undo (l : Launch) (E : ET)   : CI l yX11_undo wsX11_undo rmX11_undo E [.ref (ea E 87)] (vc_X11_undo ) := by
  refine CI.of (cc := cX11_undo) (maxL := 1) (own := RX11) (by decide) rfl rfl (Nat.le_of_ble_eq_true rfl) ?_
  intro Z I J Q hE hl X R h
  subst hE
  subst hl
  show GW Z 1 I J 0 [(0, .ref (ea (zE Z) 87))] []
  refine g_aload_n X dX11_undo_0 rfl 0 rfl ?_
  refine g_geti X (C := RX11) (T := TX11) (N := 39) (ci := 9) (k := 24) iX11_undo_X11 rfl kX11_undo_82 (Nat.le_of_ble_eq_true rfl) rfl (by decide) rfl rfl dX11_undo_1 ?_
  refine g_if_ne X (tgt := 10) dX11_undo_4 (by decide) (fun c1 => ?_) (fun c1 => ?_)
  · have h := h.1 c1
    refine g_aload_n X dX11_undo_10 rfl 0 rfl ?_
    refine g_dup X dX11_undo_11 rfl ?_
    refine g_geti X (C := RX11) (T := TX11) (N := 39) (ci := 9) (k := 24) iX11_undo_X11 rfl kX11_undo_82 (Nat.le_of_ble_eq_true rfl) rfl (by decide) rfl rfl dX11_undo_12 ?_
    refine g_iconst X (v := 1) dX11_undo_15 (by decide) ?_
    refine g_isub X dX11_undo_16 ?_
    refine g_puti X (C := RX11) (T := TX11) (N := 39) (ci := 9) (k := 24) (ty0 := tyX11) iX11_undo_X11 tyX11_ok nmX11 rfl kX11_undo_82 (Nat.le_of_ble_eq_true rfl) rfl (by decide) rfl rfl (by decide +kernel) rfl dX11_undo_17 ?_
    refine g_nmI (fun I2 eI2 => ?_)
    have h := h I2 eI2
    refine g_aload_n X dX11_undo_20 rfl 0 rfl ?_
    refine g_getr X (C := RX11) (T := TX11) (N := 39) (ci := 9) (k := 23) iX11_undo_X11 rfl kX11_undo_35 (Nat.le_of_ble_eq_true rfl) rfl (by decide) rfl rfl dX11_undo_21 ?_
    refine g_bipush X (v := 20) dX11_undo_24 (by decide) ?_
    refine g_aload_n X dX11_undo_26 rfl 0 rfl ?_
    refine g_geti X (C := RX11) (T := TX11) (N := 39) (ci := 9) (k := 24) iX11_undo_X11 rfl kX11_undo_82 (Nat.le_of_ble_eq_true rfl) rfl (by decide) rfl rfl dX11_undo_27 ?_
    refine g_imul X dX11_undo_30 ?_
    refine g_aload_n X dX11_undo_31 rfl 0 rfl ?_
    refine g_getr X (C := RX11) (T := TX11) (N := 39) (ci := 9) (k := 20) iX11_undo_X11 rfl kX11_undo_25 (Nat.le_of_ble_eq_true rfl) rfl (by decide) rfl rfl dX11_undo_32 ?_
    refine g_iconst X (v := 0) dX11_undo_35 (by decide) ?_
    refine g_callSV X (As := [.ref (ea (zE Z) 96), .int (20 * (I2 87 24)), .ref (ea (zE Z) 93), .int 0]) (rest := []) (c_X11_copy (zl Z) (zE Z) (Nat.le_of_ble_eq_true rfl) rfl (Nat.le_of_ble_eq_true rfl) rfl (20 * (I2 87 24)) 0) gX11_undo_X11_copy yo_X11_copy.2 rfl ⟨Nat.le_of_ble_eq_true rfl, Nat.le_of_ble_eq_true rfl⟩ rfl dX11_undo_36 h (fun  I3 J4 h => ?_)
    refine g_aload_n X dX11_undo_39 rfl 0 rfl ?_
    refine g_geti X (C := RX11) (T := TX11) (N := 39) (ci := 9) (k := 24) iX11_undo_X11 rfl kX11_undo_82 (Nat.le_of_ble_eq_true rfl) rfl (by decide) rfl rfl dX11_undo_40 ?_
    exact g_iret X R dX11_undo_43 h
  · have h := h.2 c1
    refine g_bipush X (v := (-4)) dX11_undo_7 (by decide) ?_
    exact g_iret X R dX11_undo_9 h

/-! X11_keep.keep(I)I -/
def rmX11_keep : Room := { frames := 1, cells := 0, slots := 0, locals := 24 }
theorem yo_X11_keep : yX11_keep.cls = RX11 ∧ yX11_keep.cls ≠ "java/lang/invoke/MethodHandle" ∧ yX11_keep.cls ≠ "java/lang/invoke/VarHandle" ∧ (parseMethodDescriptor yX11_keep.desc).map (fun d => d.parameters.length) = some 1 := by decide +kernel
theorem kX11_keep_25 : Cond.fieldLink RX11 25 "SnowCourseModel" (TX11 20).2.1 (TX11 20).2.2.1 ∈ wsX11_keep := by decide +kernel
theorem iX11_keep_X11 : ∀ w ∈ u_ws RX11 TX11 39, w ∈ wsX11_keep := by decide +kernel
theorem kX11_keep_28 : Cond.fieldLink RX11 28 "SnowCourseModel" (TX11 21).2.1 (TX11 21).2.2.1 ∈ wsX11_keep := by decide +kernel
theorem kX11_keep_31 : Cond.fieldLink RX11 31 "SnowCourseModel" (TX11 22).2.1 (TX11 22).2.2.1 ∈ wsX11_keep := by decide +kernel
def vc_X11_keep (p1 : Int32) (I : MI) (J : MJ) (Q : Int32 → MI → MJ → Prop) : Prop := vc_X11_in p1 0 1 I J (fun (r3 : Int32) (I1 : MI) (J2 : MJ) => ((¬ r3 = 0 → vc_X11_copy 93 20 0 94 40 (20 * p1) I1 J2 (fun (I5 : MI) (J6 : MJ) => vp_in p1 2 ∧ ∀ I8 : MI, I8 = wI I5 95 (Int32.toNatClampNeg p1) (vp_nar .boolean 1) → Q p1 I8 J6)) ∧ (r3 = 0 → Q (-2) I1 J2)))
set_option maxRecDepth 100000 in
set_option maxHeartbeats 4000000 in
theorem c_X11_keep (l : Launch) (E : ET)  (p1 : Int32) : CI l yX11_keep wsX11_keep rmX11_keep E [.ref (ea E 87), .int p1] (vc_X11_keep p1) := by
  refine CI.of (cc := cX11_keep) (maxL := 2) (own := RX11) (by decide) rfl rfl (Nat.le_of_ble_eq_true rfl) ?_
  intro Z I J Q hE hl X R h
  subst hE
  subst hl
  show GW Z 2 I J 0 [(0, .ref (ea (zE Z) 87)), (1, .int p1)] []
  refine g_iload_n X dX11_keep_0 rfl 1 rfl ?_
  refine g_iconst X (v := 0) dX11_keep_1 (by decide) ?_
  refine g_iconst X (v := 1) dX11_keep_2 (by decide) ?_
  refine g_callSI X (As := [.int p1, .int 0, .int 1]) (rest := []) (c_X11_in (zl Z) (zE Z) p1 0 1) gX11_keep_X11_in yo_X11_in.2 rfl ⟨Nat.le_of_ble_eq_true rfl, Nat.le_of_ble_eq_true rfl⟩ rfl dX11_keep_3 h (fun r3 I1 J2 h => ?_)
  refine g_if_ne X (tgt := 12) dX11_keep_6 (by decide) (fun c4 => ?_) (fun c4 => ?_)
  · have h := h.1 c4
    refine g_aload_n X dX11_keep_12 rfl 0 rfl ?_
    refine g_getr X (C := RX11) (T := TX11) (N := 39) (ci := 9) (k := 20) iX11_keep_X11 rfl kX11_keep_25 (Nat.le_of_ble_eq_true rfl) rfl (by decide) rfl rfl dX11_keep_13 ?_
    refine g_iconst X (v := 0) dX11_keep_16 (by decide) ?_
    refine g_aload_n X dX11_keep_17 rfl 0 rfl ?_
    refine g_getr X (C := RX11) (T := TX11) (N := 39) (ci := 9) (k := 21) iX11_keep_X11 rfl kX11_keep_28 (Nat.le_of_ble_eq_true rfl) rfl (by decide) rfl rfl dX11_keep_18 ?_
    refine g_bipush X (v := 20) dX11_keep_21 (by decide) ?_
    refine g_iload_n X dX11_keep_23 rfl 1 rfl ?_
    refine g_imul X dX11_keep_24 ?_
    refine g_callSV X (As := [.ref (ea (zE Z) 93), .int 0, .ref (ea (zE Z) 94), .int (20 * p1)]) (rest := []) (c_X11_copy (zl Z) (zE Z) (Nat.le_of_ble_eq_true rfl) rfl (Nat.le_of_ble_eq_true rfl) rfl 0 (20 * p1)) gX11_keep_X11_copy yo_X11_copy.2 rfl ⟨Nat.le_of_ble_eq_true rfl, Nat.le_of_ble_eq_true rfl⟩ rfl dX11_keep_25 h (fun  I5 J6 h => ?_)
    refine g_aload_n X dX11_keep_28 rfl 0 rfl ?_
    refine g_getr X (C := RX11) (T := TX11) (N := 39) (ci := 9) (k := 22) iX11_keep_X11 rfl kX11_keep_31 (Nat.le_of_ble_eq_true rfl) rfl (by decide) rfl rfl dX11_keep_29 ?_
    refine g_iload_n X dX11_keep_32 rfl 1 rfl ?_
    refine g_iconst X (v := 1) dX11_keep_33 (by decide) ?_
    obtain ⟨b7, h⟩ := h
    refine g_zast X (Nat.le_of_ble_eq_true rfl) rfl b7 dX11_keep_34 ?_
    refine g_nmI (fun I8 eI8 => ?_)
    have h := h I8 eI8
    refine g_iload_n X dX11_keep_35 rfl 1 rfl ?_
    exact g_iret X R dX11_keep_36 h
  · have h := h.2 c4
    refine g_bipush X (v := (-2)) dX11_keep_9 (by decide) ?_
    exact g_iret X R dX11_keep_11 h

/-! X11_back.back(I)I -/
def rmX11_back : Room := { frames := 1, cells := 0, slots := 0, locals := 24 }
theorem yo_X11_back : yX11_back.cls = RX11 ∧ yX11_back.cls ≠ "java/lang/invoke/MethodHandle" ∧ yX11_back.cls ≠ "java/lang/invoke/VarHandle" ∧ (parseMethodDescriptor yX11_back.desc).map (fun d => d.parameters.length) = some 1 := by decide +kernel
theorem kX11_back_31 : Cond.fieldLink RX11 31 "SnowCourseModel" (TX11 22).2.1 (TX11 22).2.2.1 ∈ wsX11_back := by decide +kernel
theorem iX11_back_X11 : ∀ w ∈ u_ws RX11 TX11 39, w ∈ wsX11_back := by decide +kernel
theorem kX11_back_28 : Cond.fieldLink RX11 28 "SnowCourseModel" (TX11 21).2.1 (TX11 21).2.2.1 ∈ wsX11_back := by decide +kernel
theorem kX11_back_25 : Cond.fieldLink RX11 25 "SnowCourseModel" (TX11 20).2.1 (TX11 20).2.2.1 ∈ wsX11_back := by decide +kernel
theorem kX11_back_82 : Cond.fieldLink RX11 82 "SnowCourseModel" (TX11 24).2.1 (TX11 24).2.2.1 ∈ wsX11_back := by decide +kernel
def vc_X11_back (p1 : Int32) (I : MI) (J : MJ) (Q : Int32 → MI → MJ → Prop) : Prop := vc_X11_in p1 0 1 I J (fun (r3 : Int32) (I1 : MI) (J2 : MJ) => ((¬ r3 = 0 → vp_in p1 2 ∧ ((¬ (I1 95 (Int32.toNatClampNeg p1)) = 0 → vc_X11_copy 94 40 (20 * p1) 93 20 0 I1 J2 (fun (I7 : MI) (J8 : MJ) => ∀ I9 : MI, I9 = wI I7 87 24 0 → Q p1 I9 J8)) ∧ ((I1 95 (Int32.toNatClampNeg p1)) = 0 → Q (-4) I1 J2))) ∧ (r3 = 0 → Q (-2) I1 J2)))
set_option maxRecDepth 100000 in
set_option maxHeartbeats 4000000 in
theorem c_X11_back (l : Launch) (E : ET)  (p1 : Int32) : CI l yX11_back wsX11_back rmX11_back E [.ref (ea E 87), .int p1] (vc_X11_back p1) := by
  refine CI.of (cc := cX11_back) (maxL := 2) (own := RX11) (by decide) rfl rfl (Nat.le_of_ble_eq_true rfl) ?_
  intro Z I J Q hE hl X R h
  subst hE
  subst hl
  show GW Z 2 I J 0 [(0, .ref (ea (zE Z) 87)), (1, .int p1)] []
  refine g_iload_n X dX11_back_0 rfl 1 rfl ?_
  refine g_iconst X (v := 0) dX11_back_1 (by decide) ?_
  refine g_iconst X (v := 1) dX11_back_2 (by decide) ?_
  refine g_callSI X (As := [.int p1, .int 0, .int 1]) (rest := []) (c_X11_in (zl Z) (zE Z) p1 0 1) gX11_back_X11_in yo_X11_in.2 rfl ⟨Nat.le_of_ble_eq_true rfl, Nat.le_of_ble_eq_true rfl⟩ rfl dX11_back_3 h (fun r3 I1 J2 h => ?_)
  refine g_if_ne X (tgt := 12) dX11_back_6 (by decide) (fun c4 => ?_) (fun c4 => ?_)
  · have h := h.1 c4
    refine g_aload_n X dX11_back_12 rfl 0 rfl ?_
    refine g_getr X (C := RX11) (T := TX11) (N := 39) (ci := 9) (k := 22) iX11_back_X11 rfl kX11_back_31 (Nat.le_of_ble_eq_true rfl) rfl (by decide) rfl rfl dX11_back_13 ?_
    refine g_iload_n X dX11_back_16 rfl 1 rfl ?_
    obtain ⟨b5, h⟩ := h
    refine g_zald X (Nat.le_of_ble_eq_true rfl) rfl b5 dX11_back_17 ?_
    refine g_if_ne X (tgt := 24) dX11_back_18 (by decide) (fun c6 => ?_) (fun c6 => ?_)
    · have h := h.1 c6
      refine g_aload_n X dX11_back_24 rfl 0 rfl ?_
      refine g_getr X (C := RX11) (T := TX11) (N := 39) (ci := 9) (k := 21) iX11_back_X11 rfl kX11_back_28 (Nat.le_of_ble_eq_true rfl) rfl (by decide) rfl rfl dX11_back_25 ?_
      refine g_bipush X (v := 20) dX11_back_28 (by decide) ?_
      refine g_iload_n X dX11_back_30 rfl 1 rfl ?_
      refine g_imul X dX11_back_31 ?_
      refine g_aload_n X dX11_back_32 rfl 0 rfl ?_
      refine g_getr X (C := RX11) (T := TX11) (N := 39) (ci := 9) (k := 20) iX11_back_X11 rfl kX11_back_25 (Nat.le_of_ble_eq_true rfl) rfl (by decide) rfl rfl dX11_back_33 ?_
      refine g_iconst X (v := 0) dX11_back_36 (by decide) ?_
      refine g_callSV X (As := [.ref (ea (zE Z) 94), .int (20 * p1), .ref (ea (zE Z) 93), .int 0]) (rest := []) (c_X11_copy (zl Z) (zE Z) (Nat.le_of_ble_eq_true rfl) rfl (Nat.le_of_ble_eq_true rfl) rfl (20 * p1) 0) gX11_back_X11_copy yo_X11_copy.2 rfl ⟨Nat.le_of_ble_eq_true rfl, Nat.le_of_ble_eq_true rfl⟩ rfl dX11_back_37 h (fun  I7 J8 h => ?_)
      refine g_aload_n X dX11_back_40 rfl 0 rfl ?_
      refine g_iconst X (v := 0) dX11_back_41 (by decide) ?_
      refine g_puti X (C := RX11) (T := TX11) (N := 39) (ci := 9) (k := 24) (ty0 := tyX11) iX11_back_X11 tyX11_ok nmX11 rfl kX11_back_82 (Nat.le_of_ble_eq_true rfl) rfl (by decide) rfl rfl (by decide +kernel) rfl dX11_back_42 ?_
      refine g_nmI (fun I9 eI9 => ?_)
      have h := h I9 eI9
      refine g_iload_n X dX11_back_45 rfl 1 rfl ?_
      exact g_iret X R dX11_back_46 h
    · have h := h.2 c6
      refine g_bipush X (v := (-4)) dX11_back_21 (by decide) ?_
      exact g_iret X R dX11_back_23 h
  · have h := h.2 c4
    refine g_bipush X (v := (-2)) dX11_back_9 (by decide) ?_
    exact g_iret X R dX11_back_11 h
