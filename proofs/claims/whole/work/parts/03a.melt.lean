/-! X3_root.root(I)I -/
def rmX3_root : Room := { frames := 0, cells := 0, slots := 0, locals := 0 }
theorem yo_X3_root : yX3_root.cls = RX3 ∧ yX3_root.cls ≠ "java/lang/invoke/MethodHandle" ∧ yX3_root.cls ≠ "java/lang/invoke/VarHandle" ∧ (parseMethodDescriptor yX3_root.desc).map (fun d => d.parameters.length) = some 1 := by decide +kernel
def vc_X3_root_L4s  (Q : Int32 → MI → MJ → Prop)  (k4 : Int32 → Int32 → Int32 → MI → MJ → Prop) (v0 : Int32) (v1 : Int32) (v2 : Int32) (I : MI) (J : MJ) : Prop := ((32 < v2 → Q v1 I J) ∧ (¬ 32 < v2 → ((v0 < (v2 * v2) → Q v1 I J) ∧ (¬ v0 < (v2 * v2) → ∀ x3 : Int32, x3 = v2 + 1 → k4 v0 v2 x3 I J))))
def vc_X3_root_L4  (Q : Int32 → MI → MJ → Prop)  (n : Nat) : Int32 → Int32 → Int32 → MI → MJ → Prop := Nat.rec (fun _ _ _ _ _ => False) (fun _ ih => vc_X3_root_L4s  Q  ih) n
set_option maxRecDepth 100000 in
set_option maxHeartbeats 4000000 in
theorem w_X3_root_L4s {Z : RT}  (X : Cx Z cX3_root 3 RX3 wsX3_root rmX3_root (some .int)) {Q : Int32 → MI → MJ → Prop} (R : RI Z Q)    {k4 : Int32 → Int32 → Int32 → MI → MJ → Prop} (hk4 : ∀ (v0 : Int32) (v1 : Int32) (v2 : Int32) (I : MI) (J : MJ), k4 v0 v1 v2 I J → GW Z 3 I J 4 [(0, .int v0), (1, .int v1), (2, .int v2)] []) (v0 : Int32) (v1 : Int32) (v2 : Int32) (I : MI) (J : MJ) (h : vc_X3_root_L4s  Q  k4 v0 v1 v2 I J) : GW Z 3 I J 4 [(0, .int v0), (1, .int v1), (2, .int v2)] [] := by
  refine g_iload_n X dX3_root_4 rfl 2 rfl ?_
  refine g_bipush X (v := 32) dX3_root_5 (by decide) ?_
  refine g_icmp_gt X (tgt := 25) dX3_root_7 (by decide) (fun c1 => ?_) (fun c1 => ?_)
  · have h := h.1 c1
    refine g_iload_n X dX3_root_25 rfl 1 rfl ?_
    exact g_iret X R dX3_root_26 h
  · have h := h.2 c1
    refine g_iload_n X dX3_root_10 rfl 2 rfl ?_
    refine g_iload_n X dX3_root_11 rfl 2 rfl ?_
    refine g_imul X dX3_root_12 ?_
    refine g_iload_n X dX3_root_13 rfl 0 rfl ?_
    refine g_icmp_gt X (tgt := 25) dX3_root_14 (by decide) (fun c2 => ?_) (fun c2 => ?_)
    · have h := h.1 c2
      refine g_iload_n X dX3_root_25 rfl 1 rfl ?_
      exact g_iret X R dX3_root_26 h
    · have h := h.2 c2
      refine g_iload_n X dX3_root_17 rfl 2 rfl ?_
      refine g_istore_n X (lv' := [(1, .int v2), (0, .int v0), (2, .int v2)]) dX3_root_18 rfl (by decide) rfl ?_
      obtain ⟨x3, ex3⟩ : ∃ y : Int32, y = v2 + 1 := ⟨_, rfl⟩
      have h := h x3 ex3
      refine g_iinc X (q := 2) (v := x3) (lv' := [(2, .int x3), (1, .int v2), (0, .int v0)]) dX3_root_19 rfl (by rw [ex3]; rfl) (by decide) rfl ?_
      refine g_goto X (tgt := 4) dX3_root_22 (by decide) ?_
      refine GW.sub (lv' := [(0, .int v0), (1, .int v2), (2, .int x3)]) [2, 1, 0] rfl ?_
      exact hk4 v0 v2 x3 I J h
theorem w_X3_root_L4 {Z : RT}  (X : Cx Z cX3_root 3 RX3 wsX3_root rmX3_root (some .int)) {Q : Int32 → MI → MJ → Prop} (R : RI Z Q)    : ∀ (n : Nat) (v0 : Int32) (v1 : Int32) (v2 : Int32) (I : MI) (J : MJ) (h : vc_X3_root_L4  Q  n v0 v1 v2 I J), GW Z 3 I J 4 [(0, .int v0), (1, .int v1), (2, .int v2)] [] := by
  intro n
  induction n with
  | zero => intro v0 v1 v2 I J h; exact h.elim
  | succ n ih => intro v0 v1 v2 I J h; exact w_X3_root_L4s X R   ih v0 v1 v2 I J h
def vc_X3_root (p0 : Int32) (I : MI) (J : MJ) (Q : Int32 → MI → MJ → Prop) : Prop := (∃ n, vc_X3_root_L4  Q  n p0 0 1 I J)
set_option maxRecDepth 100000 in
set_option maxHeartbeats 4000000 in
theorem c_X3_root (l : Launch) (E : ET)  (p0 : Int32) : CI l yX3_root wsX3_root rmX3_root E [.int p0] (vc_X3_root p0) := by
  refine CI.of (cc := cX3_root) (maxL := 3) (own := RX3) (by decide) rfl rfl (Nat.le_of_ble_eq_true rfl) ?_
  intro Z I J Q hE hl X R h
  subst hE
  subst hl
  show GW Z 3 I J 0 [(0, .int p0)] []
  refine g_iconst X (v := 0) dX3_root_0 (by decide) ?_
  refine g_istore_n X (lv' := [(1, .int 0), (0, .int p0)]) dX3_root_1 rfl (by decide) rfl ?_
  refine g_iconst X (v := 1) dX3_root_2 (by decide) ?_
  refine g_istore_n X (lv' := [(2, .int 1), (1, .int 0), (0, .int p0)]) dX3_root_3 rfl (by decide) rfl ?_
  refine GW.sub (lv' := [(0, .int p0), (1, .int 0), (2, .int 1)]) [2, 1, 0] rfl ?_
  obtain ⟨n, h⟩ := h
  exact w_X3_root_L4 X R   n p0 0 1 I J h

/-! X3_opened.opened(I)I -/
def rmX3_opened : Room := { frames := 1, cells := 0, slots := 0, locals := 22 }
theorem yo_X3_opened : yX3_opened.cls = RX3 ∧ yX3_opened.cls ≠ "java/lang/invoke/MethodHandle" ∧ yX3_opened.cls ≠ "java/lang/invoke/VarHandle" ∧ (parseMethodDescriptor yX3_opened.desc).map (fun d => d.parameters.length) = some 1 := by decide +kernel
def vc_X3_opened (p0 : Int32) (I : MI) (J : MJ) (Q : Int32 → MI → MJ → Prop) : Prop := vc_X3_root p0 I J (fun (r3 : Int32) (I1 : MI) (J2 : MJ) => Q (p0 - r3) I1 J2)
set_option maxRecDepth 100000 in
set_option maxHeartbeats 4000000 in
theorem c_X3_opened (l : Launch) (E : ET)  (p0 : Int32) : CI l yX3_opened wsX3_opened rmX3_opened E [.int p0] (vc_X3_opened p0) := by
  refine CI.of (cc := cX3_opened) (maxL := 1) (own := RX3) (by decide) rfl rfl (Nat.le_of_ble_eq_true rfl) ?_
  intro Z I J Q hE hl X R h
  subst hE
  subst hl
  show GW Z 1 I J 0 [(0, .int p0)] []
  refine g_iload_n X dX3_opened_0 rfl 0 rfl ?_
  refine g_iload_n X dX3_opened_1 rfl 0 rfl ?_
  refine g_callSI X (As := [.int p0]) (rest := [.int p0]) (c_X3_root (zl Z) (zE Z) p0) gX3_opened_X3_root yo_X3_root.2 rfl ⟨Nat.le_of_ble_eq_true rfl, Nat.le_of_ble_eq_true rfl⟩ rfl dX3_opened_2 h (fun r3 I1 J2 h => ?_)
  refine g_isub X dX3_opened_5 ?_
  exact g_iret X R dX3_opened_6 h

/-! X3_heat.heat(JIIII)I -/
def rmX3_heat : Room := { frames := 1, cells := 0, slots := 0, locals := 24 }
theorem yo_X3_heat : yX3_heat.cls = RX3 ∧ yX3_heat.cls ≠ "java/lang/invoke/MethodHandle" ∧ yX3_heat.cls ≠ "java/lang/invoke/VarHandle" ∧ (parseMethodDescriptor yX3_heat.desc).map (fun d => d.parameters.length) = some 5 := by decide +kernel
theorem kX3_heat_m13 : Cond.methodLink RX3 13 Lib.Math.max.name ∈ wsX3_heat := by decide +kernel
theorem kX3_heat_msmax : Cond.static Lib.Math.max.name ∈ wsX3_heat := by decide +kernel
theorem kX3_heat_mi : Cond.initialized "java/lang/Math" ∈ wsX3_heat := by decide +kernel
theorem kX3_heat_mcmax : Cond.code Lib.Math.max.name Lib.Math.max.code 2 (some .int) ∈ wsX3_heat := by decide +kernel
def vc_X3_heat_B31  (Q : Int32 → MI → MJ → Prop)  (v2 : Int32) (v6 : Int32) (I : MI) (J : MJ) : Prop := ∀ x1 : Int32, x1 = v2 - v2 / 24 * 24 → ((x1 < 10 → Q v6 I J) ∧ (¬ x1 < 10 → ((15 < x1 → Q v6 I J) ∧ (¬ 15 < x1 → Q (2 * v6) I J))))
set_option maxRecDepth 100000 in
set_option maxHeartbeats 4000000 in
theorem w_X3_heat_B31 {Z : RT}  (X : Cx Z cX3_heat 8 RX3 wsX3_heat rmX3_heat (some .int)) {Q : Int32 → MI → MJ → Prop} (R : RI Z Q)    (v2 : Int32) (v6 : Int32) (I : MI) (J : MJ) (h : vc_X3_heat_B31  Q  v2 v6 I J) : GW Z 8 I J 31 [(2, .int v2), (6, .int v6)] [] := by
  refine g_iload_n X dX3_heat_31 rfl 0 rfl ?_
  refine g_bipush X (v := 24) dX3_heat_32 (by decide) ?_
  refine g_irem X dX3_heat_34 (by decide) ?_
  refine g_topi (fun x1 ex1 => ?_)
  have h := h x1 ex1
  refine g_istore X (lv' := [(7, .int x1), (2, .int v2), (6, .int v6)]) dX3_heat_35 (by decide) rfl ?_
  refine g_iload X dX3_heat_37 0 rfl ?_
  refine g_bipush X (v := 10) dX3_heat_39 (by decide) ?_
  refine g_icmp_lt X (tgt := 58) dX3_heat_41 (by decide) (fun c2 => ?_) (fun c2 => ?_)
  · have h := h.1 c2
    refine g_iload X dX3_heat_58 2 rfl ?_
    exact g_iret X R dX3_heat_60 h
  · have h := h.2 c2
    refine g_iload X dX3_heat_44 0 rfl ?_
    refine g_bipush X (v := 15) dX3_heat_46 (by decide) ?_
    refine g_icmp_gt X (tgt := 58) dX3_heat_48 (by decide) (fun c3 => ?_) (fun c3 => ?_)
    · have h := h.1 c3
      refine g_iload X dX3_heat_58 2 rfl ?_
      exact g_iret X R dX3_heat_60 h
    · have h := h.2 c3
      refine g_iconst X (v := 2) dX3_heat_51 (by decide) ?_
      refine g_iload X dX3_heat_52 2 rfl ?_
      refine g_imul X dX3_heat_54 ?_
      refine g_goto X (tgt := 60) dX3_heat_55 (by decide) ?_
      exact g_iret X R dX3_heat_60 h
def vc_X3_heat (p0 : Int64) (p2 : Int32) (p3 : Int32) (p4 : Int32) (p5 : Int32) (I : MI) (J : MJ) (Q : Int32 → MI → MJ → Prop) : Prop := vc_X3_root p3 I J (fun (r6 : Int32) (I4 : MI) (J5 : MJ) => ∀ x7 : Int32, x7 = (if 0 < (((r6 + 1) - p4) - p5) then (((r6 + 1) - p4) - p5) else 0) → (((lg_cmp ((p0 >>> (Int32.toInt64 p2 &&& 63)) &&& 1) 0) = 0 → vc_X3_heat_B31  Q  p2 x7 I4 J5) ∧ (¬ (lg_cmp ((p0 >>> (Int32.toInt64 p2 &&& 63)) &&& 1) 0) = 0 → ∀ x9 : Int32, x9 = x7 + 2 → vc_X3_heat_B31  Q  p2 x9 I4 J5)))
set_option maxRecDepth 100000 in
set_option maxHeartbeats 4000000 in
theorem c_X3_heat (l : Launch) (E : ET)  (p0 : Int64) (p2 : Int32) (p3 : Int32) (p4 : Int32) (p5 : Int32) : CI l yX3_heat wsX3_heat rmX3_heat E [.long p0, .int p2, .int p3, .int p4, .int p5] (vc_X3_heat p0 p2 p3 p4 p5) := by
  refine CI.of (cc := cX3_heat) (maxL := 8) (own := RX3) (by decide) rfl rfl (Nat.le_of_ble_eq_true rfl) ?_
  intro Z I J Q hE hl X R h
  subst hE
  subst hl
  show GW Z 8 I J 0 [(0, .long p0), (2, .int p2), (3, .int p3), (4, .int p4), (5, .int p5)] []
  refine g_iconst X (v := 0) dX3_heat_0 (by decide) ?_
  refine g_iload_n X dX3_heat_1 rfl 2 rfl ?_
  refine g_callSI X (As := [.int p3]) (rest := [.int 0]) (c_X3_root (zl Z) (zE Z) p3) gX3_heat_X3_root yo_X3_root.2 rfl ⟨Nat.le_of_ble_eq_true rfl, Nat.le_of_ble_eq_true rfl⟩ rfl dX3_heat_2 h (fun r6 I4 J5 h => ?_)
  refine g_iconst X (v := 1) dX3_heat_5 (by decide) ?_
  refine g_iadd X dX3_heat_6 ?_
  refine g_iload X dX3_heat_7 3 rfl ?_
  refine g_isub X dX3_heat_9 ?_
  refine g_iload X dX3_heat_10 4 rfl ?_
  refine g_isub X dX3_heat_12 ?_
  refine g_mmax X kX3_heat_m13 kX3_heat_msmax kX3_heat_mi kX3_heat_mcmax ⟨Nat.le_of_ble_eq_true rfl, Nat.le_of_ble_eq_true rfl⟩ dX3_heat_13 ?_
  refine g_topi (fun x7 ex7 => ?_)
  have h := h x7 ex7
  refine g_istore X (lv' := [(6, .int x7), (0, .long p0), (2, .int p2), (3, .int p3), (4, .int p4), (5, .int p5)]) dX3_heat_16 (by decide) rfl ?_
  refine g_lload_n X dX3_heat_18 rfl 1 rfl ?_
  refine g_iload_n X dX3_heat_19 rfl 2 rfl ?_
  refine g_lshr X dX3_heat_20 ?_
  refine g_lconst X (v := 1) dX3_heat_21 (by decide) ?_
  refine g_land X dX3_heat_22 ?_
  refine g_lconst X (v := 0) dX3_heat_23 (by decide) ?_
  refine g_lcmp X dX3_heat_24 ?_
  refine g_if_eq X (tgt := 31) dX3_heat_25 (by decide) (fun c8 => ?_) (fun c8 => ?_)
  · have h := h.1 c8
    refine GW.sub (lv' := [(2, .int p2), (6, .int x7)]) [2, 0] rfl ?_
    exact w_X3_heat_B31 X R   p2 x7 I4 J5 h
  · have h := h.2 c8
    obtain ⟨x9, ex9⟩ : ∃ y : Int32, y = x7 + 2 := ⟨_, rfl⟩
    have h := h x9 ex9
    refine g_iinc X (q := 0) (v := x9) (lv' := [(6, .int x9), (0, .long p0), (2, .int p2), (3, .int p3), (4, .int p4), (5, .int p5)]) dX3_heat_28 rfl (by rw [ex9]; rfl) (by decide) rfl ?_
    refine GW.sub (lv' := [(2, .int p2), (6, .int x9)]) [2, 0] rfl ?_
    exact w_X3_heat_B31 X R   p2 x9 I4 J5 h

/-! X3_less.less(II)I -/
def rmX3_less : Room := { frames := 1, cells := 0, slots := 0, locals := 24 }
theorem yo_X3_less : yX3_less.cls = RX3 ∧ yX3_less.cls ≠ "java/lang/invoke/MethodHandle" ∧ yX3_less.cls ≠ "java/lang/invoke/VarHandle" ∧ (parseMethodDescriptor yX3_less.desc).map (fun d => d.parameters.length) = some 2 := by decide +kernel
theorem kX3_less_m19 : Cond.methodLink RX3 19 Lib.Math.min.name ∈ wsX3_less := by decide +kernel
theorem kX3_less_msmin : Cond.static Lib.Math.min.name ∈ wsX3_less := by decide +kernel
theorem kX3_less_mi : Cond.initialized "java/lang/Math" ∈ wsX3_less := by decide +kernel
theorem kX3_less_mcmin : Cond.code Lib.Math.min.name Lib.Math.min.code 2 (some .int) ∈ wsX3_less := by decide +kernel
def vc_X3_less (p0 : Int32) (p1 : Int32) (I : MI) (J : MJ) (Q : Int32 → MI → MJ → Prop) : Prop := Q (p0 - (if p1 < p0 then p1 else p0)) I J
set_option maxRecDepth 100000 in
set_option maxHeartbeats 4000000 in
theorem c_X3_less (l : Launch) (E : ET)  (p0 : Int32) (p1 : Int32) : CI l yX3_less wsX3_less rmX3_less E [.int p0, .int p1] (vc_X3_less p0 p1) := by
  refine CI.of (cc := cX3_less) (maxL := 2) (own := RX3) (by decide) rfl rfl (Nat.le_of_ble_eq_true rfl) ?_
  intro Z I J Q hE hl X R h
  subst hE
  subst hl
  show GW Z 2 I J 0 [(0, .int p0), (1, .int p1)] []
  refine g_iload_n X dX3_less_0 rfl 0 rfl ?_
  refine g_iload_n X dX3_less_1 rfl 0 rfl ?_
  refine g_iload_n X dX3_less_2 rfl 1 rfl ?_
  refine g_mmin X kX3_less_m19 kX3_less_msmin kX3_less_mi kX3_less_mcmin ⟨Nat.le_of_ble_eq_true rfl, Nat.le_of_ble_eq_true rfl⟩ dX3_less_3 ?_
  refine g_isub X dX3_less_6 ?_
  exact g_iret X R dX3_less_7 h

/-! X3_afterOpen.afterOpen(JIII)I -/
def rmX3_afterOpen : Room := { frames := 2, cells := 0, slots := 0, locals := 51 }
theorem yo_X3_afterOpen : yX3_afterOpen.cls = RX3 ∧ yX3_afterOpen.cls ≠ "java/lang/invoke/MethodHandle" ∧ yX3_afterOpen.cls ≠ "java/lang/invoke/VarHandle" ∧ (parseMethodDescriptor yX3_afterOpen.desc).map (fun d => d.parameters.length) = some 4 := by decide +kernel
def vc_X3_afterOpen_L7s  (Q : Int32 → MI → MJ → Prop)  (k7 : Int64 → Int32 → Int32 → Int32 → Int32 → MI → MJ → Prop) (v0 : Int64) (v2 : Int32) (v3 : Int32) (v5 : Int32) (v6 : Int32) (I : MI) (J : MJ) : Prop := ((v3 ≤ v6 → Q v5 I J) ∧ (¬ v3 ≤ v6 → vc_X3_heat v0 (v2 + v6) v5 0 0 I J (fun (r4 : Int32) (I2 : MI) (J3 : MJ) => vc_X3_less v5 r4 I2 J3 (fun (r7 : Int32) (I5 : MI) (J6 : MJ) => ∀ x8 : Int32, x8 = v6 + 1 → k7 v0 v2 v3 r7 x8 I5 J6))))
def vc_X3_afterOpen_L7  (Q : Int32 → MI → MJ → Prop)  (n : Nat) : Int64 → Int32 → Int32 → Int32 → Int32 → MI → MJ → Prop := Nat.rec (fun _ _ _ _ _ _ _ => False) (fun _ ih => vc_X3_afterOpen_L7s  Q  ih) n
set_option maxRecDepth 100000 in
set_option maxHeartbeats 4000000 in
theorem w_X3_afterOpen_L7s {Z : RT}  (X : Cx Z cX3_afterOpen 7 RX3 wsX3_afterOpen rmX3_afterOpen (some .int)) {Q : Int32 → MI → MJ → Prop} (R : RI Z Q)    {k7 : Int64 → Int32 → Int32 → Int32 → Int32 → MI → MJ → Prop} (hk7 : ∀ (v0 : Int64) (v2 : Int32) (v3 : Int32) (v5 : Int32) (v6 : Int32) (I : MI) (J : MJ), k7 v0 v2 v3 v5 v6 I J → GW Z 7 I J 7 [(0, .long v0), (2, .int v2), (3, .int v3), (5, .int v5), (6, .int v6)] []) (v0 : Int64) (v2 : Int32) (v3 : Int32) (v5 : Int32) (v6 : Int32) (I : MI) (J : MJ) (h : vc_X3_afterOpen_L7s  Q  k7 v0 v2 v3 v5 v6 I J) : GW Z 7 I J 7 [(0, .long v0), (2, .int v2), (3, .int v3), (5, .int v5), (6, .int v6)] [] := by
  refine g_iload X dX3_afterOpen_7 4 rfl ?_
  refine g_iload_n X dX3_afterOpen_9 rfl 2 rfl ?_
  refine g_icmp_ge X (tgt := 38) dX3_afterOpen_10 (by decide) (fun c1 => ?_) (fun c1 => ?_)
  · have h := h.1 c1
    refine g_iload X dX3_afterOpen_38 3 rfl ?_
    exact g_iret X R dX3_afterOpen_40 h
  · have h := h.2 c1
    refine g_iload X dX3_afterOpen_13 3 rfl ?_
    refine g_lload_n X dX3_afterOpen_15 rfl 0 rfl ?_
    refine g_iload_n X dX3_afterOpen_16 rfl 1 rfl ?_
    refine g_iload X dX3_afterOpen_17 4 rfl ?_
    refine g_iadd X dX3_afterOpen_19 ?_
    refine g_iload X dX3_afterOpen_20 3 rfl ?_
    refine g_iconst X (v := 0) dX3_afterOpen_22 (by decide) ?_
    refine g_iconst X (v := 0) dX3_afterOpen_23 (by decide) ?_
    refine g_callSI X (As := [.long v0, .int (v2 + v6), .int v5, .int 0, .int 0]) (rest := [.int v5]) (c_X3_heat (zl Z) (zE Z) v0 (v2 + v6) v5 0 0) gX3_afterOpen_X3_heat yo_X3_heat.2 rfl ⟨Nat.le_of_ble_eq_true rfl, Nat.le_of_ble_eq_true rfl⟩ rfl dX3_afterOpen_24 h (fun r4 I2 J3 h => ?_)
    refine g_callSI X (As := [.int v5, .int r4]) (rest := []) (c_X3_less (zl Z) (zE Z) v5 r4) gX3_afterOpen_X3_less yo_X3_less.2 rfl ⟨Nat.le_of_ble_eq_true rfl, Nat.le_of_ble_eq_true rfl⟩ rfl dX3_afterOpen_27 h (fun r7 I5 J6 h => ?_)
    refine g_istore X (lv' := [(5, .int r7), (0, .long v0), (2, .int v2), (3, .int v3), (6, .int v6)]) dX3_afterOpen_30 (by decide) rfl ?_
    obtain ⟨x8, ex8⟩ : ∃ y : Int32, y = v6 + 1 := ⟨_, rfl⟩
    have h := h x8 ex8
    refine g_iinc X (q := 4) (v := x8) (lv' := [(6, .int x8), (5, .int r7), (0, .long v0), (2, .int v2), (3, .int v3)]) dX3_afterOpen_32 rfl (by rw [ex8]; rfl) (by decide) rfl ?_
    refine g_goto X (tgt := 7) dX3_afterOpen_35 (by decide) ?_
    refine GW.sub (lv' := [(0, .long v0), (2, .int v2), (3, .int v3), (5, .int r7), (6, .int x8)]) [2, 3, 4, 1, 0] rfl ?_
    exact hk7 v0 v2 v3 r7 x8 I5 J6 h
theorem w_X3_afterOpen_L7 {Z : RT}  (X : Cx Z cX3_afterOpen 7 RX3 wsX3_afterOpen rmX3_afterOpen (some .int)) {Q : Int32 → MI → MJ → Prop} (R : RI Z Q)    : ∀ (n : Nat) (v0 : Int64) (v2 : Int32) (v3 : Int32) (v5 : Int32) (v6 : Int32) (I : MI) (J : MJ) (h : vc_X3_afterOpen_L7  Q  n v0 v2 v3 v5 v6 I J), GW Z 7 I J 7 [(0, .long v0), (2, .int v2), (3, .int v3), (5, .int v5), (6, .int v6)] [] := by
  intro n
  induction n with
  | zero => intro v0 v2 v3 v5 v6 I J h; exact h.elim
  | succ n ih => intro v0 v2 v3 v5 v6 I J h; exact w_X3_afterOpen_L7s X R   ih v0 v2 v3 v5 v6 I J h
def vc_X3_afterOpen (p0 : Int64) (p2 : Int32) (p3 : Int32) (p4 : Int32) (I : MI) (J : MJ) (Q : Int32 → MI → MJ → Prop) : Prop := (∃ n, vc_X3_afterOpen_L7  Q  n p0 p2 p3 p4 0 I J)
set_option maxRecDepth 100000 in
set_option maxHeartbeats 4000000 in
theorem c_X3_afterOpen (l : Launch) (E : ET)  (p0 : Int64) (p2 : Int32) (p3 : Int32) (p4 : Int32) : CI l yX3_afterOpen wsX3_afterOpen rmX3_afterOpen E [.long p0, .int p2, .int p3, .int p4] (vc_X3_afterOpen p0 p2 p3 p4) := by
  refine CI.of (cc := cX3_afterOpen) (maxL := 7) (own := RX3) (by decide) rfl rfl (Nat.le_of_ble_eq_true rfl) ?_
  intro Z I J Q hE hl X R h
  subst hE
  subst hl
  show GW Z 7 I J 0 [(0, .long p0), (2, .int p2), (3, .int p3), (4, .int p4)] []
  refine g_iload X dX3_afterOpen_0 3 rfl ?_
  refine g_istore X (lv' := [(5, .int p4), (0, .long p0), (2, .int p2), (3, .int p3), (4, .int p4)]) dX3_afterOpen_2 (by decide) rfl ?_
  refine g_iconst X (v := 0) dX3_afterOpen_4 (by decide) ?_
  refine g_istore X (lv' := [(6, .int 0), (5, .int p4), (0, .long p0), (2, .int p2), (3, .int p3), (4, .int p4)]) dX3_afterOpen_5 (by decide) rfl ?_
  refine GW.sub (lv' := [(0, .long p0), (2, .int p2), (3, .int p3), (5, .int p4), (6, .int 0)]) [2, 3, 4, 1, 0] rfl ?_
  obtain ⟨n, h⟩ := h
  exact w_X3_afterOpen_L7 X R   n p0 p2 p3 p4 0 I J h

/-! X3_warmByDraw.warmByDraw(II)J -/
def rmX3_warmByDraw : Room := { frames := 0, cells := 0, slots := 0, locals := 0 }
theorem yo_X3_warmByDraw : yX3_warmByDraw.cls = RX3 ∧ yX3_warmByDraw.cls ≠ "java/lang/invoke/MethodHandle" ∧ yX3_warmByDraw.cls ≠ "java/lang/invoke/VarHandle" ∧ (parseMethodDescriptor yX3_warmByDraw.desc).map (fun d => d.parameters.length) = some 2 := by decide +kernel
theorem kX3_warmByDraw_c31 : Cond.constantLong RX3 31 (7919) ∈ wsX3_warmByDraw := by decide +kernel
theorem kX3_warmByDraw_c33 : Cond.constantLong RX3 33 (6151) ∈ wsX3_warmByDraw := by decide +kernel
theorem kX3_warmByDraw_c35 : Cond.constantLong RX3 35 (65521) ∈ wsX3_warmByDraw := by decide +kernel
theorem kX3_warmByDraw_c37 : Cond.constantLong RX3 37 (4) ∈ wsX3_warmByDraw := by decide +kernel
def vc_X3_warmByDraw_L5s  (Q : Int64 → MI → MJ → Prop)  (k5 : Int32 → Int32 → Int64 → Int32 → MI → MJ → Prop) (v0 : Int32) (v1 : Int32) (v2 : Int64) (v4 : Int32) (I : MI) (J : MJ) : Prop := ((v1 ≤ v4 → Q v2 I J) ∧ (¬ v1 ≤ v4 → ∀ x2 : Int64, x2 = ((7919 * (Int32.toInt64 v0)) + (6151 * (Int32.toInt64 v4))) + 1 → ∀ x3 : Int64, x3 = (x2 * x2) - (x2 * x2) / 65521 * 65521 → ((¬ (lg_cmp (x3 - x3 / 4 * 4) 0) = 0 → ∀ x5 : Int32, x5 = v4 + 1 → k5 v0 v1 v2 x5 I J) ∧ ((lg_cmp (x3 - x3 / 4 * 4) 0) = 0 → ∀ x6 : Int64, x6 = v2 ||| (1 <<< (Int32.toInt64 v4 &&& 63)) → ∀ x7 : Int32, x7 = v4 + 1 → k5 v0 v1 x6 x7 I J))))
def vc_X3_warmByDraw_L5  (Q : Int64 → MI → MJ → Prop)  (n : Nat) : Int32 → Int32 → Int64 → Int32 → MI → MJ → Prop := Nat.rec (fun _ _ _ _ _ _ => False) (fun _ ih => vc_X3_warmByDraw_L5s  Q  ih) n
set_option maxRecDepth 100000 in
set_option maxHeartbeats 4000000 in
theorem w_X3_warmByDraw_L5s {Z : RT}  (X : Cx Z cX3_warmByDraw 9 RX3 wsX3_warmByDraw rmX3_warmByDraw (some .long)) {Q : Int64 → MI → MJ → Prop} (R : RL_ Z Q)    {k5 : Int32 → Int32 → Int64 → Int32 → MI → MJ → Prop} (hk5 : ∀ (v0 : Int32) (v1 : Int32) (v2 : Int64) (v4 : Int32) (I : MI) (J : MJ), k5 v0 v1 v2 v4 I J → GW Z 9 I J 5 [(0, .int v0), (1, .int v1), (2, .long v2), (4, .int v4)] []) (v0 : Int32) (v1 : Int32) (v2 : Int64) (v4 : Int32) (I : MI) (J : MJ) (h : vc_X3_warmByDraw_L5s  Q  k5 v0 v1 v2 v4 I J) : GW Z 9 I J 5 [(0, .int v0), (1, .int v1), (2, .long v2), (4, .int v4)] [] := by
  refine g_iload X dX3_warmByDraw_5 3 rfl ?_
  refine g_iload_n X dX3_warmByDraw_7 rfl 1 rfl ?_
  refine g_icmp_ge X (tgt := 64) dX3_warmByDraw_8 (by decide) (fun c1 => ?_) (fun c1 => ?_)
  · have h := h.1 c1
    refine g_lload_n X dX3_warmByDraw_64 rfl 2 rfl ?_
    exact g_lret X R dX3_warmByDraw_65 h
  · have h := h.2 c1
    refine g_ldc2 X dX3_warmByDraw_11 kX3_warmByDraw_c31 ?_
    refine g_iload_n X dX3_warmByDraw_14 rfl 0 rfl ?_
    refine g_i2l X dX3_warmByDraw_15 ?_
    refine g_lmul X dX3_warmByDraw_16 ?_
    refine g_ldc2 X dX3_warmByDraw_17 kX3_warmByDraw_c33 ?_
    refine g_iload X dX3_warmByDraw_20 3 rfl ?_
    refine g_i2l X dX3_warmByDraw_22 ?_
    refine g_lmul X dX3_warmByDraw_23 ?_
    refine g_ladd X dX3_warmByDraw_24 ?_
    refine g_lconst X (v := 1) dX3_warmByDraw_25 (by decide) ?_
    refine g_ladd X dX3_warmByDraw_26 ?_
    refine g_topl (fun x2 ex2 => ?_)
    have h := h x2 ex2
    refine g_lstore X (lv' := [(5, .long x2), (0, .int v0), (1, .int v1), (2, .long v2), (4, .int v4)]) dX3_warmByDraw_27 (by decide) rfl ?_
    refine g_lload X dX3_warmByDraw_29 0 rfl ?_
    refine g_lload X dX3_warmByDraw_31 0 rfl ?_
    refine g_lmul X dX3_warmByDraw_33 ?_
    refine g_ldc2 X dX3_warmByDraw_34 kX3_warmByDraw_c35 ?_
    refine g_lrem X dX3_warmByDraw_37 (by decide) ?_
    refine g_topl (fun x3 ex3 => ?_)
    have h := h x3 ex3
    refine g_lstore X (lv' := [(7, .long x3), (5, .long x2), (0, .int v0), (1, .int v1), (2, .long v2), (4, .int v4)]) dX3_warmByDraw_38 (by decide) rfl ?_
    refine g_lload X dX3_warmByDraw_40 0 rfl ?_
    refine g_ldc2 X dX3_warmByDraw_42 kX3_warmByDraw_c37 ?_
    refine g_lrem X dX3_warmByDraw_45 (by decide) ?_
    refine g_lconst X (v := 0) dX3_warmByDraw_46 (by decide) ?_
    refine g_lcmp X dX3_warmByDraw_47 ?_
    refine g_if_ne X (tgt := 58) dX3_warmByDraw_48 (by decide) (fun c4 => ?_) (fun c4 => ?_)
    · have h := h.1 c4
      obtain ⟨x5, ex5⟩ : ∃ y : Int32, y = v4 + 1 := ⟨_, rfl⟩
      have h := h x5 ex5
      refine g_iinc X (q := 5) (v := x5) (lv' := [(4, .int x5), (7, .long x3), (5, .long x2), (0, .int v0), (1, .int v1), (2, .long v2)]) dX3_warmByDraw_58 rfl (by rw [ex5]; rfl) (by decide) rfl ?_
      refine g_goto X (tgt := 5) dX3_warmByDraw_61 (by decide) ?_
      refine GW.sub (lv' := [(0, .int v0), (1, .int v1), (2, .long v2), (4, .int x5)]) [3, 4, 5, 0] rfl ?_
      exact hk5 v0 v1 v2 x5 I J h
    · have h := h.2 c4
      refine g_lload_n X dX3_warmByDraw_51 rfl 4 rfl ?_
      refine g_lconst X (v := 1) dX3_warmByDraw_52 (by decide) ?_
      refine g_iload X dX3_warmByDraw_53 5 rfl ?_
      refine g_lshl X dX3_warmByDraw_55 ?_
      refine g_lor X dX3_warmByDraw_56 ?_
      refine g_topl (fun x6 ex6 => ?_)
      have h := h x6 ex6
      refine g_lstore_n X (lv' := [(2, .long x6), (7, .long x3), (5, .long x2), (0, .int v0), (1, .int v1), (4, .int v4)]) dX3_warmByDraw_57 rfl (by decide) rfl ?_
      obtain ⟨x7, ex7⟩ : ∃ y : Int32, y = v4 + 1 := ⟨_, rfl⟩
      have h := h x7 ex7
      refine g_iinc X (q := 5) (v := x7) (lv' := [(4, .int x7), (2, .long x6), (7, .long x3), (5, .long x2), (0, .int v0), (1, .int v1)]) dX3_warmByDraw_58 rfl (by rw [ex7]; rfl) (by decide) rfl ?_
      refine g_goto X (tgt := 5) dX3_warmByDraw_61 (by decide) ?_
      refine GW.sub (lv' := [(0, .int v0), (1, .int v1), (2, .long x6), (4, .int x7)]) [4, 5, 1, 0] rfl ?_
      exact hk5 v0 v1 x6 x7 I J h
theorem w_X3_warmByDraw_L5 {Z : RT}  (X : Cx Z cX3_warmByDraw 9 RX3 wsX3_warmByDraw rmX3_warmByDraw (some .long)) {Q : Int64 → MI → MJ → Prop} (R : RL_ Z Q)    : ∀ (n : Nat) (v0 : Int32) (v1 : Int32) (v2 : Int64) (v4 : Int32) (I : MI) (J : MJ) (h : vc_X3_warmByDraw_L5  Q  n v0 v1 v2 v4 I J), GW Z 9 I J 5 [(0, .int v0), (1, .int v1), (2, .long v2), (4, .int v4)] [] := by
  intro n
  induction n with
  | zero => intro v0 v1 v2 v4 I J h; exact h.elim
  | succ n ih => intro v0 v1 v2 v4 I J h; exact w_X3_warmByDraw_L5s X R   ih v0 v1 v2 v4 I J h
def vc_X3_warmByDraw (p0 : Int32) (p1 : Int32) (I : MI) (J : MJ) (Q : Int64 → MI → MJ → Prop) : Prop := (∃ n, vc_X3_warmByDraw_L5  Q  n p0 p1 0 0 I J)
set_option maxRecDepth 100000 in
set_option maxHeartbeats 4000000 in
theorem c_X3_warmByDraw (l : Launch) (E : ET)  (p0 : Int32) (p1 : Int32) : CL l yX3_warmByDraw wsX3_warmByDraw rmX3_warmByDraw E [.int p0, .int p1] (vc_X3_warmByDraw p0 p1) := by
  refine CL.of (cc := cX3_warmByDraw) (maxL := 9) (own := RX3) (by decide) rfl rfl (Nat.le_of_ble_eq_true rfl) ?_
  intro Z I J Q hE hl X R h
  subst hE
  subst hl
  show GW Z 9 I J 0 [(0, .int p0), (1, .int p1)] []
  refine g_lconst X (v := 0) dX3_warmByDraw_0 (by decide) ?_
  refine g_lstore_n X (lv' := [(2, .long 0), (0, .int p0), (1, .int p1)]) dX3_warmByDraw_1 rfl (by decide) rfl ?_
  refine g_iconst X (v := 0) dX3_warmByDraw_2 (by decide) ?_
  refine g_istore X (lv' := [(4, .int 0), (2, .long 0), (0, .int p0), (1, .int p1)]) dX3_warmByDraw_3 (by decide) rfl ?_
  refine GW.sub (lv' := [(0, .int p0), (1, .int p1), (2, .long 0), (4, .int 0)]) [2, 3, 1, 0] rfl ?_
  obtain ⟨n, h⟩ := h
  exact w_X3_warmByDraw_L5 X R   n p0 p1 0 0 I J h

/-! X2_priceIn.priceIn(I)I -/
def rmX2_priceIn : Room := { frames := 0, cells := 0, slots := 0, locals := 0 }
theorem yo_X2_priceIn : yX2_priceIn.cls = RX2 ∧ yX2_priceIn.cls ≠ "java/lang/invoke/MethodHandle" ∧ yX2_priceIn.cls ≠ "java/lang/invoke/VarHandle" ∧ (parseMethodDescriptor yX2_priceIn.desc).map (fun d => d.parameters.length) = some 1 := by decide +kernel
def vc_X2_priceIn (p0 : Int32) (I : MI) (J : MJ) (Q : Int32 → MI → MJ → Prop) : Prop := ((((p0 - p0 / 24 * 24) / 6) = 0 → Q 4 I J) ∧ (¬ ((p0 - p0 / 24 * 24) / 6) = 0 → ((((p0 - p0 / 24 * 24) / 6) = 1 → Q 3 I J) ∧ (¬ ((p0 - p0 / 24 * 24) / 6) = 1 → ((((p0 - p0 / 24 * 24) / 6) = 2 → Q 5 I J) ∧ (¬ ((p0 - p0 / 24 * 24) / 6) = 2 → Q 2 I J))))))
set_option maxRecDepth 100000 in
set_option maxHeartbeats 4000000 in
theorem c_X2_priceIn (l : Launch) (E : ET)  (p0 : Int32) : CI l yX2_priceIn wsX2_priceIn rmX2_priceIn E [.int p0] (vc_X2_priceIn p0) := by
  refine CI.of (cc := cX2_priceIn) (maxL := 1) (own := RX2) (by decide) rfl rfl (Nat.le_of_ble_eq_true rfl) ?_
  intro Z I J Q hE hl X R h
  subst hE
  subst hl
  show GW Z 1 I J 0 [(0, .int p0)] []
  refine g_iload_n X dX2_priceIn_0 rfl 0 rfl ?_
  refine g_bipush X (v := 24) dX2_priceIn_1 (by decide) ?_
  refine g_irem X dX2_priceIn_3 (by decide) ?_
  refine g_bipush X (v := 6) dX2_priceIn_4 (by decide) ?_
  refine g_idiv X dX2_priceIn_6 (by decide) ?_
  by_cases c1 : ((p0 - p0 / 24 * 24) / 6) = 0
  · have h := h.1 c1
    refine g_tin X (tgt := 32) dX2_priceIn_7 c1 (by decide) (by decide) rfl (by decide) ?_
    refine g_iconst X (v := 4) dX2_priceIn_32 (by decide) ?_
    exact g_iret X R dX2_priceIn_33 h
  have h := h.2 c1
  by_cases c2 : ((p0 - p0 / 24 * 24) / 6) = 1
  · have h := h.1 c2
    refine g_tin X (tgt := 34) dX2_priceIn_7 c2 (by decide) (by decide) rfl (by decide) ?_
    refine g_iconst X (v := 3) dX2_priceIn_34 (by decide) ?_
    exact g_iret X R dX2_priceIn_35 h
  have h := h.2 c2
  by_cases c3 : ((p0 - p0 / 24 * 24) / 6) = 2
  · have h := h.1 c3
    refine g_tin X (tgt := 36) dX2_priceIn_7 c3 (by decide) (by decide) rfl (by decide) ?_
    refine g_iconst X (v := 5) dX2_priceIn_36 (by decide) ?_
    exact g_iret X R dX2_priceIn_37 h
  have h := h.2 c3
  refine g_tout X (tgt := 38) dX2_priceIn_7 (sw_out (hi := 2) (fun k hk => by match k, hk with | 0, _ => exact c1 | 1, _ => exact c2 | 2, _ => exact c3 | k + 3, hk => exact absurd hk (by omega)) (by decide)) (by decide) ?_
  refine g_iconst X (v := 2) dX2_priceIn_38 (by decide) ?_
  exact g_iret X R dX2_priceIn_39 h

/-! X2_tens.tens(I)J -/
def rmX2_tens : Room := { frames := 0, cells := 0, slots := 0, locals := 0 }
theorem yo_X2_tens : yX2_tens.cls = RX2 ∧ yX2_tens.cls ≠ "java/lang/invoke/MethodHandle" ∧ yX2_tens.cls ≠ "java/lang/invoke/VarHandle" ∧ (parseMethodDescriptor yX2_tens.desc).map (fun d => d.parameters.length) = some 1 := by decide +kernel
theorem kX2_tens_c7 : Cond.constantLong RX2 7 (10) ∈ wsX2_tens := by decide +kernel
def vc_X2_tens_L4s  (Q : Int64 → MI → MJ → Prop)  (k4 : Int32 → Int64 → Int32 → MI → MJ → Prop) (v0 : Int32) (v1 : Int64) (v3 : Int32) (I : MI) (J : MJ) : Prop := ((v0 ≤ v3 → Q v1 I J) ∧ (¬ v0 ≤ v3 → ∀ x2 : Int64, x2 = v1 * 10 → ∀ x3 : Int32, x3 = v3 + 1 → k4 v0 x2 x3 I J))
def vc_X2_tens_L4  (Q : Int64 → MI → MJ → Prop)  (n : Nat) : Int32 → Int64 → Int32 → MI → MJ → Prop := Nat.rec (fun _ _ _ _ _ => False) (fun _ ih => vc_X2_tens_L4s  Q  ih) n
set_option maxRecDepth 100000 in
set_option maxHeartbeats 4000000 in
theorem w_X2_tens_L4s {Z : RT}  (X : Cx Z cX2_tens 4 RX2 wsX2_tens rmX2_tens (some .long)) {Q : Int64 → MI → MJ → Prop} (R : RL_ Z Q)    {k4 : Int32 → Int64 → Int32 → MI → MJ → Prop} (hk4 : ∀ (v0 : Int32) (v1 : Int64) (v3 : Int32) (I : MI) (J : MJ), k4 v0 v1 v3 I J → GW Z 4 I J 4 [(0, .int v0), (1, .long v1), (3, .int v3)] []) (v0 : Int32) (v1 : Int64) (v3 : Int32) (I : MI) (J : MJ) (h : vc_X2_tens_L4s  Q  k4 v0 v1 v3 I J) : GW Z 4 I J 4 [(0, .int v0), (1, .long v1), (3, .int v3)] [] := by
  refine g_iload_n X dX2_tens_4 rfl 2 rfl ?_
  refine g_iload_n X dX2_tens_5 rfl 0 rfl ?_
  refine g_icmp_ge X (tgt := 21) dX2_tens_6 (by decide) (fun c1 => ?_) (fun c1 => ?_)
  · have h := h.1 c1
    refine g_lload_n X dX2_tens_21 rfl 1 rfl ?_
    exact g_lret X R dX2_tens_22 h
  · have h := h.2 c1
    refine g_lload_n X dX2_tens_9 rfl 1 rfl ?_
    refine g_ldc2 X dX2_tens_10 kX2_tens_c7 ?_
    refine g_lmul X dX2_tens_13 ?_
    refine g_topl (fun x2 ex2 => ?_)
    have h := h x2 ex2
    refine g_lstore_n X (lv' := [(1, .long x2), (0, .int v0), (3, .int v3)]) dX2_tens_14 rfl (by decide) rfl ?_
    obtain ⟨x3, ex3⟩ : ∃ y : Int32, y = v3 + 1 := ⟨_, rfl⟩
    have h := h x3 ex3
    refine g_iinc X (q := 2) (v := x3) (lv' := [(3, .int x3), (1, .long x2), (0, .int v0)]) dX2_tens_15 rfl (by rw [ex3]; rfl) (by decide) rfl ?_
    refine g_goto X (tgt := 4) dX2_tens_18 (by decide) ?_
    refine GW.sub (lv' := [(0, .int v0), (1, .long x2), (3, .int x3)]) [2, 1, 0] rfl ?_
    exact hk4 v0 x2 x3 I J h
theorem w_X2_tens_L4 {Z : RT}  (X : Cx Z cX2_tens 4 RX2 wsX2_tens rmX2_tens (some .long)) {Q : Int64 → MI → MJ → Prop} (R : RL_ Z Q)    : ∀ (n : Nat) (v0 : Int32) (v1 : Int64) (v3 : Int32) (I : MI) (J : MJ) (h : vc_X2_tens_L4  Q  n v0 v1 v3 I J), GW Z 4 I J 4 [(0, .int v0), (1, .long v1), (3, .int v3)] [] := by
  intro n
  induction n with
  | zero => intro v0 v1 v3 I J h; exact h.elim
  | succ n ih => intro v0 v1 v3 I J h; exact w_X2_tens_L4s X R   ih v0 v1 v3 I J h
def vc_X2_tens (p0 : Int32) (I : MI) (J : MJ) (Q : Int64 → MI → MJ → Prop) : Prop := (∃ n, vc_X2_tens_L4  Q  n p0 1 0 I J)
set_option maxRecDepth 100000 in
set_option maxHeartbeats 4000000 in
theorem c_X2_tens (l : Launch) (E : ET)  (p0 : Int32) : CL l yX2_tens wsX2_tens rmX2_tens E [.int p0] (vc_X2_tens p0) := by
  refine CL.of (cc := cX2_tens) (maxL := 4) (own := RX2) (by decide) rfl rfl (Nat.le_of_ble_eq_true rfl) ?_
  intro Z I J Q hE hl X R h
  subst hE
  subst hl
  show GW Z 4 I J 0 [(0, .int p0)] []
  refine g_lconst X (v := 1) dX2_tens_0 (by decide) ?_
  refine g_lstore_n X (lv' := [(1, .long 1), (0, .int p0)]) dX2_tens_1 rfl (by decide) rfl ?_
  refine g_iconst X (v := 0) dX2_tens_2 (by decide) ?_
  refine g_istore_n X (lv' := [(3, .int 0), (1, .long 1), (0, .int p0)]) dX2_tens_3 rfl (by decide) rfl ?_
  refine GW.sub (lv' := [(0, .int p0), (1, .long 1), (3, .int 0)]) [2, 1, 0] rfl ?_
  obtain ⟨n, h⟩ := h
  exact w_X2_tens_L4 X R   n p0 1 0 I J h

/-! X2_inLowestTerms.inLowestTerms(JII)J -/
def rmX2_inLowestTerms : Room := { frames := 1, cells := 0, slots := 0, locals := 23 }
theorem yo_X2_inLowestTerms : yX2_inLowestTerms.cls = RX2 ∧ yX2_inLowestTerms.cls ≠ "java/lang/invoke/MethodHandle" ∧ yX2_inLowestTerms.cls ≠ "java/lang/invoke/VarHandle" ∧ (parseMethodDescriptor yX2_inLowestTerms.desc).map (fun d => d.parameters.length) = some 3 := by decide +kernel
theorem kX2_inLowestTerms_c33 : Cond.constantLong RX2 33 (5) ∈ wsX2_inLowestTerms := by decide +kernel
theorem kX2_inLowestTerms_c31 : Cond.constantLong RX2 31 (2) ∈ wsX2_inLowestTerms := by decide +kernel
def vc_X2_inLowestTerms_B56  (Q : Int64 → MI → MJ → Prop) (k12 : Int32 → Int32 → Int64 → Int64 → Int32 → MI → MJ → Prop) (v2 : Int32) (v3 : Int32) (v4 : Int64) (v6 : Int64) (v8 : Int32) (I : MI) (J : MJ) : Prop := ((¬ (lg_cmp (v4 - v4 / 5 * 5) 0) = 0 → ∀ x2 : Int32, x2 = v8 + 1 → k12 v2 v3 v4 v6 x2 I J) ∧ ((lg_cmp (v4 - v4 / 5 * 5) 0) = 0 → ((¬ (lg_cmp (v6 - v6 / 5 * 5) 0) = 0 → ∀ x4 : Int32, x4 = v8 + 1 → k12 v2 v3 v4 v6 x4 I J) ∧ ((lg_cmp (v6 - v6 / 5 * 5) 0) = 0 → ∀ x5 : Int64, x5 = v4 / 5 → ∀ x6 : Int64, x6 = v6 / 5 → ∀ x7 : Int32, x7 = v8 + 1 → k12 v2 v3 x5 x6 x7 I J))))
set_option maxRecDepth 100000 in
set_option maxHeartbeats 4000000 in
theorem w_X2_inLowestTerms_B56 {Z : RT}  (X : Cx Z cX2_inLowestTerms 9 RX2 wsX2_inLowestTerms rmX2_inLowestTerms (some .long)) {Q : Int64 → MI → MJ → Prop} (R : RL_ Z Q)  {k12 : Int32 → Int32 → Int64 → Int64 → Int32 → MI → MJ → Prop} (hk12 : ∀ (v2 : Int32) (v3 : Int32) (v4 : Int64) (v6 : Int64) (v8 : Int32) (I : MI) (J : MJ), k12 v2 v3 v4 v6 v8 I J → GW Z 9 I J 12 [(2, .int v2), (3, .int v3), (4, .long v4), (6, .long v6), (8, .int v8)] []) (v2 : Int32) (v3 : Int32) (v4 : Int64) (v6 : Int64) (v8 : Int32) (I : MI) (J : MJ) (h : vc_X2_inLowestTerms_B56  Q k12 v2 v3 v4 v6 v8 I J) : GW Z 9 I J 56 [(2, .int v2), (3, .int v3), (4, .long v4), (6, .long v6), (8, .int v8)] [] := by
  refine g_lload X dX2_inLowestTerms_56 2 rfl ?_
  refine g_ldc2 X dX2_inLowestTerms_58 kX2_inLowestTerms_c33 ?_
  refine g_lrem X dX2_inLowestTerms_61 (by decide) ?_
  refine g_lconst X (v := 0) dX2_inLowestTerms_62 (by decide) ?_
  refine g_lcmp X dX2_inLowestTerms_63 ?_
  refine g_if_ne X (tgt := 94) dX2_inLowestTerms_64 (by decide) (fun c1 => ?_) (fun c1 => ?_)
  · have h := h.1 c1
    obtain ⟨x2, ex2⟩ : ∃ y : Int32, y = v8 + 1 := ⟨_, rfl⟩
    have h := h x2 ex2
    refine g_iinc X (q := 4) (v := x2) (lv' := [(8, .int x2), (2, .int v2), (3, .int v3), (4, .long v4), (6, .long v6)]) dX2_inLowestTerms_94 rfl (by rw [ex2]; rfl) (by decide) rfl ?_
    refine g_goto X (tgt := 12) dX2_inLowestTerms_97 (by decide) ?_
    refine GW.sub (lv' := [(2, .int v2), (3, .int v3), (4, .long v4), (6, .long v6), (8, .int x2)]) [1, 2, 3, 4, 0] rfl ?_
    exact hk12 v2 v3 v4 v6 x2 I J h
  · have h := h.2 c1
    refine g_lload X dX2_inLowestTerms_67 3 rfl ?_
    refine g_ldc2 X dX2_inLowestTerms_69 kX2_inLowestTerms_c33 ?_
    refine g_lrem X dX2_inLowestTerms_72 (by decide) ?_
    refine g_lconst X (v := 0) dX2_inLowestTerms_73 (by decide) ?_
    refine g_lcmp X dX2_inLowestTerms_74 ?_
    refine g_if_ne X (tgt := 94) dX2_inLowestTerms_75 (by decide) (fun c3 => ?_) (fun c3 => ?_)
    · have h := h.1 c3
      obtain ⟨x4, ex4⟩ : ∃ y : Int32, y = v8 + 1 := ⟨_, rfl⟩
      have h := h x4 ex4
      refine g_iinc X (q := 4) (v := x4) (lv' := [(8, .int x4), (2, .int v2), (3, .int v3), (4, .long v4), (6, .long v6)]) dX2_inLowestTerms_94 rfl (by rw [ex4]; rfl) (by decide) rfl ?_
      refine g_goto X (tgt := 12) dX2_inLowestTerms_97 (by decide) ?_
      refine GW.sub (lv' := [(2, .int v2), (3, .int v3), (4, .long v4), (6, .long v6), (8, .int x4)]) [1, 2, 3, 4, 0] rfl ?_
      exact hk12 v2 v3 v4 v6 x4 I J h
    · have h := h.2 c3
      refine g_lload X dX2_inLowestTerms_78 2 rfl ?_
      refine g_ldc2 X dX2_inLowestTerms_80 kX2_inLowestTerms_c33 ?_
      refine g_ldiv X dX2_inLowestTerms_83 (by decide) ?_
      refine g_topl (fun x5 ex5 => ?_)
      have h := h x5 ex5
      refine g_lstore X (lv' := [(4, .long x5), (2, .int v2), (3, .int v3), (6, .long v6), (8, .int v8)]) dX2_inLowestTerms_84 (by decide) rfl ?_
      refine g_lload X dX2_inLowestTerms_86 3 rfl ?_
      refine g_ldc2 X dX2_inLowestTerms_88 kX2_inLowestTerms_c33 ?_
      refine g_ldiv X dX2_inLowestTerms_91 (by decide) ?_
      refine g_topl (fun x6 ex6 => ?_)
      have h := h x6 ex6
      refine g_lstore X (lv' := [(6, .long x6), (4, .long x5), (2, .int v2), (3, .int v3), (8, .int v8)]) dX2_inLowestTerms_92 (by decide) rfl ?_
      obtain ⟨x7, ex7⟩ : ∃ y : Int32, y = v8 + 1 := ⟨_, rfl⟩
      have h := h x7 ex7
      refine g_iinc X (q := 4) (v := x7) (lv' := [(8, .int x7), (6, .long x6), (4, .long x5), (2, .int v2), (3, .int v3)]) dX2_inLowestTerms_94 rfl (by rw [ex7]; rfl) (by decide) rfl ?_
      refine g_goto X (tgt := 12) dX2_inLowestTerms_97 (by decide) ?_
      refine GW.sub (lv' := [(2, .int v2), (3, .int v3), (4, .long x5), (6, .long x6), (8, .int x7)]) [3, 4, 2, 1, 0] rfl ?_
      exact hk12 v2 v3 x5 x6 x7 I J h
def vc_X2_inLowestTerms_L12s  (Q : Int64 → MI → MJ → Prop)  (k12 : Int32 → Int32 → Int64 → Int64 → Int32 → MI → MJ → Prop) (v2 : Int32) (v3 : Int32) (v4 : Int64) (v6 : Int64) (v8 : Int32) (I : MI) (J : MJ) : Prop := ((v2 ≤ v8 → ((¬ v3 = 0 → Q v6 I J) ∧ (v3 = 0 → Q v4 I J))) ∧ (¬ v2 ≤ v8 → ((¬ (lg_cmp (v4 - v4 / 2 * 2) 0) = 0 → vc_X2_inLowestTerms_B56  Q k12 v2 v3 v4 v6 v8 I J) ∧ ((lg_cmp (v4 - v4 / 2 * 2) 0) = 0 → ((¬ (lg_cmp (v6 - v6 / 2 * 2) 0) = 0 → vc_X2_inLowestTerms_B56  Q k12 v2 v3 v4 v6 v8 I J) ∧ ((lg_cmp (v6 - v6 / 2 * 2) 0) = 0 → ∀ x12 : Int64, x12 = v4 / 2 → ∀ x13 : Int64, x13 = v6 / 2 → vc_X2_inLowestTerms_B56  Q k12 v2 v3 x12 x13 v8 I J))))))
def vc_X2_inLowestTerms_L12  (Q : Int64 → MI → MJ → Prop)  (n : Nat) : Int32 → Int32 → Int64 → Int64 → Int32 → MI → MJ → Prop := Nat.rec (fun _ _ _ _ _ _ _ => False) (fun _ ih => vc_X2_inLowestTerms_L12s  Q  ih) n
set_option maxRecDepth 100000 in
set_option maxHeartbeats 4000000 in
theorem w_X2_inLowestTerms_L12s {Z : RT}  (X : Cx Z cX2_inLowestTerms 9 RX2 wsX2_inLowestTerms rmX2_inLowestTerms (some .long)) {Q : Int64 → MI → MJ → Prop} (R : RL_ Z Q)    {k12 : Int32 → Int32 → Int64 → Int64 → Int32 → MI → MJ → Prop} (hk12 : ∀ (v2 : Int32) (v3 : Int32) (v4 : Int64) (v6 : Int64) (v8 : Int32) (I : MI) (J : MJ), k12 v2 v3 v4 v6 v8 I J → GW Z 9 I J 12 [(2, .int v2), (3, .int v3), (4, .long v4), (6, .long v6), (8, .int v8)] []) (v2 : Int32) (v3 : Int32) (v4 : Int64) (v6 : Int64) (v8 : Int32) (I : MI) (J : MJ) (h : vc_X2_inLowestTerms_L12s  Q  k12 v2 v3 v4 v6 v8 I J) : GW Z 9 I J 12 [(2, .int v2), (3, .int v3), (4, .long v4), (6, .long v6), (8, .int v8)] [] := by
  refine g_iload X dX2_inLowestTerms_12 4 rfl ?_
  refine g_iload_n X dX2_inLowestTerms_14 rfl 0 rfl ?_
  refine g_icmp_ge X (tgt := 100) dX2_inLowestTerms_15 (by decide) (fun c8 => ?_) (fun c8 => ?_)
  · have h := h.1 c8
    refine g_iload_n X dX2_inLowestTerms_100 rfl 1 rfl ?_
    refine g_if_ne X (tgt := 109) dX2_inLowestTerms_101 (by decide) (fun c9 => ?_) (fun c9 => ?_)
    · have h := h.1 c9
      refine g_lload X dX2_inLowestTerms_109 3 rfl ?_
      exact g_lret X R dX2_inLowestTerms_111 h
    · have h := h.2 c9
      refine g_lload X dX2_inLowestTerms_104 2 rfl ?_
      refine g_goto X (tgt := 111) dX2_inLowestTerms_106 (by decide) ?_
      exact g_lret X R dX2_inLowestTerms_111 h
  · have h := h.2 c8
    refine g_lload X dX2_inLowestTerms_18 2 rfl ?_
    refine g_ldc2 X dX2_inLowestTerms_20 kX2_inLowestTerms_c31 ?_
    refine g_lrem X dX2_inLowestTerms_23 (by decide) ?_
    refine g_lconst X (v := 0) dX2_inLowestTerms_24 (by decide) ?_
    refine g_lcmp X dX2_inLowestTerms_25 ?_
    refine g_if_ne X (tgt := 56) dX2_inLowestTerms_26 (by decide) (fun c10 => ?_) (fun c10 => ?_)
    · have h := h.1 c10
      refine GW.sub (lv' := [(2, .int v2), (3, .int v3), (4, .long v4), (6, .long v6), (8, .int v8)]) [0, 1, 2, 3, 4] rfl ?_
      exact w_X2_inLowestTerms_B56 X R  hk12 v2 v3 v4 v6 v8 I J h
    · have h := h.2 c10
      refine g_lload X dX2_inLowestTerms_29 3 rfl ?_
      refine g_ldc2 X dX2_inLowestTerms_31 kX2_inLowestTerms_c31 ?_
      refine g_lrem X dX2_inLowestTerms_34 (by decide) ?_
      refine g_lconst X (v := 0) dX2_inLowestTerms_35 (by decide) ?_
      refine g_lcmp X dX2_inLowestTerms_36 ?_
      refine g_if_ne X (tgt := 56) dX2_inLowestTerms_37 (by decide) (fun c11 => ?_) (fun c11 => ?_)
      · have h := h.1 c11
        refine GW.sub (lv' := [(2, .int v2), (3, .int v3), (4, .long v4), (6, .long v6), (8, .int v8)]) [0, 1, 2, 3, 4] rfl ?_
        exact w_X2_inLowestTerms_B56 X R  hk12 v2 v3 v4 v6 v8 I J h
      · have h := h.2 c11
        refine g_lload X dX2_inLowestTerms_40 2 rfl ?_
        refine g_ldc2 X dX2_inLowestTerms_42 kX2_inLowestTerms_c31 ?_
        refine g_ldiv X dX2_inLowestTerms_45 (by decide) ?_
        refine g_topl (fun x12 ex12 => ?_)
        have h := h x12 ex12
        refine g_lstore X (lv' := [(4, .long x12), (2, .int v2), (3, .int v3), (6, .long v6), (8, .int v8)]) dX2_inLowestTerms_46 (by decide) rfl ?_
        refine g_lload X dX2_inLowestTerms_48 3 rfl ?_
        refine g_ldc2 X dX2_inLowestTerms_50 kX2_inLowestTerms_c31 ?_
        refine g_ldiv X dX2_inLowestTerms_53 (by decide) ?_
        refine g_topl (fun x13 ex13 => ?_)
        have h := h x13 ex13
        refine g_lstore X (lv' := [(6, .long x13), (4, .long x12), (2, .int v2), (3, .int v3), (8, .int v8)]) dX2_inLowestTerms_54 (by decide) rfl ?_
        refine GW.sub (lv' := [(2, .int v2), (3, .int v3), (4, .long x12), (6, .long x13), (8, .int v8)]) [2, 3, 1, 0, 4] rfl ?_
        exact w_X2_inLowestTerms_B56 X R  hk12 v2 v3 x12 x13 v8 I J h
theorem w_X2_inLowestTerms_L12 {Z : RT}  (X : Cx Z cX2_inLowestTerms 9 RX2 wsX2_inLowestTerms rmX2_inLowestTerms (some .long)) {Q : Int64 → MI → MJ → Prop} (R : RL_ Z Q)    : ∀ (n : Nat) (v2 : Int32) (v3 : Int32) (v4 : Int64) (v6 : Int64) (v8 : Int32) (I : MI) (J : MJ) (h : vc_X2_inLowestTerms_L12  Q  n v2 v3 v4 v6 v8 I J), GW Z 9 I J 12 [(2, .int v2), (3, .int v3), (4, .long v4), (6, .long v6), (8, .int v8)] [] := by
  intro n
  induction n with
  | zero => intro v2 v3 v4 v6 v8 I J h; exact h.elim
  | succ n ih => intro v2 v3 v4 v6 v8 I J h; exact w_X2_inLowestTerms_L12s X R   ih v2 v3 v4 v6 v8 I J h
def vc_X2_inLowestTerms (p0 : Int64) (p2 : Int32) (p3 : Int32) (I : MI) (J : MJ) (Q : Int64 → MI → MJ → Prop) : Prop := vc_X2_tens p2 I J (fun (r16 : Int64) (I14 : MI) (J15 : MJ) => (∃ n, vc_X2_inLowestTerms_L12  Q  n p2 p3 p0 r16 0 I14 J15))
set_option maxRecDepth 100000 in
set_option maxHeartbeats 4000000 in
theorem c_X2_inLowestTerms (l : Launch) (E : ET)  (p0 : Int64) (p2 : Int32) (p3 : Int32) : CL l yX2_inLowestTerms wsX2_inLowestTerms rmX2_inLowestTerms E [.long p0, .int p2, .int p3] (vc_X2_inLowestTerms p0 p2 p3) := by
  refine CL.of (cc := cX2_inLowestTerms) (maxL := 9) (own := RX2) (by decide) rfl rfl (Nat.le_of_ble_eq_true rfl) ?_
  intro Z I J Q hE hl X R h
  subst hE
  subst hl
  show GW Z 9 I J 0 [(0, .long p0), (2, .int p2), (3, .int p3)] []
  refine g_lload_n X dX2_inLowestTerms_0 rfl 0 rfl ?_
  refine g_lstore X (lv' := [(4, .long p0), (0, .long p0), (2, .int p2), (3, .int p3)]) dX2_inLowestTerms_1 (by decide) rfl ?_
  refine g_iload_n X dX2_inLowestTerms_3 rfl 2 rfl ?_
  refine g_callSL X (As := [.int p2]) (rest := []) (c_X2_tens (zl Z) (zE Z) p2) gX2_inLowestTerms_X2_tens yo_X2_tens.2 rfl ⟨Nat.le_of_ble_eq_true rfl, Nat.le_of_ble_eq_true rfl⟩ rfl dX2_inLowestTerms_4 h (fun r16 I14 J15 h => ?_)
  refine g_lstore X (lv' := [(6, .long r16), (4, .long p0), (0, .long p0), (2, .int p2), (3, .int p3)]) dX2_inLowestTerms_7 (by decide) rfl ?_
  refine g_iconst X (v := 0) dX2_inLowestTerms_9 (by decide) ?_
  refine g_istore X (lv' := [(8, .int 0), (6, .long r16), (4, .long p0), (0, .long p0), (2, .int p2), (3, .int p3)]) dX2_inLowestTerms_10 (by decide) rfl ?_
  refine GW.sub (lv' := [(2, .int p2), (3, .int p3), (4, .long p0), (6, .long r16), (8, .int 0)]) [4, 5, 2, 1, 0] rfl ?_
  obtain ⟨n, h⟩ := h
  exact w_X2_inLowestTerms_L12 X R   n p2 p3 p0 r16 0 I14 J15 h

/-! J6_bitCount_0f7a4.bitCount(I)I -/
def rmJ6_bitCount_0f7a4 : Room := { frames := 0, cells := 0, slots := 0, locals := 0 }
theorem yo_J6_bitCount_0f7a4 : yJ6_bitCount_0f7a4.cls = RJ6 ∧ yJ6_bitCount_0f7a4.cls ≠ "java/lang/invoke/MethodHandle" ∧ yJ6_bitCount_0f7a4.cls ≠ "java/lang/invoke/VarHandle" ∧ (parseMethodDescriptor yJ6_bitCount_0f7a4.desc).map (fun d => d.parameters.length) = some 1 := by decide +kernel
theorem kJ6_bitCount_0f7a4_c265 : Cond.constant RJ6 265 (1431655765) ∈ wsJ6_bitCount_0f7a4 := by decide +kernel
theorem kJ6_bitCount_0f7a4_c266 : Cond.constant RJ6 266 (858993459) ∈ wsJ6_bitCount_0f7a4 := by decide +kernel
theorem kJ6_bitCount_0f7a4_c267 : Cond.constant RJ6 267 (252645135) ∈ wsJ6_bitCount_0f7a4 := by decide +kernel
def vc_J6_bitCount_0f7a4 (p0 : Int32) (I : MI) (J : MJ) (Q : Int32 → MI → MJ → Prop) : Prop := ∀ x1 : Int32, x1 = p0 - (((Int32.toUInt32 p0 >>> (Int32.toUInt32 1 &&& Int32.toUInt32 31)).toInt32) &&& 1431655765) → ∀ x2 : Int32, x2 = (x1 &&& 858993459) + (((Int32.toUInt32 x1 >>> (Int32.toUInt32 2 &&& Int32.toUInt32 31)).toInt32) &&& 858993459) → ∀ x3 : Int32, x3 = (x2 + ((Int32.toUInt32 x2 >>> (Int32.toUInt32 4 &&& Int32.toUInt32 31)).toInt32)) &&& 252645135 → ∀ x4 : Int32, x4 = x3 + ((Int32.toUInt32 x3 >>> (Int32.toUInt32 8 &&& Int32.toUInt32 31)).toInt32) → ∀ x5 : Int32, x5 = x4 + ((Int32.toUInt32 x4 >>> (Int32.toUInt32 16 &&& Int32.toUInt32 31)).toInt32) → Q (x5 &&& 63) I J
set_option maxRecDepth 100000 in
set_option maxHeartbeats 4000000 in
theorem c_J6_bitCount_0f7a4 (l : Launch) (E : ET)  (p0 : Int32) : CI l yJ6_bitCount_0f7a4 wsJ6_bitCount_0f7a4 rmJ6_bitCount_0f7a4 E [.int p0] (vc_J6_bitCount_0f7a4 p0) := by
  refine CI.of (cc := cJ6_bitCount_0f7a4) (maxL := 1) (own := RJ6) (by decide) rfl rfl (Nat.le_of_ble_eq_true rfl) ?_
  intro Z I J Q hE hl X R h
  subst hE
  subst hl
  show GW Z 1 I J 0 [(0, .int p0)] []
  refine g_iload_n X dJ6_bitCount_0f7a4_0 rfl 0 rfl ?_
  refine g_iload_n X dJ6_bitCount_0f7a4_1 rfl 0 rfl ?_
  refine g_iconst X (v := 1) dJ6_bitCount_0f7a4_2 (by decide) ?_
  refine g_iushr X dJ6_bitCount_0f7a4_3 rfl ?_
  refine g_ldcw X dJ6_bitCount_0f7a4_4 kJ6_bitCount_0f7a4_c265 ?_
  refine g_iand X dJ6_bitCount_0f7a4_7 ?_
  refine g_isub X dJ6_bitCount_0f7a4_8 ?_
  refine g_topi (fun x1 ex1 => ?_)
  have h := h x1 ex1
  refine g_istore_n X (lv' := [(0, .int x1)]) dJ6_bitCount_0f7a4_9 rfl (by decide) rfl ?_
  refine g_iload_n X dJ6_bitCount_0f7a4_10 rfl 0 rfl ?_
  refine g_ldcw X dJ6_bitCount_0f7a4_11 kJ6_bitCount_0f7a4_c266 ?_
  refine g_iand X dJ6_bitCount_0f7a4_14 ?_
  refine g_iload_n X dJ6_bitCount_0f7a4_15 rfl 0 rfl ?_
  refine g_iconst X (v := 2) dJ6_bitCount_0f7a4_16 (by decide) ?_
  refine g_iushr X dJ6_bitCount_0f7a4_17 rfl ?_
  refine g_ldcw X dJ6_bitCount_0f7a4_18 kJ6_bitCount_0f7a4_c266 ?_
  refine g_iand X dJ6_bitCount_0f7a4_21 ?_
  refine g_iadd X dJ6_bitCount_0f7a4_22 ?_
  refine g_topi (fun x2 ex2 => ?_)
  have h := h x2 ex2
  refine g_istore_n X (lv' := [(0, .int x2)]) dJ6_bitCount_0f7a4_23 rfl (by decide) rfl ?_
  refine g_iload_n X dJ6_bitCount_0f7a4_24 rfl 0 rfl ?_
  refine g_iload_n X dJ6_bitCount_0f7a4_25 rfl 0 rfl ?_
  refine g_iconst X (v := 4) dJ6_bitCount_0f7a4_26 (by decide) ?_
  refine g_iushr X dJ6_bitCount_0f7a4_27 rfl ?_
  refine g_iadd X dJ6_bitCount_0f7a4_28 ?_
  refine g_ldcw X dJ6_bitCount_0f7a4_29 kJ6_bitCount_0f7a4_c267 ?_
  refine g_iand X dJ6_bitCount_0f7a4_32 ?_
  refine g_topi (fun x3 ex3 => ?_)
  have h := h x3 ex3
  refine g_istore_n X (lv' := [(0, .int x3)]) dJ6_bitCount_0f7a4_33 rfl (by decide) rfl ?_
  refine g_iload_n X dJ6_bitCount_0f7a4_34 rfl 0 rfl ?_
  refine g_iload_n X dJ6_bitCount_0f7a4_35 rfl 0 rfl ?_
  refine g_bipush X (v := 8) dJ6_bitCount_0f7a4_36 (by decide) ?_
  refine g_iushr X dJ6_bitCount_0f7a4_38 rfl ?_
  refine g_iadd X dJ6_bitCount_0f7a4_39 ?_
  refine g_topi (fun x4 ex4 => ?_)
  have h := h x4 ex4
  refine g_istore_n X (lv' := [(0, .int x4)]) dJ6_bitCount_0f7a4_40 rfl (by decide) rfl ?_
  refine g_iload_n X dJ6_bitCount_0f7a4_41 rfl 0 rfl ?_
  refine g_iload_n X dJ6_bitCount_0f7a4_42 rfl 0 rfl ?_
  refine g_bipush X (v := 16) dJ6_bitCount_0f7a4_43 (by decide) ?_
  refine g_iushr X dJ6_bitCount_0f7a4_45 rfl ?_
  refine g_iadd X dJ6_bitCount_0f7a4_46 ?_
  refine g_topi (fun x5 ex5 => ?_)
  have h := h x5 ex5
  refine g_istore_n X (lv' := [(0, .int x5)]) dJ6_bitCount_0f7a4_47 rfl (by decide) rfl ?_
  refine g_iload_n X dJ6_bitCount_0f7a4_48 rfl 0 rfl ?_
  refine g_bipush X (v := 63) dJ6_bitCount_0f7a4_49 (by decide) ?_
  refine g_iand X dJ6_bitCount_0f7a4_51 ?_
  exact g_iret X R dJ6_bitCount_0f7a4_52 h

/-! J13_bitCount_95d88.bitCount(J)I -/
def rmJ13_bitCount_95d88 : Room := { frames := 0, cells := 0, slots := 0, locals := 0 }
theorem yo_J13_bitCount_95d88 : yJ13_bitCount_95d88.cls = RJ13 ∧ yJ13_bitCount_95d88.cls ≠ "java/lang/invoke/MethodHandle" ∧ yJ13_bitCount_95d88.cls ≠ "java/lang/invoke/VarHandle" ∧ (parseMethodDescriptor yJ13_bitCount_95d88.desc).map (fun d => d.parameters.length) = some 1 := by decide +kernel
theorem kJ13_bitCount_95d88_c314 : Cond.constantLong RJ13 314 (6148914691236517205) ∈ wsJ13_bitCount_95d88 := by decide +kernel
theorem kJ13_bitCount_95d88_c316 : Cond.constantLong RJ13 316 (3689348814741910323) ∈ wsJ13_bitCount_95d88 := by decide +kernel
theorem kJ13_bitCount_95d88_c318 : Cond.constantLong RJ13 318 (1085102592571150095) ∈ wsJ13_bitCount_95d88 := by decide +kernel
def vc_J13_bitCount_95d88 (p0 : Int64) (I : MI) (J : MJ) (Q : Int32 → MI → MJ → Prop) : Prop := ∀ x1 : Int64, x1 = p0 - (((Int64.toUInt64 p0 >>> ((Int32.toInt64 1).toUInt64 &&& Int64.toUInt64 63)).toInt64) &&& 6148914691236517205) → ∀ x2 : Int64, x2 = (x1 &&& 3689348814741910323) + (((Int64.toUInt64 x1 >>> ((Int32.toInt64 2).toUInt64 &&& Int64.toUInt64 63)).toInt64) &&& 3689348814741910323) → ∀ x3 : Int64, x3 = (x2 + ((Int64.toUInt64 x2 >>> ((Int32.toInt64 4).toUInt64 &&& Int64.toUInt64 63)).toInt64)) &&& 1085102592571150095 → ∀ x4 : Int64, x4 = x3 + ((Int64.toUInt64 x3 >>> ((Int32.toInt64 8).toUInt64 &&& Int64.toUInt64 63)).toInt64) → ∀ x5 : Int64, x5 = x4 + ((Int64.toUInt64 x4 >>> ((Int32.toInt64 16).toUInt64 &&& Int64.toUInt64 63)).toInt64) → ∀ x6 : Int64, x6 = x5 + ((Int64.toUInt64 x5 >>> ((Int32.toInt64 32).toUInt64 &&& Int64.toUInt64 63)).toInt64) → Q ((Int64.toInt32 x6) &&& 127) I J
set_option maxRecDepth 100000 in
set_option maxHeartbeats 4000000 in
theorem c_J13_bitCount_95d88 (l : Launch) (E : ET)  (p0 : Int64) : CI l yJ13_bitCount_95d88 wsJ13_bitCount_95d88 rmJ13_bitCount_95d88 E [.long p0] (vc_J13_bitCount_95d88 p0) := by
  refine CI.of (cc := cJ13_bitCount_95d88) (maxL := 2) (own := RJ13) (by decide) rfl rfl (Nat.le_of_ble_eq_true rfl) ?_
  intro Z I J Q hE hl X R h
  subst hE
  subst hl
  show GW Z 2 I J 0 [(0, .long p0)] []
  refine g_lload_n X dJ13_bitCount_95d88_0 rfl 0 rfl ?_
  refine g_lload_n X dJ13_bitCount_95d88_1 rfl 0 rfl ?_
  refine g_iconst X (v := 1) dJ13_bitCount_95d88_2 (by decide) ?_
  refine g_lushr X dJ13_bitCount_95d88_3 rfl ?_
  refine g_ldc2 X dJ13_bitCount_95d88_4 kJ13_bitCount_95d88_c314 ?_
  refine g_land X dJ13_bitCount_95d88_7 ?_
  refine g_lsub X dJ13_bitCount_95d88_8 ?_
  refine g_topl (fun x1 ex1 => ?_)
  have h := h x1 ex1
  refine g_lstore_n X (lv' := [(0, .long x1)]) dJ13_bitCount_95d88_9 rfl (by decide) rfl ?_
  refine g_lload_n X dJ13_bitCount_95d88_10 rfl 0 rfl ?_
  refine g_ldc2 X dJ13_bitCount_95d88_11 kJ13_bitCount_95d88_c316 ?_
  refine g_land X dJ13_bitCount_95d88_14 ?_
  refine g_lload_n X dJ13_bitCount_95d88_15 rfl 0 rfl ?_
  refine g_iconst X (v := 2) dJ13_bitCount_95d88_16 (by decide) ?_
  refine g_lushr X dJ13_bitCount_95d88_17 rfl ?_
  refine g_ldc2 X dJ13_bitCount_95d88_18 kJ13_bitCount_95d88_c316 ?_
  refine g_land X dJ13_bitCount_95d88_21 ?_
  refine g_ladd X dJ13_bitCount_95d88_22 ?_
  refine g_topl (fun x2 ex2 => ?_)
  have h := h x2 ex2
  refine g_lstore_n X (lv' := [(0, .long x2)]) dJ13_bitCount_95d88_23 rfl (by decide) rfl ?_
  refine g_lload_n X dJ13_bitCount_95d88_24 rfl 0 rfl ?_
  refine g_lload_n X dJ13_bitCount_95d88_25 rfl 0 rfl ?_
  refine g_iconst X (v := 4) dJ13_bitCount_95d88_26 (by decide) ?_
  refine g_lushr X dJ13_bitCount_95d88_27 rfl ?_
  refine g_ladd X dJ13_bitCount_95d88_28 ?_
  refine g_ldc2 X dJ13_bitCount_95d88_29 kJ13_bitCount_95d88_c318 ?_
  refine g_land X dJ13_bitCount_95d88_32 ?_
  refine g_topl (fun x3 ex3 => ?_)
  have h := h x3 ex3
  refine g_lstore_n X (lv' := [(0, .long x3)]) dJ13_bitCount_95d88_33 rfl (by decide) rfl ?_
  refine g_lload_n X dJ13_bitCount_95d88_34 rfl 0 rfl ?_
  refine g_lload_n X dJ13_bitCount_95d88_35 rfl 0 rfl ?_
  refine g_bipush X (v := 8) dJ13_bitCount_95d88_36 (by decide) ?_
  refine g_lushr X dJ13_bitCount_95d88_38 rfl ?_
  refine g_ladd X dJ13_bitCount_95d88_39 ?_
  refine g_topl (fun x4 ex4 => ?_)
  have h := h x4 ex4
  refine g_lstore_n X (lv' := [(0, .long x4)]) dJ13_bitCount_95d88_40 rfl (by decide) rfl ?_
  refine g_lload_n X dJ13_bitCount_95d88_41 rfl 0 rfl ?_
  refine g_lload_n X dJ13_bitCount_95d88_42 rfl 0 rfl ?_
  refine g_bipush X (v := 16) dJ13_bitCount_95d88_43 (by decide) ?_
  refine g_lushr X dJ13_bitCount_95d88_45 rfl ?_
  refine g_ladd X dJ13_bitCount_95d88_46 ?_
  refine g_topl (fun x5 ex5 => ?_)
  have h := h x5 ex5
  refine g_lstore_n X (lv' := [(0, .long x5)]) dJ13_bitCount_95d88_47 rfl (by decide) rfl ?_
  refine g_lload_n X dJ13_bitCount_95d88_48 rfl 0 rfl ?_
  refine g_lload_n X dJ13_bitCount_95d88_49 rfl 0 rfl ?_
  refine g_bipush X (v := 32) dJ13_bitCount_95d88_50 (by decide) ?_
  refine g_lushr X dJ13_bitCount_95d88_52 rfl ?_
  refine g_ladd X dJ13_bitCount_95d88_53 ?_
  refine g_topl (fun x6 ex6 => ?_)
  have h := h x6 ex6
  refine g_lstore_n X (lv' := [(0, .long x6)]) dJ13_bitCount_95d88_54 rfl (by decide) rfl ?_
  refine g_lload_n X dJ13_bitCount_95d88_55 rfl 0 rfl ?_
  refine g_l2i X dJ13_bitCount_95d88_56 ?_
  refine g_bipush X (v := 127) dJ13_bitCount_95d88_57 (by decide) ?_
  refine g_iand X dJ13_bitCount_95d88_59 ?_
  exact g_iret X R dJ13_bitCount_95d88_60 h

/-! J7_fill_d0a16.fill([JJ)V -/
def rmJ7_fill_d0a16 : Room := { frames := 0, cells := 0, slots := 0, locals := 0 }
theorem yo_J7_fill_d0a16 : yJ7_fill_d0a16.cls = RJ7 ∧ yJ7_fill_d0a16.cls ≠ "java/lang/invoke/MethodHandle" ∧ yJ7_fill_d0a16.cls ≠ "java/lang/invoke/VarHandle" ∧ (parseMethodDescriptor yJ7_fill_d0a16.desc).map (fun d => d.parameters.length) = some 2 := by decide +kernel
def vc_J7_fill_d0a16_L6s (a0 n0 : Nat) (Q : MI → MJ → Prop)  (k6 : Int64 → Int32 → Int32 → MI → MJ → Prop) (v1 : Int64) (v3 : Int32) (v4 : Int32) (I : MI) (J : MJ) : Prop := ((v4 ≤ v3 → Q I J) ∧ (¬ v4 ≤ v3 → vp_in v3 n0 ∧ ∀ J3 : MJ, J3 = wJ J a0 (Int32.toNatClampNeg v3) v1 → ∀ x4 : Int32, x4 = v3 + 1 → k6 v1 x4 v4 I J3))
def vc_J7_fill_d0a16_L6 (a0 n0 : Nat) (Q : MI → MJ → Prop)  (n : Nat) : Int64 → Int32 → Int32 → MI → MJ → Prop := Nat.rec (fun _ _ _ _ _ => False) (fun _ ih => vc_J7_fill_d0a16_L6s a0 n0 Q  ih) n
set_option maxRecDepth 100000 in
set_option maxHeartbeats 4000000 in
theorem w_J7_fill_d0a16_L6s {Z : RT} {a0 n0 : Nat} (X : Cx Z cJ7_fill_d0a16 5 RJ7 wsJ7_fill_d0a16 rmJ7_fill_d0a16 none) {Q : MI → MJ → Prop} (R : RV Z Q) (h0 : a0 < 109) (h0_ : kd a0 = (1, n0))   {k6 : Int64 → Int32 → Int32 → MI → MJ → Prop} (hk6 : ∀ (v1 : Int64) (v3 : Int32) (v4 : Int32) (I : MI) (J : MJ), k6 v1 v3 v4 I J → GW Z 5 I J 6 [(0, .ref (ea (zE Z) a0)), (1, .long v1), (3, .int v3), (4, .int v4)] []) (v1 : Int64) (v3 : Int32) (v4 : Int32) (I : MI) (J : MJ) (h : vc_J7_fill_d0a16_L6s a0 n0 Q  k6 v1 v3 v4 I J) : GW Z 5 I J 6 [(0, .ref (ea (zE Z) a0)), (1, .long v1), (3, .int v3), (4, .int v4)] [] := by
  refine g_iload_n X dJ7_fill_d0a16_6 rfl 2 rfl ?_
  refine g_iload X dJ7_fill_d0a16_7 3 rfl ?_
  refine g_icmp_ge X (tgt := 22) dJ7_fill_d0a16_9 (by decide) (fun c1 => ?_) (fun c1 => ?_)
  · have h := h.1 c1
    exact g_vret X R dJ7_fill_d0a16_22 h
  · have h := h.2 c1
    refine g_aload_n X dJ7_fill_d0a16_12 rfl 0 rfl ?_
    refine g_iload_n X dJ7_fill_d0a16_13 rfl 2 rfl ?_
    refine g_lload_n X dJ7_fill_d0a16_14 rfl 1 rfl ?_
    obtain ⟨b2, h⟩ := h
    refine g_last X h0 h0_ b2 dJ7_fill_d0a16_15 ?_
    refine g_nmJ (fun J3 eJ3 => ?_)
    have h := h J3 eJ3
    obtain ⟨x4, ex4⟩ : ∃ y : Int32, y = v3 + 1 := ⟨_, rfl⟩
    have h := h x4 ex4
    refine g_iinc X (q := 2) (v := x4) (lv' := [(3, .int x4), (0, .ref (ea (zE Z) a0)), (1, .long v1), (4, .int v4)]) dJ7_fill_d0a16_16 rfl (by rw [ex4]; rfl) (by decide) rfl ?_
    refine g_goto X (tgt := 6) dJ7_fill_d0a16_19 (by decide) ?_
    refine GW.sub (lv' := [(0, .ref (ea (zE Z) a0)), (1, .long v1), (3, .int x4), (4, .int v4)]) [1, 2, 0, 3] rfl ?_
    exact hk6 v1 x4 v4 I J3 h
theorem w_J7_fill_d0a16_L6 {Z : RT} {a0 n0 : Nat} (X : Cx Z cJ7_fill_d0a16 5 RJ7 wsJ7_fill_d0a16 rmJ7_fill_d0a16 none) {Q : MI → MJ → Prop} (R : RV Z Q) (h0 : a0 < 109) (h0_ : kd a0 = (1, n0))   : ∀ (n : Nat) (v1 : Int64) (v3 : Int32) (v4 : Int32) (I : MI) (J : MJ) (h : vc_J7_fill_d0a16_L6 a0 n0 Q  n v1 v3 v4 I J), GW Z 5 I J 6 [(0, .ref (ea (zE Z) a0)), (1, .long v1), (3, .int v3), (4, .int v4)] [] := by
  intro n
  induction n with
  | zero => intro v1 v3 v4 I J h; exact h.elim
  | succ n ih => intro v1 v3 v4 I J h; exact w_J7_fill_d0a16_L6s X R h0 h0_  ih v1 v3 v4 I J h
def vc_J7_fill_d0a16 (a0 n0 : Nat) (p1 : Int64) (I : MI) (J : MJ) (Q : MI → MJ → Prop) : Prop := ∀ x5 : Int32, x5 = Int32.ofNat n0 → (∃ n, vc_J7_fill_d0a16_L6 a0 n0 Q  n p1 0 x5 I J)
set_option maxRecDepth 100000 in
set_option maxHeartbeats 4000000 in
theorem c_J7_fill_d0a16 (l : Launch) (E : ET) {a0 n0 : Nat} (h0 : a0 < 109) (h0_ : kd a0 = (1, n0)) (p1 : Int64) : CV l yJ7_fill_d0a16 wsJ7_fill_d0a16 rmJ7_fill_d0a16 E [.ref (ea E a0), .long p1] (vc_J7_fill_d0a16 a0 n0 p1) := by
  refine CV.of (cc := cJ7_fill_d0a16) (maxL := 5) (own := RJ7) (by decide) rfl rfl (Nat.le_of_ble_eq_true rfl) ?_
  intro Z I J Q hE hl X R h
  subst hE
  subst hl
  show GW Z 5 I J 0 [(0, .ref (ea (zE Z) a0)), (1, .long p1)] []
  refine g_iconst X (v := 0) dJ7_fill_d0a16_0 (by decide) ?_
  refine g_istore_n X (lv' := [(3, .int 0), (0, .ref (ea (zE Z) a0)), (1, .long p1)]) dJ7_fill_d0a16_1 rfl (by decide) rfl ?_
  refine g_aload_n X dJ7_fill_d0a16_2 rfl 1 rfl ?_
  refine g_alenJ X h0 h0_ (v := Int32.ofNat n0) (by rfl) dJ7_fill_d0a16_3 ?_
  refine g_topi (fun x5 ex5 => ?_)
  have h := h x5 ex5
  refine g_istore X (lv' := [(4, .int x5), (3, .int 0), (0, .ref (ea (zE Z) a0)), (1, .long p1)]) dJ7_fill_d0a16_4 (by decide) rfl ?_
  refine GW.sub (lv' := [(0, .ref (ea (zE Z) a0)), (1, .long p1), (3, .int 0), (4, .int x5)]) [2, 3, 1, 0] rfl ?_
  obtain ⟨n, h⟩ := h
  exact w_J7_fill_d0a16_L6 X R h0 h0_  n p1 0 x5 I J h

/-! J7_fill_53178.fill([II)V -/
def rmJ7_fill_53178 : Room := { frames := 0, cells := 0, slots := 0, locals := 0 }
theorem yo_J7_fill_53178 : yJ7_fill_53178.cls = RJ7 ∧ yJ7_fill_53178.cls ≠ "java/lang/invoke/MethodHandle" ∧ yJ7_fill_53178.cls ≠ "java/lang/invoke/VarHandle" ∧ (parseMethodDescriptor yJ7_fill_53178.desc).map (fun d => d.parameters.length) = some 2 := by decide +kernel
def vc_J7_fill_53178_L5s (a0 n0 : Nat) (Q : MI → MJ → Prop)  (k5 : Int32 → Int32 → Int32 → MI → MJ → Prop) (v1 : Int32) (v2 : Int32) (v3 : Int32) (I : MI) (J : MJ) : Prop := ((v3 ≤ v2 → Q I J) ∧ (¬ v3 ≤ v2 → vp_in v2 n0 ∧ ∀ I3 : MI, I3 = wI I a0 (Int32.toNatClampNeg v2) v1 → ∀ x4 : Int32, x4 = v2 + 1 → k5 v1 x4 v3 I3 J))
def vc_J7_fill_53178_L5 (a0 n0 : Nat) (Q : MI → MJ → Prop)  (n : Nat) : Int32 → Int32 → Int32 → MI → MJ → Prop := Nat.rec (fun _ _ _ _ _ => False) (fun _ ih => vc_J7_fill_53178_L5s a0 n0 Q  ih) n
set_option maxRecDepth 100000 in
set_option maxHeartbeats 4000000 in
theorem w_J7_fill_53178_L5s {Z : RT} {a0 n0 : Nat} (X : Cx Z cJ7_fill_53178 4 RJ7 wsJ7_fill_53178 rmJ7_fill_53178 none) {Q : MI → MJ → Prop} (R : RV Z Q) (h0 : a0 < 109) (h0_ : kd a0 = (0, n0))   {k5 : Int32 → Int32 → Int32 → MI → MJ → Prop} (hk5 : ∀ (v1 : Int32) (v2 : Int32) (v3 : Int32) (I : MI) (J : MJ), k5 v1 v2 v3 I J → GW Z 4 I J 5 [(0, .ref (ea (zE Z) a0)), (1, .int v1), (2, .int v2), (3, .int v3)] []) (v1 : Int32) (v2 : Int32) (v3 : Int32) (I : MI) (J : MJ) (h : vc_J7_fill_53178_L5s a0 n0 Q  k5 v1 v2 v3 I J) : GW Z 4 I J 5 [(0, .ref (ea (zE Z) a0)), (1, .int v1), (2, .int v2), (3, .int v3)] [] := by
  refine g_iload_n X dJ7_fill_53178_5 rfl 2 rfl ?_
  refine g_iload_n X dJ7_fill_53178_6 rfl 3 rfl ?_
  refine g_icmp_ge X (tgt := 20) dJ7_fill_53178_7 (by decide) (fun c1 => ?_) (fun c1 => ?_)
  · have h := h.1 c1
    exact g_vret X R dJ7_fill_53178_20 h
  · have h := h.2 c1
    refine g_aload_n X dJ7_fill_53178_10 rfl 0 rfl ?_
    refine g_iload_n X dJ7_fill_53178_11 rfl 2 rfl ?_
    refine g_iload_n X dJ7_fill_53178_12 rfl 1 rfl ?_
    obtain ⟨b2, h⟩ := h
    refine g_iast X h0 h0_ b2 dJ7_fill_53178_13 ?_
    refine g_nmI (fun I3 eI3 => ?_)
    have h := h I3 eI3
    obtain ⟨x4, ex4⟩ : ∃ y : Int32, y = v2 + 1 := ⟨_, rfl⟩
    have h := h x4 ex4
    refine g_iinc X (q := 2) (v := x4) (lv' := [(2, .int x4), (0, .ref (ea (zE Z) a0)), (1, .int v1), (3, .int v3)]) dJ7_fill_53178_14 rfl (by rw [ex4]; rfl) (by decide) rfl ?_
    refine g_goto X (tgt := 5) dJ7_fill_53178_17 (by decide) ?_
    refine GW.sub (lv' := [(0, .ref (ea (zE Z) a0)), (1, .int v1), (2, .int x4), (3, .int v3)]) [1, 2, 0, 3] rfl ?_
    exact hk5 v1 x4 v3 I3 J h
theorem w_J7_fill_53178_L5 {Z : RT} {a0 n0 : Nat} (X : Cx Z cJ7_fill_53178 4 RJ7 wsJ7_fill_53178 rmJ7_fill_53178 none) {Q : MI → MJ → Prop} (R : RV Z Q) (h0 : a0 < 109) (h0_ : kd a0 = (0, n0))   : ∀ (n : Nat) (v1 : Int32) (v2 : Int32) (v3 : Int32) (I : MI) (J : MJ) (h : vc_J7_fill_53178_L5 a0 n0 Q  n v1 v2 v3 I J), GW Z 4 I J 5 [(0, .ref (ea (zE Z) a0)), (1, .int v1), (2, .int v2), (3, .int v3)] [] := by
  intro n
  induction n with
  | zero => intro v1 v2 v3 I J h; exact h.elim
  | succ n ih => intro v1 v2 v3 I J h; exact w_J7_fill_53178_L5s X R h0 h0_  ih v1 v2 v3 I J h
def vc_J7_fill_53178 (a0 n0 : Nat) (p1 : Int32) (I : MI) (J : MJ) (Q : MI → MJ → Prop) : Prop := ∀ x5 : Int32, x5 = Int32.ofNat n0 → (∃ n, vc_J7_fill_53178_L5 a0 n0 Q  n p1 0 x5 I J)
set_option maxRecDepth 100000 in
set_option maxHeartbeats 4000000 in
theorem c_J7_fill_53178 (l : Launch) (E : ET) {a0 n0 : Nat} (h0 : a0 < 109) (h0_ : kd a0 = (0, n0)) (p1 : Int32) : CV l yJ7_fill_53178 wsJ7_fill_53178 rmJ7_fill_53178 E [.ref (ea E a0), .int p1] (vc_J7_fill_53178 a0 n0 p1) := by
  refine CV.of (cc := cJ7_fill_53178) (maxL := 4) (own := RJ7) (by decide) rfl rfl (Nat.le_of_ble_eq_true rfl) ?_
  intro Z I J Q hE hl X R h
  subst hE
  subst hl
  show GW Z 4 I J 0 [(0, .ref (ea (zE Z) a0)), (1, .int p1)] []
  refine g_iconst X (v := 0) dJ7_fill_53178_0 (by decide) ?_
  refine g_istore_n X (lv' := [(2, .int 0), (0, .ref (ea (zE Z) a0)), (1, .int p1)]) dJ7_fill_53178_1 rfl (by decide) rfl ?_
  refine g_aload_n X dJ7_fill_53178_2 rfl 1 rfl ?_
  refine g_alen X h0 h0_ (v := Int32.ofNat n0) (by rfl) dJ7_fill_53178_3 ?_
  refine g_topi (fun x5 ex5 => ?_)
  have h := h x5 ex5
  refine g_istore_n X (lv' := [(3, .int x5), (2, .int 0), (0, .ref (ea (zE Z) a0)), (1, .int p1)]) dJ7_fill_53178_4 rfl (by decide) rfl ?_
  refine GW.sub (lv' := [(0, .ref (ea (zE Z) a0)), (1, .int p1), (2, .int 0), (3, .int x5)]) [2, 3, 1, 0] rfl ?_
  obtain ⟨n, h⟩ := h
  exact w_J7_fill_53178_L5 X R h0 h0_  n p1 0 x5 I J h

/-! X10_within.within(III)Z -/
def rmX10_within : Room := { frames := 0, cells := 0, slots := 0, locals := 0 }
theorem yo_X10_within : yX10_within.cls = RX10 ∧ yX10_within.cls ≠ "java/lang/invoke/MethodHandle" ∧ yX10_within.cls ≠ "java/lang/invoke/VarHandle" ∧ (parseMethodDescriptor yX10_within.desc).map (fun d => d.parameters.length) = some 3 := by decide +kernel
def vc_X10_within (p0 : Int32) (p1 : Int32) (p2 : Int32) (I : MI) (J : MJ) (Q : Int32 → MI → MJ → Prop) : Prop := ((p0 < p1 → Q 0 I J) ∧ (¬ p0 < p1 → ((p2 < p0 → Q 0 I J) ∧ (¬ p2 < p0 → Q 1 I J))))
set_option maxRecDepth 100000 in
set_option maxHeartbeats 4000000 in
theorem c_X10_within (l : Launch) (E : ET)  (p0 : Int32) (p1 : Int32) (p2 : Int32) : CI l yX10_within wsX10_within rmX10_within E [.int p0, .int p1, .int p2] (vc_X10_within p0 p1 p2) := by
  refine CI.of (cc := cX10_within) (maxL := 3) (own := RX10) (by decide) rfl rfl (Nat.le_of_ble_eq_true rfl) ?_
  intro Z I J Q hE hl X R h
  subst hE
  subst hl
  show GW Z 3 I J 0 [(0, .int p0), (1, .int p1), (2, .int p2)] []
  refine g_iload_n X dX10_within_0 rfl 0 rfl ?_
  refine g_iload_n X dX10_within_1 rfl 1 rfl ?_
  refine g_icmp_lt X (tgt := 14) dX10_within_2 (by decide) (fun c1 => ?_) (fun c1 => ?_)
  · have h := h.1 c1
    refine g_iconst X (v := 0) dX10_within_14 (by decide) ?_
    exact g_zret X R (by decide) dX10_within_15 h
  · have h := h.2 c1
    refine g_iload_n X dX10_within_5 rfl 0 rfl ?_
    refine g_iload_n X dX10_within_6 rfl 2 rfl ?_
    refine g_icmp_gt X (tgt := 14) dX10_within_7 (by decide) (fun c2 => ?_) (fun c2 => ?_)
    · have h := h.1 c2
      refine g_iconst X (v := 0) dX10_within_14 (by decide) ?_
      exact g_zret X R (by decide) dX10_within_15 h
    · have h := h.2 c2
      refine g_iconst X (v := 1) dX10_within_10 (by decide) ?_
      refine g_goto X (tgt := 15) dX10_within_11 (by decide) ?_
      exact g_zret X R (by decide) dX10_within_15 h
