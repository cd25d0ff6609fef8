/-! X5_clear.clear()V -/
def rmX5_clear : Room := { frames := 1, cells := 0, slots := 0, locals := 24 }
theorem yo_X5_clear : yX5_clear.cls = RX5 ∧ yX5_clear.cls ≠ "java/lang/invoke/MethodHandle" ∧ yX5_clear.cls ≠ "java/lang/invoke/VarHandle" ∧ (parseMethodDescriptor yX5_clear.desc).map (fun d => d.parameters.length) = some 0 := by decide +kernel
theorem kX5_clear_13 : Cond.fieldLink RX5 13 "SnowCourse$Reach" (TX5 0).2.1 (TX5 0).2.2.1 ∈ wsX5_clear := by decide +kernel
theorem iX5_clear_X5 : ∀ w ∈ u_ws RX5 TX5 1, w ∈ wsX5_clear := by decide +kernel
def vc_X5_clear (a0 : Nat) (I : MI) (J : MJ) (Q : MI → MJ → Prop) : Prop := vc_J7_fill_d0a16 (a0 + 1) 700 0 I J (fun (I1 : MI) (J2 : MJ) => Q I1 J2)
set_option maxRecDepth 100000 in
set_option maxHeartbeats 4000000 in
theorem c_X5_clear (l : Launch) (E : ET) {a0 : Nat} (h0 : isRe a0) : CV l yX5_clear wsX5_clear rmX5_clear E [.ref (ea E a0)] (vc_X5_clear a0) := by
  refine CV.of (cc := cX5_clear) (maxL := 1) (own := RX5) (by decide) rfl rfl (Nat.le_of_ble_eq_true rfl) ?_
  intro Z I J Q hE hl X R h
  subst hE
  subst hl
  show GW Z 1 I J 0 [(0, .ref (ea (zE Z) a0))] []
  refine g_aload_n X dX5_clear_0 rfl 0 rfl ?_
  refine g_getr X (C := RX5) (T := TX5) (N := 1) (ci := 3) (k := 0) iX5_clear_X5 rfl kX5_clear_13 (h0).lt0 (h0).o (by decide) rfl rfl dX5_clear_1 ?_
  refine g_lconst X (v := 0) dX5_clear_4 (by decide) ?_
  refine g_callSV X (As := [.ref (ea (zE Z) (a0 + 1)), .long 0]) (rest := []) (c_J7_fill_d0a16 (zl Z) (zE Z) (h0).lt1 (h0).l 0) gX5_clear_J7_fill_d0a16 yo_J7_fill_d0a16.2 rfl ⟨Nat.le_of_ble_eq_true rfl, Nat.le_of_ble_eq_true rfl⟩ rfl dX5_clear_5 h (fun  I1 J2 h => ?_)
  exact g_vret X R dX5_clear_8 h

/-! X5_mark.mark(III)V -/
def rmX5_mark : Room := { frames := 0, cells := 0, slots := 0, locals := 0 }
theorem yo_X5_mark : yX5_mark.cls = RX5 ∧ yX5_mark.cls ≠ "java/lang/invoke/MethodHandle" ∧ yX5_mark.cls ≠ "java/lang/invoke/VarHandle" ∧ (parseMethodDescriptor yX5_mark.desc).map (fun d => d.parameters.length) = some 3 := by decide +kernel
theorem kX5_mark_13 : Cond.fieldLink RX5 13 "SnowCourse$Reach" (TX5 0).2.1 (TX5 0).2.2.1 ∈ wsX5_mark := by decide +kernel
theorem iX5_mark_X5 : ∀ w ∈ u_ws RX5 TX5 1, w ∈ wsX5_mark := by decide +kernel
def vc_X5_mark (a0 : Nat) (p1 : Int32) (p2 : Int32) (p3 : Int32) (I : MI) (J : MJ) (Q : MI → MJ → Prop) : Prop := vp_in ((p1 * 100) + p3) 700 ∧ vp_in ((p1 * 100) + p3) 700 ∧ ∀ J3 : MJ, J3 = wJ J (a0 + 1) (Int32.toNatClampNeg ((p1 * 100) + p3)) ((J (a0 + 1) (Int32.toNatClampNeg ((p1 * 100) + p3))) ||| (1 <<< (Int32.toInt64 p2 &&& 63))) → Q I J3
set_option maxRecDepth 100000 in
set_option maxHeartbeats 4000000 in
theorem c_X5_mark (l : Launch) (E : ET) {a0 : Nat} (h0 : isRe a0) (p1 : Int32) (p2 : Int32) (p3 : Int32) : CV l yX5_mark wsX5_mark rmX5_mark E [.ref (ea E a0), .int p1, .int p2, .int p3] (vc_X5_mark a0 p1 p2 p3) := by
  refine CV.of (cc := cX5_mark) (maxL := 4) (own := RX5) (by decide) rfl rfl (Nat.le_of_ble_eq_true rfl) ?_
  intro Z I J Q hE hl X R h
  subst hE
  subst hl
  show GW Z 4 I J 0 [(0, .ref (ea (zE Z) a0)), (1, .int p1), (2, .int p2), (3, .int p3)] []
  refine g_aload_n X dX5_mark_0 rfl 0 rfl ?_
  refine g_getr X (C := RX5) (T := TX5) (N := 1) (ci := 3) (k := 0) iX5_mark_X5 rfl kX5_mark_13 (h0).lt0 (h0).o (by decide) rfl rfl dX5_mark_1 ?_
  refine g_iload_n X dX5_mark_4 rfl 1 rfl ?_
  refine g_bipush X (v := 100) dX5_mark_5 (by decide) ?_
  refine g_imul X dX5_mark_7 ?_
  refine g_iload_n X dX5_mark_8 rfl 3 rfl ?_
  refine g_iadd X dX5_mark_9 ?_
  refine g_dup2 X dX5_mark_10 rfl rfl ?_
  obtain ⟨b1, h⟩ := h
  refine g_lald X (h0).lt1 (h0).l b1 dX5_mark_11 ?_
  refine g_lconst X (v := 1) dX5_mark_12 (by decide) ?_
  refine g_iload_n X dX5_mark_13 rfl 2 rfl ?_
  refine g_lshl X dX5_mark_14 ?_
  refine g_lor X dX5_mark_15 ?_
  obtain ⟨b2, h⟩ := h
  refine g_last X (h0).lt1 (h0).l b2 dX5_mark_16 ?_
  refine g_nmJ (fun J3 eJ3 => ?_)
  have h := h J3 eJ3
  exact g_vret X R dX5_mark_17 h

/-! X5_isAnywhere.isAnywhere(I)Z -/
def rmX5_isAnywhere : Room := { frames := 0, cells := 0, slots := 0, locals := 0 }
theorem yo_X5_isAnywhere : yX5_isAnywhere.cls = RX5 ∧ yX5_isAnywhere.cls ≠ "java/lang/invoke/MethodHandle" ∧ yX5_isAnywhere.cls ≠ "java/lang/invoke/VarHandle" ∧ (parseMethodDescriptor yX5_isAnywhere.desc).map (fun d => d.parameters.length) = some 1 := by decide +kernel
theorem kX5_isAnywhere_13 : Cond.fieldLink RX5 13 "SnowCourse$Reach" (TX5 0).2.1 (TX5 0).2.2.1 ∈ wsX5_isAnywhere := by decide +kernel
theorem iX5_isAnywhere_X5 : ∀ w ∈ u_ws RX5 TX5 1, w ∈ wsX5_isAnywhere := by decide +kernel
def vc_X5_isAnywhere_L5s (a0 : Nat) (Q : Int32 → MI → MJ → Prop)  (k5 : Int32 → Int64 → Int32 → MI → MJ → Prop) (v1 : Int32) (v2 : Int64) (v4 : Int32) (I : MI) (J : MJ) : Prop := ((7 ≤ v4 → (((lg_cmp v2 0) = 0 → Q 0 I J) ∧ (¬ (lg_cmp v2 0) = 0 → Q 1 I J))) ∧ (¬ 7 ≤ v4 → vp_in ((v4 * 100) + v1) 700 ∧ ∀ x4 : Int64, x4 = v2 ||| (J (a0 + 1) (Int32.toNatClampNeg ((v4 * 100) + v1))) → ∀ x5 : Int32, x5 = v4 + 1 → k5 v1 x4 x5 I J))
def vc_X5_isAnywhere_L5 (a0 : Nat) (Q : Int32 → MI → MJ → Prop)  (n : Nat) : Int32 → Int64 → Int32 → MI → MJ → Prop := Nat.rec (fun _ _ _ _ _ => False) (fun _ ih => vc_X5_isAnywhere_L5s a0 Q  ih) n
set_option maxRecDepth 100000 in
set_option maxHeartbeats 4000000 in
theorem w_X5_isAnywhere_L5s {Z : RT} {a0 : Nat} (X : Cx Z cX5_isAnywhere 5 RX5 wsX5_isAnywhere rmX5_isAnywhere (some .boolean)) {Q : Int32 → MI → MJ → Prop} (R : RI Z Q) (h0 : isRe a0)   {k5 : Int32 → Int64 → Int32 → MI → MJ → Prop} (hk5 : ∀ (v1 : Int32) (v2 : Int64) (v4 : Int32) (I : MI) (J : MJ), k5 v1 v2 v4 I J → GW Z 5 I J 5 [(0, .ref (ea (zE Z) a0)), (1, .int v1), (2, .long v2), (4, .int v4)] []) (v1 : Int32) (v2 : Int64) (v4 : Int32) (I : MI) (J : MJ) (h : vc_X5_isAnywhere_L5s a0 Q  k5 v1 v2 v4 I J) : GW Z 5 I J 5 [(0, .ref (ea (zE Z) a0)), (1, .int v1), (2, .long v2), (4, .int v4)] [] := by
  refine g_iload X dX5_isAnywhere_5 3 rfl ?_
  refine g_bipush X (v := 7) dX5_isAnywhere_7 (by decide) ?_
  refine g_icmp_ge X (tgt := 33) dX5_isAnywhere_9 (by decide) (fun c1 => ?_) (fun c1 => ?_)
  · have h := h.1 c1
    refine g_lload_n X dX5_isAnywhere_33 rfl 2 rfl ?_
    refine g_lconst X (v := 0) dX5_isAnywhere_34 (by decide) ?_
    refine g_lcmp X dX5_isAnywhere_35 ?_
    refine g_if_eq X (tgt := 43) dX5_isAnywhere_36 (by decide) (fun c2 => ?_) (fun c2 => ?_)
    · have h := h.1 c2
      refine g_iconst X (v := 0) dX5_isAnywhere_43 (by decide) ?_
      exact g_zret X R (by decide) dX5_isAnywhere_44 h
    · have h := h.2 c2
      refine g_iconst X (v := 1) dX5_isAnywhere_39 (by decide) ?_
      refine g_goto X (tgt := 44) dX5_isAnywhere_40 (by decide) ?_
      exact g_zret X R (by decide) dX5_isAnywhere_44 h
  · have h := h.2 c1
    refine g_lload_n X dX5_isAnywhere_12 rfl 2 rfl ?_
    refine g_aload_n X dX5_isAnywhere_13 rfl 0 rfl ?_
    refine g_getr X (C := RX5) (T := TX5) (N := 1) (ci := 3) (k := 0) iX5_isAnywhere_X5 rfl kX5_isAnywhere_13 (h0).lt0 (h0).o (by decide) rfl rfl dX5_isAnywhere_14 ?_
    refine g_iload X dX5_isAnywhere_17 3 rfl ?_
    refine g_bipush X (v := 100) dX5_isAnywhere_19 (by decide) ?_
    refine g_imul X dX5_isAnywhere_21 ?_
    refine g_iload_n X dX5_isAnywhere_22 rfl 1 rfl ?_
    refine g_iadd X dX5_isAnywhere_23 ?_
    obtain ⟨b3, h⟩ := h
    refine g_lald X (h0).lt1 (h0).l b3 dX5_isAnywhere_24 ?_
    refine g_lor X dX5_isAnywhere_25 ?_
    refine g_topl (fun x4 ex4 => ?_)
    have h := h x4 ex4
    refine g_lstore_n X (lv' := [(2, .long x4), (0, .ref (ea (zE Z) a0)), (1, .int v1), (4, .int v4)]) dX5_isAnywhere_26 rfl (by decide) rfl ?_
    obtain ⟨x5, ex5⟩ : ∃ y : Int32, y = v4 + 1 := ⟨_, rfl⟩
    have h := h x5 ex5
    refine g_iinc X (q := 3) (v := x5) (lv' := [(4, .int x5), (2, .long x4), (0, .ref (ea (zE Z) a0)), (1, .int v1)]) dX5_isAnywhere_27 rfl (by rw [ex5]; rfl) (by decide) rfl ?_
    refine g_goto X (tgt := 5) dX5_isAnywhere_30 (by decide) ?_
    refine GW.sub (lv' := [(0, .ref (ea (zE Z) a0)), (1, .int v1), (2, .long x4), (4, .int x5)]) [2, 3, 1, 0] rfl ?_
    exact hk5 v1 x4 x5 I J h
theorem w_X5_isAnywhere_L5 {Z : RT} {a0 : Nat} (X : Cx Z cX5_isAnywhere 5 RX5 wsX5_isAnywhere rmX5_isAnywhere (some .boolean)) {Q : Int32 → MI → MJ → Prop} (R : RI Z Q) (h0 : isRe a0)   : ∀ (n : Nat) (v1 : Int32) (v2 : Int64) (v4 : Int32) (I : MI) (J : MJ) (h : vc_X5_isAnywhere_L5 a0 Q  n v1 v2 v4 I J), GW Z 5 I J 5 [(0, .ref (ea (zE Z) a0)), (1, .int v1), (2, .long v2), (4, .int v4)] [] := by
  intro n
  induction n with
  | zero => intro v1 v2 v4 I J h; exact h.elim
  | succ n ih => intro v1 v2 v4 I J h; exact w_X5_isAnywhere_L5s X R h0  ih v1 v2 v4 I J h
def vc_X5_isAnywhere (a0 : Nat) (p1 : Int32) (I : MI) (J : MJ) (Q : Int32 → MI → MJ → Prop) : Prop := (∃ n, vc_X5_isAnywhere_L5 a0 Q  n p1 0 0 I J)
set_option maxRecDepth 100000 in
set_option maxHeartbeats 4000000 in
theorem c_X5_isAnywhere (l : Launch) (E : ET) {a0 : Nat} (h0 : isRe a0) (p1 : Int32) : CI l yX5_isAnywhere wsX5_isAnywhere rmX5_isAnywhere E [.ref (ea E a0), .int p1] (vc_X5_isAnywhere a0 p1) := by
  refine CI.of (cc := cX5_isAnywhere) (maxL := 5) (own := RX5) (by decide) rfl rfl (Nat.le_of_ble_eq_true rfl) ?_
  intro Z I J Q hE hl X R h
  subst hE
  subst hl
  show GW Z 5 I J 0 [(0, .ref (ea (zE Z) a0)), (1, .int p1)] []
  refine g_lconst X (v := 0) dX5_isAnywhere_0 (by decide) ?_
  refine g_lstore_n X (lv' := [(2, .long 0), (0, .ref (ea (zE Z) a0)), (1, .int p1)]) dX5_isAnywhere_1 rfl (by decide) rfl ?_
  refine g_iconst X (v := 0) dX5_isAnywhere_2 (by decide) ?_
  refine g_istore X (lv' := [(4, .int 0), (2, .long 0), (0, .ref (ea (zE Z) a0)), (1, .int p1)]) dX5_isAnywhere_3 (by decide) rfl ?_
  refine GW.sub (lv' := [(0, .ref (ea (zE Z) a0)), (1, .int p1), (2, .long 0), (4, .int 0)]) [2, 3, 1, 0] rfl ?_
  obtain ⟨n, h⟩ := h
  exact w_X5_isAnywhere_L5 X R h0  n p1 0 0 I J h

/-! X5_leave.leave(LSnowCourse$Country;IIIII)V -/
def rmX5_leave : Room := { frames := 3, cells := 0, slots := 0, locals := 80 }
theorem yo_X5_leave : yX5_leave.cls = RX5 ∧ yX5_leave.cls ≠ "java/lang/invoke/MethodHandle" ∧ yX5_leave.cls ≠ "java/lang/invoke/VarHandle" ∧ (parseMethodDescriptor yX5_leave.desc).map (fun d => d.parameters.length) = some 6 := by decide +kernel
theorem kX5_leave_43 : Cond.fieldLink RX5 43 "SnowCourse$Country" (TX1 9).2.1 (TX1 9).2.2.1 ∈ wsX5_leave := by decide +kernel
theorem iX5_leave_X1 : ∀ w ∈ u_ws RX1 TX1 12, w ∈ wsX5_leave := by decide +kernel
theorem kX5_leave_46 : Cond.fieldLink RX5 46 "SnowCourse$Country" (TX1 4).2.1 (TX1 4).2.2.1 ∈ wsX5_leave := by decide +kernel
def vc_X5_leave_L23s (a0 : Nat) (Q : MI → MJ → Prop)  (k23 : Int32 → Int32 → Int32 → Int32 → Int32 → Int32 → MI → MJ → Prop) (v2 : Int32) (v3 : Int32) (v4 : Int32) (v5 : Int32) (v6 : Int32) (v7 : Int32) (I : MI) (J : MJ) : Prop := (((I 5 9) ≤ v7 → Q I J) ∧ (¬ (I 5 9) ≤ v7 → vp_in v7 9 ∧ ∀ x3 : Int32, x3 = v3 + (I 10 (Int32.toNatClampNeg v7)) → vc_X1_touches v7 v2 I J (fun (r6 : Int32) (I4 : MI) (J5 : MJ) => ((r6 = 0 → ∀ x8 : Int32, x8 = v7 + 1 → k23 v2 v3 v4 v5 v6 x8 I4 J5) ∧ (¬ r6 = 0 → ((48 < x3 → ∀ x10 : Int32, x10 = v7 + 1 → k23 v2 v3 v4 v5 v6 x10 I4 J5) ∧ (¬ 48 < x3 → vc_X1_farEnd v7 v2 I4 J5 (fun (r13 : Int32) (I11 : MI) (J12 : MJ) => vc_X1_afterRoad v7 v4 v3 v5 v6 I11 J12 (fun (r16 : Int32) (I14 : MI) (J15 : MJ) => vc_X5_mark a0 r13 x3 r16 I14 J15 (fun (I17 : MI) (J18 : MJ) => ∀ x19 : Int32, x19 = v7 + 1 → k23 v2 v3 v4 v5 v6 x19 I17 J18))))))))))
def vc_X5_leave_L23 (a0 : Nat) (Q : MI → MJ → Prop)  (n : Nat) : Int32 → Int32 → Int32 → Int32 → Int32 → Int32 → MI → MJ → Prop := Nat.rec (fun _ _ _ _ _ _ _ _ => False) (fun _ ih => vc_X5_leave_L23s a0 Q  ih) n
set_option maxRecDepth 100000 in
set_option maxHeartbeats 4000000 in
theorem w_X5_leave_L23s {Z : RT} {a0 : Nat} (X : Cx Z cX5_leave 9 RX5 wsX5_leave rmX5_leave none) {Q : MI → MJ → Prop} (R : RV Z Q) (h0 : isRe a0)   {k23 : Int32 → Int32 → Int32 → Int32 → Int32 → Int32 → MI → MJ → Prop} (hk23 : ∀ (v2 : Int32) (v3 : Int32) (v4 : Int32) (v5 : Int32) (v6 : Int32) (v7 : Int32) (I : MI) (J : MJ), k23 v2 v3 v4 v5 v6 v7 I J → GW Z 9 I J 23 [(0, .ref (ea (zE Z) a0)), (1, .ref (ea (zE Z) 5)), (2, .int v2), (3, .int v3), (4, .int v4), (5, .int v5), (6, .int v6), (7, .int v7)] []) (v2 : Int32) (v3 : Int32) (v4 : Int32) (v5 : Int32) (v6 : Int32) (v7 : Int32) (I : MI) (J : MJ) (h : vc_X5_leave_L23s a0 Q  k23 v2 v3 v4 v5 v6 v7 I J) : GW Z 9 I J 23 [(0, .ref (ea (zE Z) a0)), (1, .ref (ea (zE Z) 5)), (2, .int v2), (3, .int v3), (4, .int v4), (5, .int v5), (6, .int v6), (7, .int v7)] [] := by
  refine g_iload X dX5_leave_23 7 rfl ?_
  refine g_aload_n X dX5_leave_25 rfl 1 rfl ?_
  refine g_geti X (C := RX1) (T := TX1) (N := 12) (ci := 1) (k := 9) iX5_leave_X1 rfl kX5_leave_43 (Nat.le_of_ble_eq_true rfl) rfl (by decide) rfl rfl dX5_leave_26 ?_
  refine g_icmp_ge X (tgt := 92) dX5_leave_29 (by decide) (fun c1 => ?_) (fun c1 => ?_)
  · have h := h.1 c1
    exact g_vret X R dX5_leave_92 h
  · have h := h.2 c1
    refine g_iload_n X dX5_leave_32 rfl 3 rfl ?_
    refine g_aload_n X dX5_leave_33 rfl 1 rfl ?_
    refine g_getr X (C := RX1) (T := TX1) (N := 12) (ci := 1) (k := 4) iX5_leave_X1 rfl kX5_leave_46 (Nat.le_of_ble_eq_true rfl) rfl (by decide) rfl rfl dX5_leave_34 ?_
    refine g_iload X dX5_leave_37 7 rfl ?_
    obtain ⟨b2, h⟩ := h
    refine g_iald X (Nat.le_of_ble_eq_true rfl) rfl b2 dX5_leave_39 ?_
    refine g_iadd X dX5_leave_40 ?_
    refine g_topi (fun x3 ex3 => ?_)
    have h := h x3 ex3
    refine g_istore X (lv' := [(8, .int x3), (0, .ref (ea (zE Z) a0)), (1, .ref (ea (zE Z) 5)), (2, .int v2), (3, .int v3), (4, .int v4), (5, .int v5), (6, .int v6), (7, .int v7)]) dX5_leave_41 (by decide) rfl ?_
    refine g_aload_n X dX5_leave_43 rfl 2 rfl ?_
    refine g_iload X dX5_leave_44 8 rfl ?_
    refine g_iload_n X dX5_leave_46 rfl 3 rfl ?_
    refine g_callVI X (As := [.int v7, .int v2]) (rest := []) (T := TX1) (N := 12) (c_X1_touches (zl Z) (zE Z) v7 v2) gX5_leave_X1_touches yo_X1_touches rfl ⟨Nat.le_of_ble_eq_true rfl, Nat.le_of_ble_eq_true rfl⟩ (Nat.le_of_ble_eq_true rfl) rfl rfl rfl dX5_leave_47 h (fun r6 I4 J5 h => ?_)
    refine g_if_eq X (tgt := 86) dX5_leave_50 (by decide) (fun c7 => ?_) (fun c7 => ?_)
    · have h := h.1 c7
      obtain ⟨x8, ex8⟩ : ∃ y : Int32, y = v7 + 1 := ⟨_, rfl⟩
      have h := h x8 ex8
      refine g_iinc X (q := 8) (v := x8) (lv' := [(7, .int x8), (8, .int x3), (0, .ref (ea (zE Z) a0)), (1, .ref (ea (zE Z) 5)), (2, .int v2), (3, .int v3), (4, .int v4), (5, .int v5), (6, .int v6)]) dX5_leave_86 rfl (by rw [ex8]; rfl) (by decide) rfl ?_
      refine g_goto X (tgt := 23) dX5_leave_89 (by decide) ?_
      refine GW.sub (lv' := [(0, .ref (ea (zE Z) a0)), (1, .ref (ea (zE Z) 5)), (2, .int v2), (3, .int v3), (4, .int v4), (5, .int v5), (6, .int v6), (7, .int x8)]) [2, 3, 4, 5, 6, 7, 8, 0] rfl ?_
      exact hk23 v2 v3 v4 v5 v6 x8 I4 J5 h
    · have h := h.2 c7
      refine g_iload X dX5_leave_53 0 rfl ?_
      refine g_bipush X (v := 48) dX5_leave_55 (by decide) ?_
      refine g_icmp_gt X (tgt := 86) dX5_leave_57 (by decide) (fun c9 => ?_) (fun c9 => ?_)
      · have h := h.1 c9
        obtain ⟨x10, ex10⟩ : ∃ y : Int32, y = v7 + 1 := ⟨_, rfl⟩
        have h := h x10 ex10
        refine g_iinc X (q := 8) (v := x10) (lv' := [(7, .int x10), (8, .int x3), (0, .ref (ea (zE Z) a0)), (1, .ref (ea (zE Z) 5)), (2, .int v2), (3, .int v3), (4, .int v4), (5, .int v5), (6, .int v6)]) dX5_leave_86 rfl (by rw [ex10]; rfl) (by decide) rfl ?_
        refine g_goto X (tgt := 23) dX5_leave_89 (by decide) ?_
        refine GW.sub (lv' := [(0, .ref (ea (zE Z) a0)), (1, .ref (ea (zE Z) 5)), (2, .int v2), (3, .int v3), (4, .int v4), (5, .int v5), (6, .int v6), (7, .int x10)]) [2, 3, 4, 5, 6, 7, 8, 0] rfl ?_
        exact hk23 v2 v3 v4 v5 v6 x10 I4 J5 h
      · have h := h.2 c9
        refine g_aload_n X dX5_leave_60 rfl 1 rfl ?_
        refine g_aload_n X dX5_leave_61 rfl 2 rfl ?_
        refine g_iload X dX5_leave_62 8 rfl ?_
        refine g_iload_n X dX5_leave_64 rfl 3 rfl ?_
        refine g_callVI X (As := [.int v7, .int v2]) (rest := [.ref (ea (zE Z) a0)]) (T := TX1) (N := 12) (c_X1_farEnd (zl Z) (zE Z) v7 v2) gX5_leave_X1_farEnd yo_X1_farEnd rfl ⟨Nat.le_of_ble_eq_true rfl, Nat.le_of_ble_eq_true rfl⟩ (Nat.le_of_ble_eq_true rfl) rfl rfl rfl dX5_leave_65 h (fun r13 I11 J12 h => ?_)
        refine g_iload X dX5_leave_68 0 rfl ?_
        refine g_aload_n X dX5_leave_70 rfl 2 rfl ?_
        refine g_iload X dX5_leave_71 8 rfl ?_
        refine g_iload X dX5_leave_73 5 rfl ?_
        refine g_iload_n X dX5_leave_75 rfl 4 rfl ?_
        refine g_iload X dX5_leave_76 6 rfl ?_
        refine g_iload X dX5_leave_78 7 rfl ?_
        refine g_callVI X (As := [.int v7, .int v4, .int v3, .int v5, .int v6]) (rest := [.int x3, .int r13, .ref (ea (zE Z) a0)]) (T := TX1) (N := 12) (c_X1_afterRoad (zl Z) (zE Z) v7 v4 v3 v5 v6) gX5_leave_X1_afterRoad yo_X1_afterRoad rfl ⟨Nat.le_of_ble_eq_true rfl, Nat.le_of_ble_eq_true rfl⟩ (Nat.le_of_ble_eq_true rfl) rfl rfl rfl dX5_leave_80 h (fun r16 I14 J15 h => ?_)
        refine g_callVV X (As := [.int r13, .int x3, .int r16]) (rest := []) (T := TX5) (N := 1) (c_X5_mark (zl Z) (zE Z) (h0) r13 x3 r16) gX5_leave_X5_mark yo_X5_mark rfl ⟨Nat.le_of_ble_eq_true rfl, Nat.le_of_ble_eq_true rfl⟩ (h0).lt0 (h0).o rfl rfl dX5_leave_83 h (fun  I17 J18 h => ?_)
        obtain ⟨x19, ex19⟩ : ∃ y : Int32, y = v7 + 1 := ⟨_, rfl⟩
        have h := h x19 ex19
        refine g_iinc X (q := 8) (v := x19) (lv' := [(7, .int x19), (8, .int x3), (0, .ref (ea (zE Z) a0)), (1, .ref (ea (zE Z) 5)), (2, .int v2), (3, .int v3), (4, .int v4), (5, .int v5), (6, .int v6)]) dX5_leave_86 rfl (by rw [ex19]; rfl) (by decide) rfl ?_
        refine g_goto X (tgt := 23) dX5_leave_89 (by decide) ?_
        refine GW.sub (lv' := [(0, .ref (ea (zE Z) a0)), (1, .ref (ea (zE Z) 5)), (2, .int v2), (3, .int v3), (4, .int v4), (5, .int v5), (6, .int v6), (7, .int x19)]) [2, 3, 4, 5, 6, 7, 8, 0] rfl ?_
        exact hk23 v2 v3 v4 v5 v6 x19 I17 J18 h
theorem w_X5_leave_L23 {Z : RT} {a0 : Nat} (X : Cx Z cX5_leave 9 RX5 wsX5_leave rmX5_leave none) {Q : MI → MJ → Prop} (R : RV Z Q) (h0 : isRe a0)   : ∀ (n : Nat) (v2 : Int32) (v3 : Int32) (v4 : Int32) (v5 : Int32) (v6 : Int32) (v7 : Int32) (I : MI) (J : MJ) (h : vc_X5_leave_L23 a0 Q  n v2 v3 v4 v5 v6 v7 I J), GW Z 9 I J 23 [(0, .ref (ea (zE Z) a0)), (1, .ref (ea (zE Z) 5)), (2, .int v2), (3, .int v3), (4, .int v4), (5, .int v5), (6, .int v6), (7, .int v7)] [] := by
  intro n
  induction n with
  | zero => intro v2 v3 v4 v5 v6 v7 I J h; exact h.elim
  | succ n ih => intro v2 v3 v4 v5 v6 v7 I J h; exact w_X5_leave_L23s X R h0  ih v2 v3 v4 v5 v6 v7 I J h
def vc_X5_leave (a0 : Nat) (p2 : Int32) (p3 : Int32) (p4 : Int32) (p5 : Int32) (p6 : Int32) (I : MI) (J : MJ) (Q : MI → MJ → Prop) : Prop := vc_X1_afterHourIn p2 p4 p3 p5 p6 I J (fun (r22 : Int32) (I20 : MI) (J21 : MJ) => vc_X5_mark a0 p2 (p3 + 1) r22 I20 J21 (fun (I23 : MI) (J24 : MJ) => (∃ n, vc_X5_leave_L23 a0 Q  n p2 p3 p4 p5 p6 0 I23 J24)))
set_option maxRecDepth 100000 in
set_option maxHeartbeats 4000000 in
theorem c_X5_leave (l : Launch) (E : ET) {a0 : Nat} (h0 : isRe a0) (p2 : Int32) (p3 : Int32) (p4 : Int32) (p5 : Int32) (p6 : Int32) : CV l yX5_leave wsX5_leave rmX5_leave E [.ref (ea E a0), .ref (ea E 5), .int p2, .int p3, .int p4, .int p5, .int p6] (vc_X5_leave a0 p2 p3 p4 p5 p6) := by
  refine CV.of (cc := cX5_leave) (maxL := 9) (own := RX5) (by decide) rfl rfl (Nat.le_of_ble_eq_true rfl) ?_
  intro Z I J Q hE hl X R h
  subst hE
  subst hl
  show GW Z 9 I J 0 [(0, .ref (ea (zE Z) a0)), (1, .ref (ea (zE Z) 5)), (2, .int p2), (3, .int p3), (4, .int p4), (5, .int p5), (6, .int p6)] []
  refine g_aload_n X dX5_leave_0 rfl 0 rfl ?_
  refine g_iload_n X dX5_leave_1 rfl 2 rfl ?_
  refine g_iload_n X dX5_leave_2 rfl 3 rfl ?_
  refine g_iconst X (v := 1) dX5_leave_3 (by decide) ?_
  refine g_iadd X dX5_leave_4 ?_
  refine g_aload_n X dX5_leave_5 rfl 1 rfl ?_
  refine g_iload_n X dX5_leave_6 rfl 2 rfl ?_
  refine g_iload X dX5_leave_7 4 rfl ?_
  refine g_iload_n X dX5_leave_9 rfl 3 rfl ?_
  refine g_iload X dX5_leave_10 5 rfl ?_
  refine g_iload X dX5_leave_12 6 rfl ?_
  refine g_callVI X (As := [.int p2, .int p4, .int p3, .int p5, .int p6]) (rest := [.int (p3 + 1), .int p2, .ref (ea (zE Z) a0)]) (T := TX1) (N := 12) (c_X1_afterHourIn (zl Z) (zE Z) p2 p4 p3 p5 p6) gX5_leave_X1_afterHourIn yo_X1_afterHourIn rfl ⟨Nat.le_of_ble_eq_true rfl, Nat.le_of_ble_eq_true rfl⟩ (Nat.le_of_ble_eq_true rfl) rfl rfl rfl dX5_leave_14 h (fun r22 I20 J21 h => ?_)
  refine g_callVV X (As := [.int p2, .int (p3 + 1), .int r22]) (rest := []) (T := TX5) (N := 1) (c_X5_mark (zl Z) (zE Z) (h0) p2 (p3 + 1) r22) gX5_leave_X5_mark yo_X5_mark rfl ⟨Nat.le_of_ble_eq_true rfl, Nat.le_of_ble_eq_true rfl⟩ (h0).lt0 (h0).o rfl rfl dX5_leave_17 h (fun  I23 J24 h => ?_)
  refine g_iconst X (v := 0) dX5_leave_20 (by decide) ?_
  refine g_istore X (lv' := [(7, .int 0), (0, .ref (ea (zE Z) a0)), (1, .ref (ea (zE Z) 5)), (2, .int p2), (3, .int p3), (4, .int p4), (5, .int p5), (6, .int p6)]) dX5_leave_21 (by decide) rfl ?_
  refine GW.sub (lv' := [(0, .ref (ea (zE Z) a0)), (1, .ref (ea (zE Z) 5)), (2, .int p2), (3, .int p3), (4, .int p4), (5, .int p5), (6, .int p6), (7, .int 0)]) [1, 2, 3, 4, 5, 6, 7, 0] rfl ?_
  obtain ⟨n, h⟩ := h
  exact w_X5_leave_L23 X R h0  n p2 p3 p4 p5 p6 0 I23 J24 h

/-! X5_spread.spread(LSnowCourse$Country;II)V -/
def rmX5_spread : Room := { frames := 4, cells := 0, slots := 0, locals := 108 }
theorem yo_X5_spread : yX5_spread.cls = RX5 ∧ yX5_spread.cls ≠ "java/lang/invoke/MethodHandle" ∧ yX5_spread.cls ≠ "java/lang/invoke/VarHandle" ∧ (parseMethodDescriptor yX5_spread.desc).map (fun d => d.parameters.length) = some 3 := by decide +kernel
theorem kX5_spread_27 : Cond.fieldLink RX5 27 "SnowCourse$Country" (TX1 8).2.1 (TX1 8).2.2.1 ∈ wsX5_spread := by decide +kernel
theorem iX5_spread_X1 : ∀ w ∈ u_ws RX1 TX1 12, w ∈ wsX5_spread := by decide +kernel
theorem kX5_spread_13 : Cond.fieldLink RX5 13 "SnowCourse$Reach" (TX5 0).2.1 (TX5 0).2.2.1 ∈ wsX5_spread := by decide +kernel
theorem iX5_spread_X5 : ∀ w ∈ u_ws RX5 TX5 1, w ∈ wsX5_spread := by decide +kernel
def vc_X5_spread_L34s (a0 : Nat) (Q : MI → MJ → Prop) (k4 : Int32 → Int32 → Int32 → MI → MJ → Prop) (k24 : Int32 → Int32 → Int32 → Int32 → MI → MJ → Prop) (k34 : Int32 → Int32 → Int32 → Int32 → Int32 → MI → MJ → Prop) (v2 : Int32) (v3 : Int32) (v4 : Int32) (v5 : Int32) (v6 : Int32) (I : MI) (J : MJ) : Prop := (((I 5 8) ≤ v6 → ∀ x2 : Int32, x2 = v5 + 1 → k24 v2 v3 v4 x2 I J) ∧ (¬ (I 5 8) ≤ v6 → vp_in ((v6 * 100) + v4) 700 ∧ (((lg_cmp (((J (a0 + 1) (Int32.toNatClampNeg ((v6 * 100) + v4))) >>> (Int32.toInt64 v5 &&& 63)) &&& 1) 0) = 0 → ∀ x5 : Int32, x5 = v6 + 1 → k34 v2 v3 v4 v5 x5 I J) ∧ (¬ (lg_cmp (((J (a0 + 1) (Int32.toNatClampNeg ((v6 * 100) + v4))) >>> (Int32.toInt64 v5 &&& 63)) &&& 1) 0) = 0 → vc_X5_leave a0 v6 v5 v4 v2 v3 I J (fun (I6 : MI) (J7 : MJ) => ∀ x8 : Int32, x8 = v6 + 1 → k34 v2 v3 v4 v5 x8 I6 J7)))))
def vc_X5_spread_L34 (a0 : Nat) (Q : MI → MJ → Prop) (k4 : Int32 → Int32 → Int32 → MI → MJ → Prop) (k24 : Int32 → Int32 → Int32 → Int32 → MI → MJ → Prop) (n : Nat) : Int32 → Int32 → Int32 → Int32 → Int32 → MI → MJ → Prop := Nat.rec (fun _ _ _ _ _ _ _ => False) (fun _ ih => vc_X5_spread_L34s a0 Q k4 k24 ih) n
set_option maxRecDepth 100000 in
set_option maxHeartbeats 4000000 in
theorem w_X5_spread_L34s {Z : RT} {a0 : Nat} (X : Cx Z cX5_spread 7 RX5 wsX5_spread rmX5_spread none) {Q : MI → MJ → Prop} (R : RV Z Q) (h0 : isRe a0) {k4 : Int32 → Int32 → Int32 → MI → MJ → Prop} {k24 : Int32 → Int32 → Int32 → Int32 → MI → MJ → Prop} (hk4 : ∀ (v2 : Int32) (v3 : Int32) (v4 : Int32) (I : MI) (J : MJ), k4 v2 v3 v4 I J → GW Z 7 I J 4 [(0, .ref (ea (zE Z) a0)), (1, .ref (ea (zE Z) 5)), (2, .int v2), (3, .int v3), (4, .int v4)] []) (hk24 : ∀ (v2 : Int32) (v3 : Int32) (v4 : Int32) (v5 : Int32) (I : MI) (J : MJ), k24 v2 v3 v4 v5 I J → GW Z 7 I J 24 [(0, .ref (ea (zE Z) a0)), (1, .ref (ea (zE Z) 5)), (2, .int v2), (3, .int v3), (4, .int v4), (5, .int v5)] []) {k34 : Int32 → Int32 → Int32 → Int32 → Int32 → MI → MJ → Prop} (hk34 : ∀ (v2 : Int32) (v3 : Int32) (v4 : Int32) (v5 : Int32) (v6 : Int32) (I : MI) (J : MJ), k34 v2 v3 v4 v5 v6 I J → GW Z 7 I J 34 [(0, .ref (ea (zE Z) a0)), (1, .ref (ea (zE Z) 5)), (2, .int v2), (3, .int v3), (4, .int v4), (5, .int v5), (6, .int v6)] []) (v2 : Int32) (v3 : Int32) (v4 : Int32) (v5 : Int32) (v6 : Int32) (I : MI) (J : MJ) (h : vc_X5_spread_L34s a0 Q k4 k24 k34 v2 v3 v4 v5 v6 I J) : GW Z 7 I J 34 [(0, .ref (ea (zE Z) a0)), (1, .ref (ea (zE Z) 5)), (2, .int v2), (3, .int v3), (4, .int v4), (5, .int v5), (6, .int v6)] [] := by
  refine g_iload X dX5_spread_34 6 rfl ?_
  refine g_aload_n X dX5_spread_36 rfl 1 rfl ?_
  refine g_geti X (C := RX1) (T := TX1) (N := 12) (ci := 1) (k := 8) iX5_spread_X1 rfl kX5_spread_27 (Nat.le_of_ble_eq_true rfl) rfl (by decide) rfl rfl dX5_spread_37 ?_
  refine g_icmp_ge X (tgt := 85) dX5_spread_40 (by decide) (fun c1 => ?_) (fun c1 => ?_)
  · have h := h.1 c1
    obtain ⟨x2, ex2⟩ : ∃ y : Int32, y = v5 + 1 := ⟨_, rfl⟩
    have h := h x2 ex2
    refine g_iinc X (q := 5) (v := x2) (lv' := [(5, .int x2), (0, .ref (ea (zE Z) a0)), (1, .ref (ea (zE Z) 5)), (2, .int v2), (3, .int v3), (4, .int v4), (6, .int v6)]) dX5_spread_85 rfl (by rw [ex2]; rfl) (by decide) rfl ?_
    refine g_goto X (tgt := 24) dX5_spread_88 (by decide) ?_
    refine GW.sub (lv' := [(0, .ref (ea (zE Z) a0)), (1, .ref (ea (zE Z) 5)), (2, .int v2), (3, .int v3), (4, .int v4), (5, .int x2)]) [1, 2, 3, 4, 5, 0] rfl ?_
    exact hk24 v2 v3 v4 x2 I J h
  · have h := h.2 c1
    refine g_aload_n X dX5_spread_43 rfl 0 rfl ?_
    refine g_getr X (C := RX5) (T := TX5) (N := 1) (ci := 3) (k := 0) iX5_spread_X5 rfl kX5_spread_13 (h0).lt0 (h0).o (by decide) rfl rfl dX5_spread_44 ?_
    refine g_iload X dX5_spread_47 6 rfl ?_
    refine g_bipush X (v := 100) dX5_spread_49 (by decide) ?_
    refine g_imul X dX5_spread_51 ?_
    refine g_iload X dX5_spread_52 4 rfl ?_
    refine g_iadd X dX5_spread_54 ?_
    obtain ⟨b3, h⟩ := h
    refine g_lald X (h0).lt1 (h0).l b3 dX5_spread_55 ?_
    refine g_iload X dX5_spread_56 5 rfl ?_
    refine g_lshr X dX5_spread_58 ?_
    refine g_lconst X (v := 1) dX5_spread_59 (by decide) ?_
    refine g_land X dX5_spread_60 ?_
    refine g_lconst X (v := 0) dX5_spread_61 (by decide) ?_
    refine g_lcmp X dX5_spread_62 ?_
    refine g_if_eq X (tgt := 79) dX5_spread_63 (by decide) (fun c4 => ?_) (fun c4 => ?_)
    · have h := h.1 c4
      obtain ⟨x5, ex5⟩ : ∃ y : Int32, y = v6 + 1 := ⟨_, rfl⟩
      have h := h x5 ex5
      refine g_iinc X (q := 6) (v := x5) (lv' := [(6, .int x5), (0, .ref (ea (zE Z) a0)), (1, .ref (ea (zE Z) 5)), (2, .int v2), (3, .int v3), (4, .int v4), (5, .int v5)]) dX5_spread_79 rfl (by rw [ex5]; rfl) (by decide) rfl ?_
      refine g_goto X (tgt := 34) dX5_spread_82 (by decide) ?_
      refine GW.sub (lv' := [(0, .ref (ea (zE Z) a0)), (1, .ref (ea (zE Z) 5)), (2, .int v2), (3, .int v3), (4, .int v4), (5, .int v5), (6, .int x5)]) [1, 2, 3, 4, 5, 6, 0] rfl ?_
      exact hk34 v2 v3 v4 v5 x5 I J h
    · have h := h.2 c4
      refine g_aload_n X dX5_spread_66 rfl 0 rfl ?_
      refine g_aload_n X dX5_spread_67 rfl 1 rfl ?_
      refine g_iload X dX5_spread_68 6 rfl ?_
      refine g_iload X dX5_spread_70 5 rfl ?_
      refine g_iload X dX5_spread_72 4 rfl ?_
      refine g_iload_n X dX5_spread_74 rfl 2 rfl ?_
      refine g_iload_n X dX5_spread_75 rfl 3 rfl ?_
      refine g_callVV X (As := [.ref (ea (zE Z) 5), .int v6, .int v5, .int v4, .int v2, .int v3]) (rest := []) (T := TX5) (N := 1) (c_X5_leave (zl Z) (zE Z) (h0) v6 v5 v4 v2 v3) gX5_spread_X5_leave yo_X5_leave rfl ⟨Nat.le_of_ble_eq_true rfl, Nat.le_of_ble_eq_true rfl⟩ (h0).lt0 (h0).o rfl rfl dX5_spread_76 h (fun  I6 J7 h => ?_)
      obtain ⟨x8, ex8⟩ : ∃ y : Int32, y = v6 + 1 := ⟨_, rfl⟩
      have h := h x8 ex8
      refine g_iinc X (q := 6) (v := x8) (lv' := [(6, .int x8), (0, .ref (ea (zE Z) a0)), (1, .ref (ea (zE Z) 5)), (2, .int v2), (3, .int v3), (4, .int v4), (5, .int v5)]) dX5_spread_79 rfl (by rw [ex8]; rfl) (by decide) rfl ?_
      refine g_goto X (tgt := 34) dX5_spread_82 (by decide) ?_
      refine GW.sub (lv' := [(0, .ref (ea (zE Z) a0)), (1, .ref (ea (zE Z) 5)), (2, .int v2), (3, .int v3), (4, .int v4), (5, .int v5), (6, .int x8)]) [1, 2, 3, 4, 5, 6, 0] rfl ?_
      exact hk34 v2 v3 v4 v5 x8 I6 J7 h
theorem w_X5_spread_L34 {Z : RT} {a0 : Nat} (X : Cx Z cX5_spread 7 RX5 wsX5_spread rmX5_spread none) {Q : MI → MJ → Prop} (R : RV Z Q) (h0 : isRe a0) {k4 : Int32 → Int32 → Int32 → MI → MJ → Prop} {k24 : Int32 → Int32 → Int32 → Int32 → MI → MJ → Prop} (hk4 : ∀ (v2 : Int32) (v3 : Int32) (v4 : Int32) (I : MI) (J : MJ), k4 v2 v3 v4 I J → GW Z 7 I J 4 [(0, .ref (ea (zE Z) a0)), (1, .ref (ea (zE Z) 5)), (2, .int v2), (3, .int v3), (4, .int v4)] []) (hk24 : ∀ (v2 : Int32) (v3 : Int32) (v4 : Int32) (v5 : Int32) (I : MI) (J : MJ), k24 v2 v3 v4 v5 I J → GW Z 7 I J 24 [(0, .ref (ea (zE Z) a0)), (1, .ref (ea (zE Z) 5)), (2, .int v2), (3, .int v3), (4, .int v4), (5, .int v5)] []) : ∀ (n : Nat) (v2 : Int32) (v3 : Int32) (v4 : Int32) (v5 : Int32) (v6 : Int32) (I : MI) (J : MJ) (h : vc_X5_spread_L34 a0 Q k4 k24 n v2 v3 v4 v5 v6 I J), GW Z 7 I J 34 [(0, .ref (ea (zE Z) a0)), (1, .ref (ea (zE Z) 5)), (2, .int v2), (3, .int v3), (4, .int v4), (5, .int v5), (6, .int v6)] [] := by
  intro n
  induction n with
  | zero => intro v2 v3 v4 v5 v6 I J h; exact h.elim
  | succ n ih => intro v2 v3 v4 v5 v6 I J h; exact w_X5_spread_L34s X R h0 hk4 hk24 ih v2 v3 v4 v5 v6 I J h
def vc_X5_spread_L24s (a0 : Nat) (Q : MI → MJ → Prop) (k4 : Int32 → Int32 → Int32 → MI → MJ → Prop) (k24 : Int32 → Int32 → Int32 → Int32 → MI → MJ → Prop) (v2 : Int32) (v3 : Int32) (v4 : Int32) (v5 : Int32) (I : MI) (J : MJ) : Prop := ((48 ≤ v5 → ∀ x10 : Int32, x10 = v4 + (-1) → k4 v2 v3 x10 I J) ∧ (¬ 48 ≤ v5 → (∃ n, vc_X5_spread_L34 a0 Q k4 k24 n v2 v3 v4 v5 0 I J)))
def vc_X5_spread_L24 (a0 : Nat) (Q : MI → MJ → Prop) (k4 : Int32 → Int32 → Int32 → MI → MJ → Prop) (n : Nat) : Int32 → Int32 → Int32 → Int32 → MI → MJ → Prop := Nat.rec (fun _ _ _ _ _ _ => False) (fun _ ih => vc_X5_spread_L24s a0 Q k4 ih) n
set_option maxRecDepth 100000 in
set_option maxHeartbeats 4000000 in
theorem w_X5_spread_L24s {Z : RT} {a0 : Nat} (X : Cx Z cX5_spread 7 RX5 wsX5_spread rmX5_spread none) {Q : MI → MJ → Prop} (R : RV Z Q) (h0 : isRe a0) {k4 : Int32 → Int32 → Int32 → MI → MJ → Prop} (hk4 : ∀ (v2 : Int32) (v3 : Int32) (v4 : Int32) (I : MI) (J : MJ), k4 v2 v3 v4 I J → GW Z 7 I J 4 [(0, .ref (ea (zE Z) a0)), (1, .ref (ea (zE Z) 5)), (2, .int v2), (3, .int v3), (4, .int v4)] []) {k24 : Int32 → Int32 → Int32 → Int32 → MI → MJ → Prop} (hk24 : ∀ (v2 : Int32) (v3 : Int32) (v4 : Int32) (v5 : Int32) (I : MI) (J : MJ), k24 v2 v3 v4 v5 I J → GW Z 7 I J 24 [(0, .ref (ea (zE Z) a0)), (1, .ref (ea (zE Z) 5)), (2, .int v2), (3, .int v3), (4, .int v4), (5, .int v5)] []) (v2 : Int32) (v3 : Int32) (v4 : Int32) (v5 : Int32) (I : MI) (J : MJ) (h : vc_X5_spread_L24s a0 Q k4 k24 v2 v3 v4 v5 I J) : GW Z 7 I J 24 [(0, .ref (ea (zE Z) a0)), (1, .ref (ea (zE Z) 5)), (2, .int v2), (3, .int v3), (4, .int v4), (5, .int v5)] [] := by
  refine g_iload X dX5_spread_24 5 rfl ?_
  refine g_bipush X (v := 48) dX5_spread_26 (by decide) ?_
  refine g_icmp_ge X (tgt := 91) dX5_spread_28 (by decide) (fun c9 => ?_) (fun c9 => ?_)
  · have h := h.1 c9
    obtain ⟨x10, ex10⟩ : ∃ y : Int32, y = v4 + (-1) := ⟨_, rfl⟩
    have h := h x10 ex10
    refine g_iinc X (q := 4) (v := x10) (lv' := [(4, .int x10), (0, .ref (ea (zE Z) a0)), (1, .ref (ea (zE Z) 5)), (2, .int v2), (3, .int v3), (5, .int v5)]) dX5_spread_91 rfl (by rw [ex10]; rfl) (by decide) rfl ?_
    refine g_goto X (tgt := 4) dX5_spread_94 (by decide) ?_
    refine GW.sub (lv' := [(0, .ref (ea (zE Z) a0)), (1, .ref (ea (zE Z) 5)), (2, .int v2), (3, .int v3), (4, .int x10)]) [1, 2, 3, 4, 0] rfl ?_
    exact hk4 v2 v3 x10 I J h
  · have h := h.2 c9
    refine g_iconst X (v := 0) dX5_spread_31 (by decide) ?_
    refine g_istore X (lv' := [(6, .int 0), (0, .ref (ea (zE Z) a0)), (1, .ref (ea (zE Z) 5)), (2, .int v2), (3, .int v3), (4, .int v4), (5, .int v5)]) dX5_spread_32 (by decide) rfl ?_
    refine GW.sub (lv' := [(0, .ref (ea (zE Z) a0)), (1, .ref (ea (zE Z) 5)), (2, .int v2), (3, .int v3), (4, .int v4), (5, .int v5), (6, .int 0)]) [1, 2, 3, 4, 5, 6, 0] rfl ?_
    obtain ⟨n, h⟩ := h
    exact w_X5_spread_L34 X R h0 hk4 hk24 n v2 v3 v4 v5 0 I J h
theorem w_X5_spread_L24 {Z : RT} {a0 : Nat} (X : Cx Z cX5_spread 7 RX5 wsX5_spread rmX5_spread none) {Q : MI → MJ → Prop} (R : RV Z Q) (h0 : isRe a0) {k4 : Int32 → Int32 → Int32 → MI → MJ → Prop} (hk4 : ∀ (v2 : Int32) (v3 : Int32) (v4 : Int32) (I : MI) (J : MJ), k4 v2 v3 v4 I J → GW Z 7 I J 4 [(0, .ref (ea (zE Z) a0)), (1, .ref (ea (zE Z) 5)), (2, .int v2), (3, .int v3), (4, .int v4)] []) : ∀ (n : Nat) (v2 : Int32) (v3 : Int32) (v4 : Int32) (v5 : Int32) (I : MI) (J : MJ) (h : vc_X5_spread_L24 a0 Q k4 n v2 v3 v4 v5 I J), GW Z 7 I J 24 [(0, .ref (ea (zE Z) a0)), (1, .ref (ea (zE Z) 5)), (2, .int v2), (3, .int v3), (4, .int v4), (5, .int v5)] [] := by
  intro n
  induction n with
  | zero => intro v2 v3 v4 v5 I J h; exact h.elim
  | succ n ih => intro v2 v3 v4 v5 I J h; exact w_X5_spread_L24s X R h0 hk4 ih v2 v3 v4 v5 I J h
def vc_X5_spread_L4s (a0 : Nat) (Q : MI → MJ → Prop)  (k4 : Int32 → Int32 → Int32 → MI → MJ → Prop) (v2 : Int32) (v3 : Int32) (v4 : Int32) (I : MI) (J : MJ) : Prop := ((v4 < 0 → Q I J) ∧ (¬ v4 < 0 → vc_X5_isAnywhere a0 v4 I J (fun (r14 : Int32) (I12 : MI) (J13 : MJ) => ((¬ r14 = 0 → (∃ n, vc_X5_spread_L24 a0 Q k4 n v2 v3 v4 0 I12 J13)) ∧ (r14 = 0 → ∀ x16 : Int32, x16 = v4 + (-1) → k4 v2 v3 x16 I12 J13)))))
def vc_X5_spread_L4 (a0 : Nat) (Q : MI → MJ → Prop)  (n : Nat) : Int32 → Int32 → Int32 → MI → MJ → Prop := Nat.rec (fun _ _ _ _ _ => False) (fun _ ih => vc_X5_spread_L4s a0 Q  ih) n
set_option maxRecDepth 100000 in
set_option maxHeartbeats 4000000 in
theorem w_X5_spread_L4s {Z : RT} {a0 : Nat} (X : Cx Z cX5_spread 7 RX5 wsX5_spread rmX5_spread none) {Q : MI → MJ → Prop} (R : RV Z Q) (h0 : isRe a0)   {k4 : Int32 → Int32 → Int32 → MI → MJ → Prop} (hk4 : ∀ (v2 : Int32) (v3 : Int32) (v4 : Int32) (I : MI) (J : MJ), k4 v2 v3 v4 I J → GW Z 7 I J 4 [(0, .ref (ea (zE Z) a0)), (1, .ref (ea (zE Z) 5)), (2, .int v2), (3, .int v3), (4, .int v4)] []) (v2 : Int32) (v3 : Int32) (v4 : Int32) (I : MI) (J : MJ) (h : vc_X5_spread_L4s a0 Q  k4 v2 v3 v4 I J) : GW Z 7 I J 4 [(0, .ref (ea (zE Z) a0)), (1, .ref (ea (zE Z) 5)), (2, .int v2), (3, .int v3), (4, .int v4)] [] := by
  refine g_iload X dX5_spread_4 4 rfl ?_
  refine g_if_lt X (tgt := 97) dX5_spread_6 (by decide) (fun c11 => ?_) (fun c11 => ?_)
  · have h := h.1 c11
    exact g_vret X R dX5_spread_97 h
  · have h := h.2 c11
    refine g_aload_n X dX5_spread_9 rfl 0 rfl ?_
    refine g_iload X dX5_spread_10 4 rfl ?_
    refine g_callVI X (As := [.int v4]) (rest := []) (T := TX5) (N := 1) (c_X5_isAnywhere (zl Z) (zE Z) (h0) v4) gX5_spread_X5_isAnywhere yo_X5_isAnywhere rfl ⟨Nat.le_of_ble_eq_true rfl, Nat.le_of_ble_eq_true rfl⟩ (h0).lt0 (h0).o rfl rfl dX5_spread_12 h (fun r14 I12 J13 h => ?_)
    refine g_if_ne X (tgt := 21) dX5_spread_15 (by decide) (fun c15 => ?_) (fun c15 => ?_)
    · have h := h.1 c15
      refine g_iconst X (v := 0) dX5_spread_21 (by decide) ?_
      refine g_istore X (lv' := [(5, .int 0), (0, .ref (ea (zE Z) a0)), (1, .ref (ea (zE Z) 5)), (2, .int v2), (3, .int v3), (4, .int v4)]) dX5_spread_22 (by decide) rfl ?_
      refine GW.sub (lv' := [(0, .ref (ea (zE Z) a0)), (1, .ref (ea (zE Z) 5)), (2, .int v2), (3, .int v3), (4, .int v4), (5, .int 0)]) [1, 2, 3, 4, 5, 0] rfl ?_
      obtain ⟨n, h⟩ := h
      exact w_X5_spread_L24 X R h0 hk4 n v2 v3 v4 0 I12 J13 h
    · have h := h.2 c15
      refine g_goto X (tgt := 91) dX5_spread_18 (by decide) ?_
      obtain ⟨x16, ex16⟩ : ∃ y : Int32, y = v4 + (-1) := ⟨_, rfl⟩
      have h := h x16 ex16
      refine g_iinc X (q := 4) (v := x16) (lv' := [(4, .int x16), (0, .ref (ea (zE Z) a0)), (1, .ref (ea (zE Z) 5)), (2, .int v2), (3, .int v3)]) dX5_spread_91 rfl (by rw [ex16]; rfl) (by decide) rfl ?_
      refine g_goto X (tgt := 4) dX5_spread_94 (by decide) ?_
      refine GW.sub (lv' := [(0, .ref (ea (zE Z) a0)), (1, .ref (ea (zE Z) 5)), (2, .int v2), (3, .int v3), (4, .int x16)]) [1, 2, 3, 4, 0] rfl ?_
      exact hk4 v2 v3 x16 I12 J13 h
theorem w_X5_spread_L4 {Z : RT} {a0 : Nat} (X : Cx Z cX5_spread 7 RX5 wsX5_spread rmX5_spread none) {Q : MI → MJ → Prop} (R : RV Z Q) (h0 : isRe a0)   : ∀ (n : Nat) (v2 : Int32) (v3 : Int32) (v4 : Int32) (I : MI) (J : MJ) (h : vc_X5_spread_L4 a0 Q  n v2 v3 v4 I J), GW Z 7 I J 4 [(0, .ref (ea (zE Z) a0)), (1, .ref (ea (zE Z) 5)), (2, .int v2), (3, .int v3), (4, .int v4)] [] := by
  intro n
  induction n with
  | zero => intro v2 v3 v4 I J h; exact h.elim
  | succ n ih => intro v2 v3 v4 I J h; exact w_X5_spread_L4s X R h0  ih v2 v3 v4 I J h
def vc_X5_spread (a0 : Nat) (p2 : Int32) (p3 : Int32) (I : MI) (J : MJ) (Q : MI → MJ → Prop) : Prop := (∃ n, vc_X5_spread_L4 a0 Q  n p2 p3 99 I J)
set_option maxRecDepth 100000 in
set_option maxHeartbeats 4000000 in
theorem c_X5_spread (l : Launch) (E : ET) {a0 : Nat} (h0 : isRe a0) (p2 : Int32) (p3 : Int32) : CV l yX5_spread wsX5_spread rmX5_spread E [.ref (ea E a0), .ref (ea E 5), .int p2, .int p3] (vc_X5_spread a0 p2 p3) := by
  refine CV.of (cc := cX5_spread) (maxL := 7) (own := RX5) (by decide) rfl rfl (Nat.le_of_ble_eq_true rfl) ?_
  intro Z I J Q hE hl X R h
  subst hE
  subst hl
  show GW Z 7 I J 0 [(0, .ref (ea (zE Z) a0)), (1, .ref (ea (zE Z) 5)), (2, .int p2), (3, .int p3)] []
  refine g_bipush X (v := 99) dX5_spread_0 (by decide) ?_
  refine g_istore X (lv' := [(4, .int 99), (0, .ref (ea (zE Z) a0)), (1, .ref (ea (zE Z) 5)), (2, .int p2), (3, .int p3)]) dX5_spread_2 (by decide) rfl ?_
  refine GW.sub (lv' := [(0, .ref (ea (zE Z) a0)), (1, .ref (ea (zE Z) 5)), (2, .int p2), (3, .int p3), (4, .int 99)]) [1, 2, 3, 4, 0] rfl ?_
  obtain ⟨n, h⟩ := h
  exact w_X5_spread_L4 X R h0  n p2 p3 99 I J h

/-! X5_joinOf.joinOf(LSnowCourse$Reach;LSnowCourse$Reach;I)V -/
def rmX5_joinOf : Room := { frames := 2, cells := 0, slots := 0, locals := 44 }
theorem yo_X5_joinOf : yX5_joinOf.cls = RX5 ∧ yX5_joinOf.cls ≠ "java/lang/invoke/MethodHandle" ∧ yX5_joinOf.cls ≠ "java/lang/invoke/VarHandle" ∧ (parseMethodDescriptor yX5_joinOf.desc).map (fun d => d.parameters.length) = some 3 := by decide +kernel
theorem kX5_joinOf_13 : Cond.fieldLink RX5 13 "SnowCourse$Reach" (TX5 0).2.1 (TX5 0).2.2.1 ∈ wsX5_joinOf := by decide +kernel
theorem iX5_joinOf_X5 : ∀ w ∈ u_ws RX5 TX5 1, w ∈ wsX5_joinOf := by decide +kernel
def vc_X5_joinOf_L45s (a0 : Nat) (a1 : Nat) (a2 : Nat) (Q : MI → MJ → Prop) (k7 : Int32 → Int32 → MI → MJ → Prop) (k23 : Int32 → Int32 → Int32 → Int32 → MI → MJ → Prop) (k45 : Int32 → Int32 → Int32 → Int32 → Int64 → Int32 → MI → MJ → Prop) (v3 : Int32) (v4 : Int32) (v5 : Int32) (v6 : Int32) (v7 : Int64) (v9 : Int32) (I : MI) (J : MJ) : Prop := (((lg_cmp v7 0) = 0 → ∀ x2 : Int32, x2 = v6 + 1 → k23 v3 v4 v5 x2 I J) ∧ (¬ (lg_cmp v7 0) = 0 → ((100 ≤ (v6 + v9) → ∀ x4 : Int32, x4 = v6 + 1 → k23 v3 v4 v5 x4 I J) ∧ (¬ 100 ≤ (v6 + v9) → vp_in ((v5 + v6) + v9) 700 ∧ vp_in (v5 + v9) 700 ∧ vp_in ((v5 + v6) + v9) 700 ∧ ∀ J8 : MJ, J8 = wJ J (a0 + 1) (Int32.toNatClampNeg ((v5 + v6) + v9)) ((J (a0 + 1) (Int32.toNatClampNeg ((v5 + v6) + v9))) ||| (v7 &&& (J (a2 + 1) (Int32.toNatClampNeg (v5 + v9))))) → ∀ x9 : Int32, x9 = v9 + 1 → k45 v3 v4 v5 v6 v7 x9 I J8))))
def vc_X5_joinOf_L45 (a0 : Nat) (a1 : Nat) (a2 : Nat) (Q : MI → MJ → Prop) (k7 : Int32 → Int32 → MI → MJ → Prop) (k23 : Int32 → Int32 → Int32 → Int32 → MI → MJ → Prop) (n : Nat) : Int32 → Int32 → Int32 → Int32 → Int64 → Int32 → MI → MJ → Prop := Nat.rec (fun _ _ _ _ _ _ _ _ => False) (fun _ ih => vc_X5_joinOf_L45s a0 a1 a2 Q k7 k23 ih) n
set_option maxRecDepth 100000 in
set_option maxHeartbeats 4000000 in
theorem w_X5_joinOf_L45s {Z : RT} {a0 : Nat} {a1 : Nat} {a2 : Nat} (X : Cx Z cX5_joinOf 10 RX5 wsX5_joinOf rmX5_joinOf none) {Q : MI → MJ → Prop} (R : RV Z Q) (h0 : isRe a0) (h1 : isRe a1) (h2 : isRe a2) {k7 : Int32 → Int32 → MI → MJ → Prop} {k23 : Int32 → Int32 → Int32 → Int32 → MI → MJ → Prop} (hk7 : ∀ (v3 : Int32) (v4 : Int32) (I : MI) (J : MJ), k7 v3 v4 I J → GW Z 10 I J 7 [(0, .ref (ea (zE Z) a0)), (1, .ref (ea (zE Z) a1)), (2, .ref (ea (zE Z) a2)), (3, .int v3), (4, .int v4)] []) (hk23 : ∀ (v3 : Int32) (v4 : Int32) (v5 : Int32) (v6 : Int32) (I : MI) (J : MJ), k23 v3 v4 v5 v6 I J → GW Z 10 I J 23 [(0, .ref (ea (zE Z) a0)), (1, .ref (ea (zE Z) a1)), (2, .ref (ea (zE Z) a2)), (3, .int v3), (4, .int v4), (5, .int v5), (6, .int v6)] []) {k45 : Int32 → Int32 → Int32 → Int32 → Int64 → Int32 → MI → MJ → Prop} (hk45 : ∀ (v3 : Int32) (v4 : Int32) (v5 : Int32) (v6 : Int32) (v7 : Int64) (v9 : Int32) (I : MI) (J : MJ), k45 v3 v4 v5 v6 v7 v9 I J → GW Z 10 I J 45 [(0, .ref (ea (zE Z) a0)), (1, .ref (ea (zE Z) a1)), (2, .ref (ea (zE Z) a2)), (3, .int v3), (4, .int v4), (5, .int v5), (6, .int v6), (7, .long v7), (9, .int v9)] []) (v3 : Int32) (v4 : Int32) (v5 : Int32) (v6 : Int32) (v7 : Int64) (v9 : Int32) (I : MI) (J : MJ) (h : vc_X5_joinOf_L45s a0 a1 a2 Q k7 k23 k45 v3 v4 v5 v6 v7 v9 I J) : GW Z 10 I J 45 [(0, .ref (ea (zE Z) a0)), (1, .ref (ea (zE Z) a1)), (2, .ref (ea (zE Z) a2)), (3, .int v3), (4, .int v4), (5, .int v5), (6, .int v6), (7, .long v7), (9, .int v9)] [] := by
  refine g_lload X dX5_joinOf_45 7 rfl ?_
  refine g_lconst X (v := 0) dX5_joinOf_47 (by decide) ?_
  refine g_lcmp X dX5_joinOf_48 ?_
  refine g_if_eq X (tgt := 97) dX5_joinOf_49 (by decide) (fun c1 => ?_) (fun c1 => ?_)
  · have h := h.1 c1
    obtain ⟨x2, ex2⟩ : ∃ y : Int32, y = v6 + 1 := ⟨_, rfl⟩
    have h := h x2 ex2
    refine g_iinc X (q := 6) (v := x2) (lv' := [(6, .int x2), (0, .ref (ea (zE Z) a0)), (1, .ref (ea (zE Z) a1)), (2, .ref (ea (zE Z) a2)), (3, .int v3), (4, .int v4), (5, .int v5), (7, .long v7), (9, .int v9)]) dX5_joinOf_97 rfl (by rw [ex2]; rfl) (by decide) rfl ?_
    refine g_goto X (tgt := 23) dX5_joinOf_100 (by decide) ?_
    refine GW.sub (lv' := [(0, .ref (ea (zE Z) a0)), (1, .ref (ea (zE Z) a1)), (2, .ref (ea (zE Z) a2)), (3, .int v3), (4, .int v4), (5, .int v5), (6, .int x2)]) [1, 2, 3, 4, 5, 6, 0] rfl ?_
    exact hk23 v3 v4 v5 x2 I J h
  · have h := h.2 c1
    refine g_iload X dX5_joinOf_52 6 rfl ?_
    refine g_iload X dX5_joinOf_54 8 rfl ?_
    refine g_iadd X dX5_joinOf_56 ?_
    refine g_bipush X (v := 100) dX5_joinOf_57 (by decide) ?_
    refine g_icmp_ge X (tgt := 97) dX5_joinOf_59 (by decide) (fun c3 => ?_) (fun c3 => ?_)
    · have h := h.1 c3
      obtain ⟨x4, ex4⟩ : ∃ y : Int32, y = v6 + 1 := ⟨_, rfl⟩
      have h := h x4 ex4
      refine g_iinc X (q := 6) (v := x4) (lv' := [(6, .int x4), (0, .ref (ea (zE Z) a0)), (1, .ref (ea (zE Z) a1)), (2, .ref (ea (zE Z) a2)), (3, .int v3), (4, .int v4), (5, .int v5), (7, .long v7), (9, .int v9)]) dX5_joinOf_97 rfl (by rw [ex4]; rfl) (by decide) rfl ?_
      refine g_goto X (tgt := 23) dX5_joinOf_100 (by decide) ?_
      refine GW.sub (lv' := [(0, .ref (ea (zE Z) a0)), (1, .ref (ea (zE Z) a1)), (2, .ref (ea (zE Z) a2)), (3, .int v3), (4, .int v4), (5, .int v5), (6, .int x4)]) [1, 2, 3, 4, 5, 6, 0] rfl ?_
      exact hk23 v3 v4 v5 x4 I J h
    · have h := h.2 c3
      refine g_aload_n X dX5_joinOf_62 rfl 0 rfl ?_
      refine g_getr X (C := RX5) (T := TX5) (N := 1) (ci := 3) (k := 0) iX5_joinOf_X5 rfl kX5_joinOf_13 (h0).lt0 (h0).o (by decide) rfl rfl dX5_joinOf_63 ?_
      refine g_iload X dX5_joinOf_66 5 rfl ?_
      refine g_iload X dX5_joinOf_68 6 rfl ?_
      refine g_iadd X dX5_joinOf_70 ?_
      refine g_iload X dX5_joinOf_71 8 rfl ?_
      refine g_iadd X dX5_joinOf_73 ?_
      refine g_dup2 X dX5_joinOf_74 rfl rfl ?_
      obtain ⟨b5, h⟩ := h
      refine g_lald X (h0).lt1 (h0).l b5 dX5_joinOf_75 ?_
      refine g_lload X dX5_joinOf_76 7 rfl ?_
      refine g_aload_n X dX5_joinOf_78 rfl 2 rfl ?_
      refine g_getr X (C := RX5) (T := TX5) (N := 1) (ci := 3) (k := 0) iX5_joinOf_X5 rfl kX5_joinOf_13 (h2).lt0 (h2).o (by decide) rfl rfl dX5_joinOf_79 ?_
      refine g_iload X dX5_joinOf_82 5 rfl ?_
      refine g_iload X dX5_joinOf_84 8 rfl ?_
      refine g_iadd X dX5_joinOf_86 ?_
      obtain ⟨b6, h⟩ := h
      refine g_lald X (h2).lt1 (h2).l b6 dX5_joinOf_87 ?_
      refine g_land X dX5_joinOf_88 ?_
      refine g_lor X dX5_joinOf_89 ?_
      obtain ⟨b7, h⟩ := h
      refine g_last X (h0).lt1 (h0).l b7 dX5_joinOf_90 ?_
      refine g_nmJ (fun J8 eJ8 => ?_)
      have h := h J8 eJ8
      obtain ⟨x9, ex9⟩ : ∃ y : Int32, y = v9 + 1 := ⟨_, rfl⟩
      have h := h x9 ex9
      refine g_iinc X (q := 8) (v := x9) (lv' := [(9, .int x9), (0, .ref (ea (zE Z) a0)), (1, .ref (ea (zE Z) a1)), (2, .ref (ea (zE Z) a2)), (3, .int v3), (4, .int v4), (5, .int v5), (6, .int v6), (7, .long v7)]) dX5_joinOf_91 rfl (by rw [ex9]; rfl) (by decide) rfl ?_
      refine g_goto X (tgt := 45) dX5_joinOf_94 (by decide) ?_
      refine GW.sub (lv' := [(0, .ref (ea (zE Z) a0)), (1, .ref (ea (zE Z) a1)), (2, .ref (ea (zE Z) a2)), (3, .int v3), (4, .int v4), (5, .int v5), (6, .int v6), (7, .long v7), (9, .int x9)]) [1, 2, 3, 4, 5, 6, 7, 8, 0] rfl ?_
      exact hk45 v3 v4 v5 v6 v7 x9 I J8 h
theorem w_X5_joinOf_L45 {Z : RT} {a0 : Nat} {a1 : Nat} {a2 : Nat} (X : Cx Z cX5_joinOf 10 RX5 wsX5_joinOf rmX5_joinOf none) {Q : MI → MJ → Prop} (R : RV Z Q) (h0 : isRe a0) (h1 : isRe a1) (h2 : isRe a2) {k7 : Int32 → Int32 → MI → MJ → Prop} {k23 : Int32 → Int32 → Int32 → Int32 → MI → MJ → Prop} (hk7 : ∀ (v3 : Int32) (v4 : Int32) (I : MI) (J : MJ), k7 v3 v4 I J → GW Z 10 I J 7 [(0, .ref (ea (zE Z) a0)), (1, .ref (ea (zE Z) a1)), (2, .ref (ea (zE Z) a2)), (3, .int v3), (4, .int v4)] []) (hk23 : ∀ (v3 : Int32) (v4 : Int32) (v5 : Int32) (v6 : Int32) (I : MI) (J : MJ), k23 v3 v4 v5 v6 I J → GW Z 10 I J 23 [(0, .ref (ea (zE Z) a0)), (1, .ref (ea (zE Z) a1)), (2, .ref (ea (zE Z) a2)), (3, .int v3), (4, .int v4), (5, .int v5), (6, .int v6)] []) : ∀ (n : Nat) (v3 : Int32) (v4 : Int32) (v5 : Int32) (v6 : Int32) (v7 : Int64) (v9 : Int32) (I : MI) (J : MJ) (h : vc_X5_joinOf_L45 a0 a1 a2 Q k7 k23 n v3 v4 v5 v6 v7 v9 I J), GW Z 10 I J 45 [(0, .ref (ea (zE Z) a0)), (1, .ref (ea (zE Z) a1)), (2, .ref (ea (zE Z) a2)), (3, .int v3), (4, .int v4), (5, .int v5), (6, .int v6), (7, .long v7), (9, .int v9)] [] := by
  intro n
  induction n with
  | zero => intro v3 v4 v5 v6 v7 v9 I J h; exact h.elim
  | succ n ih => intro v3 v4 v5 v6 v7 v9 I J h; exact w_X5_joinOf_L45s X R h0 h1 h2 hk7 hk23 ih v3 v4 v5 v6 v7 v9 I J h
def vc_X5_joinOf_L23s (a0 : Nat) (a1 : Nat) (a2 : Nat) (Q : MI → MJ → Prop) (k7 : Int32 → Int32 → MI → MJ → Prop) (k23 : Int32 → Int32 → Int32 → Int32 → MI → MJ → Prop) (v3 : Int32) (v4 : Int32) (v5 : Int32) (v6 : Int32) (I : MI) (J : MJ) : Prop := ((100 ≤ v6 → ∀ x11 : Int32, x11 = v4 + 1 → k7 v3 x11 I J) ∧ (¬ 100 ≤ v6 → vp_in (v5 + v6) 700 ∧ ∀ x13 : Int64, x13 = J (a1 + 1) (Int32.toNatClampNeg (v5 + v6)) → (∃ n, vc_X5_joinOf_L45 a0 a1 a2 Q k7 k23 n v3 v4 v5 v6 x13 0 I J)))
def vc_X5_joinOf_L23 (a0 : Nat) (a1 : Nat) (a2 : Nat) (Q : MI → MJ → Prop) (k7 : Int32 → Int32 → MI → MJ → Prop) (n : Nat) : Int32 → Int32 → Int32 → Int32 → MI → MJ → Prop := Nat.rec (fun _ _ _ _ _ _ => False) (fun _ ih => vc_X5_joinOf_L23s a0 a1 a2 Q k7 ih) n
set_option maxRecDepth 100000 in
set_option maxHeartbeats 4000000 in
theorem w_X5_joinOf_L23s {Z : RT} {a0 : Nat} {a1 : Nat} {a2 : Nat} (X : Cx Z cX5_joinOf 10 RX5 wsX5_joinOf rmX5_joinOf none) {Q : MI → MJ → Prop} (R : RV Z Q) (h0 : isRe a0) (h1 : isRe a1) (h2 : isRe a2) {k7 : Int32 → Int32 → MI → MJ → Prop} (hk7 : ∀ (v3 : Int32) (v4 : Int32) (I : MI) (J : MJ), k7 v3 v4 I J → GW Z 10 I J 7 [(0, .ref (ea (zE Z) a0)), (1, .ref (ea (zE Z) a1)), (2, .ref (ea (zE Z) a2)), (3, .int v3), (4, .int v4)] []) {k23 : Int32 → Int32 → Int32 → Int32 → MI → MJ → Prop} (hk23 : ∀ (v3 : Int32) (v4 : Int32) (v5 : Int32) (v6 : Int32) (I : MI) (J : MJ), k23 v3 v4 v5 v6 I J → GW Z 10 I J 23 [(0, .ref (ea (zE Z) a0)), (1, .ref (ea (zE Z) a1)), (2, .ref (ea (zE Z) a2)), (3, .int v3), (4, .int v4), (5, .int v5), (6, .int v6)] []) (v3 : Int32) (v4 : Int32) (v5 : Int32) (v6 : Int32) (I : MI) (J : MJ) (h : vc_X5_joinOf_L23s a0 a1 a2 Q k7 k23 v3 v4 v5 v6 I J) : GW Z 10 I J 23 [(0, .ref (ea (zE Z) a0)), (1, .ref (ea (zE Z) a1)), (2, .ref (ea (zE Z) a2)), (3, .int v3), (4, .int v4), (5, .int v5), (6, .int v6)] [] := by
  refine g_iload X dX5_joinOf_23 6 rfl ?_
  refine g_bipush X (v := 100) dX5_joinOf_25 (by decide) ?_
  refine g_icmp_ge X (tgt := 103) dX5_joinOf_27 (by decide) (fun c10 => ?_) (fun c10 => ?_)
  · have h := h.1 c10
    obtain ⟨x11, ex11⟩ : ∃ y : Int32, y = v4 + 1 := ⟨_, rfl⟩
    have h := h x11 ex11
    refine g_iinc X (q := 4) (v := x11) (lv' := [(4, .int x11), (0, .ref (ea (zE Z) a0)), (1, .ref (ea (zE Z) a1)), (2, .ref (ea (zE Z) a2)), (3, .int v3), (5, .int v5), (6, .int v6)]) dX5_joinOf_103 rfl (by rw [ex11]; rfl) (by decide) rfl ?_
    refine g_goto X (tgt := 7) dX5_joinOf_106 (by decide) ?_
    refine GW.sub (lv' := [(0, .ref (ea (zE Z) a0)), (1, .ref (ea (zE Z) a1)), (2, .ref (ea (zE Z) a2)), (3, .int v3), (4, .int x11)]) [1, 2, 3, 4, 0] rfl ?_
    exact hk7 v3 x11 I J h
  · have h := h.2 c10
    refine g_aload_n X dX5_joinOf_30 rfl 1 rfl ?_
    refine g_getr X (C := RX5) (T := TX5) (N := 1) (ci := 3) (k := 0) iX5_joinOf_X5 rfl kX5_joinOf_13 (h1).lt0 (h1).o (by decide) rfl rfl dX5_joinOf_31 ?_
    refine g_iload X dX5_joinOf_34 5 rfl ?_
    refine g_iload X dX5_joinOf_36 6 rfl ?_
    refine g_iadd X dX5_joinOf_38 ?_
    obtain ⟨b12, h⟩ := h
    refine g_lald X (h1).lt1 (h1).l b12 dX5_joinOf_39 ?_
    refine g_topl (fun x13 ex13 => ?_)
    have h := h x13 ex13
    refine g_lstore X (lv' := [(7, .long x13), (0, .ref (ea (zE Z) a0)), (1, .ref (ea (zE Z) a1)), (2, .ref (ea (zE Z) a2)), (3, .int v3), (4, .int v4), (5, .int v5), (6, .int v6)]) dX5_joinOf_40 (by decide) rfl ?_
    refine g_iconst X (v := 0) dX5_joinOf_42 (by decide) ?_
    refine g_istore X (lv' := [(9, .int 0), (7, .long x13), (0, .ref (ea (zE Z) a0)), (1, .ref (ea (zE Z) a1)), (2, .ref (ea (zE Z) a2)), (3, .int v3), (4, .int v4), (5, .int v5), (6, .int v6)]) dX5_joinOf_43 (by decide) rfl ?_
    refine GW.sub (lv' := [(0, .ref (ea (zE Z) a0)), (1, .ref (ea (zE Z) a1)), (2, .ref (ea (zE Z) a2)), (3, .int v3), (4, .int v4), (5, .int v5), (6, .int v6), (7, .long x13), (9, .int 0)]) [2, 3, 4, 5, 6, 7, 8, 1, 0] rfl ?_
    obtain ⟨n, h⟩ := h
    exact w_X5_joinOf_L45 X R h0 h1 h2 hk7 hk23 n v3 v4 v5 v6 x13 0 I J h
theorem w_X5_joinOf_L23 {Z : RT} {a0 : Nat} {a1 : Nat} {a2 : Nat} (X : Cx Z cX5_joinOf 10 RX5 wsX5_joinOf rmX5_joinOf none) {Q : MI → MJ → Prop} (R : RV Z Q) (h0 : isRe a0) (h1 : isRe a1) (h2 : isRe a2) {k7 : Int32 → Int32 → MI → MJ → Prop} (hk7 : ∀ (v3 : Int32) (v4 : Int32) (I : MI) (J : MJ), k7 v3 v4 I J → GW Z 10 I J 7 [(0, .ref (ea (zE Z) a0)), (1, .ref (ea (zE Z) a1)), (2, .ref (ea (zE Z) a2)), (3, .int v3), (4, .int v4)] []) : ∀ (n : Nat) (v3 : Int32) (v4 : Int32) (v5 : Int32) (v6 : Int32) (I : MI) (J : MJ) (h : vc_X5_joinOf_L23 a0 a1 a2 Q k7 n v3 v4 v5 v6 I J), GW Z 10 I J 23 [(0, .ref (ea (zE Z) a0)), (1, .ref (ea (zE Z) a1)), (2, .ref (ea (zE Z) a2)), (3, .int v3), (4, .int v4), (5, .int v5), (6, .int v6)] [] := by
  intro n
  induction n with
  | zero => intro v3 v4 v5 v6 I J h; exact h.elim
  | succ n ih => intro v3 v4 v5 v6 I J h; exact w_X5_joinOf_L23s X R h0 h1 h2 hk7 ih v3 v4 v5 v6 I J h
def vc_X5_joinOf_L7s (a0 : Nat) (a1 : Nat) (a2 : Nat) (Q : MI → MJ → Prop)  (k7 : Int32 → Int32 → MI → MJ → Prop) (v3 : Int32) (v4 : Int32) (I : MI) (J : MJ) : Prop := ((v3 ≤ v4 → Q I J) ∧ (¬ v3 ≤ v4 → ∀ x15 : Int32, x15 = v4 * 100 → (∃ n, vc_X5_joinOf_L23 a0 a1 a2 Q k7 n v3 v4 x15 0 I J)))
def vc_X5_joinOf_L7 (a0 : Nat) (a1 : Nat) (a2 : Nat) (Q : MI → MJ → Prop)  (n : Nat) : Int32 → Int32 → MI → MJ → Prop := Nat.rec (fun _ _ _ _ => False) (fun _ ih => vc_X5_joinOf_L7s a0 a1 a2 Q  ih) n
set_option maxRecDepth 100000 in
set_option maxHeartbeats 4000000 in
theorem w_X5_joinOf_L7s {Z : RT} {a0 : Nat} {a1 : Nat} {a2 : Nat} (X : Cx Z cX5_joinOf 10 RX5 wsX5_joinOf rmX5_joinOf none) {Q : MI → MJ → Prop} (R : RV Z Q) (h0 : isRe a0) (h1 : isRe a1) (h2 : isRe a2)   {k7 : Int32 → Int32 → MI → MJ → Prop} (hk7 : ∀ (v3 : Int32) (v4 : Int32) (I : MI) (J : MJ), k7 v3 v4 I J → GW Z 10 I J 7 [(0, .ref (ea (zE Z) a0)), (1, .ref (ea (zE Z) a1)), (2, .ref (ea (zE Z) a2)), (3, .int v3), (4, .int v4)] []) (v3 : Int32) (v4 : Int32) (I : MI) (J : MJ) (h : vc_X5_joinOf_L7s a0 a1 a2 Q  k7 v3 v4 I J) : GW Z 10 I J 7 [(0, .ref (ea (zE Z) a0)), (1, .ref (ea (zE Z) a1)), (2, .ref (ea (zE Z) a2)), (3, .int v3), (4, .int v4)] [] := by
  refine g_iload X dX5_joinOf_7 4 rfl ?_
  refine g_iload_n X dX5_joinOf_9 rfl 3 rfl ?_
  refine g_icmp_ge X (tgt := 109) dX5_joinOf_10 (by decide) (fun c14 => ?_) (fun c14 => ?_)
  · have h := h.1 c14
    exact g_vret X R dX5_joinOf_109 h
  · have h := h.2 c14
    refine g_iload X dX5_joinOf_13 4 rfl ?_
    refine g_bipush X (v := 100) dX5_joinOf_15 (by decide) ?_
    refine g_imul X dX5_joinOf_17 ?_
    refine g_topi (fun x15 ex15 => ?_)
    have h := h x15 ex15
    refine g_istore X (lv' := [(5, .int x15), (0, .ref (ea (zE Z) a0)), (1, .ref (ea (zE Z) a1)), (2, .ref (ea (zE Z) a2)), (3, .int v3), (4, .int v4)]) dX5_joinOf_18 (by decide) rfl ?_
    refine g_iconst X (v := 0) dX5_joinOf_20 (by decide) ?_
    refine g_istore X (lv' := [(6, .int 0), (5, .int x15), (0, .ref (ea (zE Z) a0)), (1, .ref (ea (zE Z) a1)), (2, .ref (ea (zE Z) a2)), (3, .int v3), (4, .int v4)]) dX5_joinOf_21 (by decide) rfl ?_
    refine GW.sub (lv' := [(0, .ref (ea (zE Z) a0)), (1, .ref (ea (zE Z) a1)), (2, .ref (ea (zE Z) a2)), (3, .int v3), (4, .int v4), (5, .int x15), (6, .int 0)]) [2, 3, 4, 5, 6, 1, 0] rfl ?_
    obtain ⟨n, h⟩ := h
    exact w_X5_joinOf_L23 X R h0 h1 h2 hk7 n v3 v4 x15 0 I J h
theorem w_X5_joinOf_L7 {Z : RT} {a0 : Nat} {a1 : Nat} {a2 : Nat} (X : Cx Z cX5_joinOf 10 RX5 wsX5_joinOf rmX5_joinOf none) {Q : MI → MJ → Prop} (R : RV Z Q) (h0 : isRe a0) (h1 : isRe a1) (h2 : isRe a2)   : ∀ (n : Nat) (v3 : Int32) (v4 : Int32) (I : MI) (J : MJ) (h : vc_X5_joinOf_L7 a0 a1 a2 Q  n v3 v4 I J), GW Z 10 I J 7 [(0, .ref (ea (zE Z) a0)), (1, .ref (ea (zE Z) a1)), (2, .ref (ea (zE Z) a2)), (3, .int v3), (4, .int v4)] [] := by
  intro n
  induction n with
  | zero => intro v3 v4 I J h; exact h.elim
  | succ n ih => intro v3 v4 I J h; exact w_X5_joinOf_L7s X R h0 h1 h2  ih v3 v4 I J h
def vc_X5_joinOf (a0 : Nat) (a1 : Nat) (a2 : Nat) (p3 : Int32) (I : MI) (J : MJ) (Q : MI → MJ → Prop) : Prop := vc_X5_clear a0 I J (fun (I16 : MI) (J17 : MJ) => (∃ n, vc_X5_joinOf_L7 a0 a1 a2 Q  n p3 0 I16 J17))
set_option maxRecDepth 100000 in
set_option maxHeartbeats 4000000 in
theorem c_X5_joinOf (l : Launch) (E : ET) {a0 : Nat} {a1 : Nat} {a2 : Nat} (h0 : isRe a0) (h1 : isRe a1) (h2 : isRe a2) (p3 : Int32) : CV l yX5_joinOf wsX5_joinOf rmX5_joinOf E [.ref (ea E a0), .ref (ea E a1), .ref (ea E a2), .int p3] (vc_X5_joinOf a0 a1 a2 p3) := by
  refine CV.of (cc := cX5_joinOf) (maxL := 10) (own := RX5) (by decide) rfl rfl (Nat.le_of_ble_eq_true rfl) ?_
  intro Z I J Q hE hl X R h
  subst hE
  subst hl
  show GW Z 10 I J 0 [(0, .ref (ea (zE Z) a0)), (1, .ref (ea (zE Z) a1)), (2, .ref (ea (zE Z) a2)), (3, .int p3)] []
  refine g_aload_n X dX5_joinOf_0 rfl 0 rfl ?_
  refine g_callVV X (As := []) (rest := []) (T := TX5) (N := 1) (c_X5_clear (zl Z) (zE Z) (h0)) gX5_joinOf_X5_clear yo_X5_clear rfl ⟨Nat.le_of_ble_eq_true rfl, Nat.le_of_ble_eq_true rfl⟩ (h0).lt0 (h0).o rfl rfl dX5_joinOf_1 h (fun  I16 J17 h => ?_)
  refine g_iconst X (v := 0) dX5_joinOf_4 (by decide) ?_
  refine g_istore X (lv' := [(4, .int 0), (0, .ref (ea (zE Z) a0)), (1, .ref (ea (zE Z) a1)), (2, .ref (ea (zE Z) a2)), (3, .int p3)]) dX5_joinOf_5 (by decide) rfl ?_
  refine GW.sub (lv' := [(0, .ref (ea (zE Z) a0)), (1, .ref (ea (zE Z) a1)), (2, .ref (ea (zE Z) a2)), (3, .int p3), (4, .int 0)]) [1, 2, 3, 4, 0] rfl ?_
  obtain ⟨n, h⟩ := h
  exact w_X5_joinOf_L7 X R h0 h1 h2  n p3 0 I16 J17 h

/-! X5_mostIn.mostIn(I)I -/
def rmX5_mostIn : Room := { frames := 0, cells := 0, slots := 0, locals := 0 }
theorem yo_X5_mostIn : yX5_mostIn.cls = RX5 ∧ yX5_mostIn.cls ≠ "java/lang/invoke/MethodHandle" ∧ yX5_mostIn.cls ≠ "java/lang/invoke/VarHandle" ∧ (parseMethodDescriptor yX5_mostIn.desc).map (fun d => d.parameters.length) = some 1 := by decide +kernel
theorem kX5_mostIn_13 : Cond.fieldLink RX5 13 "SnowCourse$Reach" (TX5 0).2.1 (TX5 0).2.2.1 ∈ wsX5_mostIn := by decide +kernel
theorem iX5_mostIn_X5 : ∀ w ∈ u_ws RX5 TX5 1, w ∈ wsX5_mostIn := by decide +kernel
def vc_X5_mostIn_L3s (a0 : Nat) (Q : Int32 → MI → MJ → Prop)  (k3 : Int32 → Int32 → MI → MJ → Prop) (v1 : Int32) (v2 : Int32) (I : MI) (J : MJ) : Prop := ((v2 < 0 → Q (-1) I J) ∧ (¬ v2 < 0 → vp_in ((v1 * 100) + v2) 700 ∧ (((lg_cmp (J (a0 + 1) (Int32.toNatClampNeg ((v1 * 100) + v2))) 0) = 0 → ∀ x4 : Int32, x4 = v2 + (-1) → k3 v1 x4 I J) ∧ (¬ (lg_cmp (J (a0 + 1) (Int32.toNatClampNeg ((v1 * 100) + v2))) 0) = 0 → Q v2 I J))))
def vc_X5_mostIn_L3 (a0 : Nat) (Q : Int32 → MI → MJ → Prop)  (n : Nat) : Int32 → Int32 → MI → MJ → Prop := Nat.rec (fun _ _ _ _ => False) (fun _ ih => vc_X5_mostIn_L3s a0 Q  ih) n
set_option maxRecDepth 100000 in
set_option maxHeartbeats 4000000 in
theorem w_X5_mostIn_L3s {Z : RT} {a0 : Nat} (X : Cx Z cX5_mostIn 3 RX5 wsX5_mostIn rmX5_mostIn (some .int)) {Q : Int32 → MI → MJ → Prop} (R : RI Z Q) (h0 : isRe a0)   {k3 : Int32 → Int32 → MI → MJ → Prop} (hk3 : ∀ (v1 : Int32) (v2 : Int32) (I : MI) (J : MJ), k3 v1 v2 I J → GW Z 3 I J 3 [(0, .ref (ea (zE Z) a0)), (1, .int v1), (2, .int v2)] []) (v1 : Int32) (v2 : Int32) (I : MI) (J : MJ) (h : vc_X5_mostIn_L3s a0 Q  k3 v1 v2 I J) : GW Z 3 I J 3 [(0, .ref (ea (zE Z) a0)), (1, .int v1), (2, .int v2)] [] := by
  refine g_iload_n X dX5_mostIn_3 rfl 2 rfl ?_
  refine g_if_lt X (tgt := 31) dX5_mostIn_4 (by decide) (fun c1 => ?_) (fun c1 => ?_)
  · have h := h.1 c1
    refine g_iconst X (v := (-1)) dX5_mostIn_31 (by decide) ?_
    exact g_iret X R dX5_mostIn_32 h
  · have h := h.2 c1
    refine g_aload_n X dX5_mostIn_7 rfl 0 rfl ?_
    refine g_getr X (C := RX5) (T := TX5) (N := 1) (ci := 3) (k := 0) iX5_mostIn_X5 rfl kX5_mostIn_13 (h0).lt0 (h0).o (by decide) rfl rfl dX5_mostIn_8 ?_
    refine g_iload_n X dX5_mostIn_11 rfl 1 rfl ?_
    refine g_bipush X (v := 100) dX5_mostIn_12 (by decide) ?_
    refine g_imul X dX5_mostIn_14 ?_
    refine g_iload_n X dX5_mostIn_15 rfl 2 rfl ?_
    refine g_iadd X dX5_mostIn_16 ?_
    obtain ⟨b2, h⟩ := h
    refine g_lald X (h0).lt1 (h0).l b2 dX5_mostIn_17 ?_
    refine g_lconst X (v := 0) dX5_mostIn_18 (by decide) ?_
    refine g_lcmp X dX5_mostIn_19 ?_
    refine g_if_eq X (tgt := 25) dX5_mostIn_20 (by decide) (fun c3 => ?_) (fun c3 => ?_)
    · have h := h.1 c3
      obtain ⟨x4, ex4⟩ : ∃ y : Int32, y = v2 + (-1) := ⟨_, rfl⟩
      have h := h x4 ex4
      refine g_iinc X (q := 2) (v := x4) (lv' := [(2, .int x4), (0, .ref (ea (zE Z) a0)), (1, .int v1)]) dX5_mostIn_25 rfl (by rw [ex4]; rfl) (by decide) rfl ?_
      refine g_goto X (tgt := 3) dX5_mostIn_28 (by decide) ?_
      refine GW.sub (lv' := [(0, .ref (ea (zE Z) a0)), (1, .int v1), (2, .int x4)]) [1, 2, 0] rfl ?_
      exact hk3 v1 x4 I J h
    · have h := h.2 c3
      refine g_iload_n X dX5_mostIn_23 rfl 2 rfl ?_
      exact g_iret X R dX5_mostIn_24 h
theorem w_X5_mostIn_L3 {Z : RT} {a0 : Nat} (X : Cx Z cX5_mostIn 3 RX5 wsX5_mostIn rmX5_mostIn (some .int)) {Q : Int32 → MI → MJ → Prop} (R : RI Z Q) (h0 : isRe a0)   : ∀ (n : Nat) (v1 : Int32) (v2 : Int32) (I : MI) (J : MJ) (h : vc_X5_mostIn_L3 a0 Q  n v1 v2 I J), GW Z 3 I J 3 [(0, .ref (ea (zE Z) a0)), (1, .int v1), (2, .int v2)] [] := by
  intro n
  induction n with
  | zero => intro v1 v2 I J h; exact h.elim
  | succ n ih => intro v1 v2 I J h; exact w_X5_mostIn_L3s X R h0  ih v1 v2 I J h
def vc_X5_mostIn (a0 : Nat) (p1 : Int32) (I : MI) (J : MJ) (Q : Int32 → MI → MJ → Prop) : Prop := (∃ n, vc_X5_mostIn_L3 a0 Q  n p1 99 I J)
set_option maxRecDepth 100000 in
set_option maxHeartbeats 4000000 in
theorem c_X5_mostIn (l : Launch) (E : ET) {a0 : Nat} (h0 : isRe a0) (p1 : Int32) : CI l yX5_mostIn wsX5_mostIn rmX5_mostIn E [.ref (ea E a0), .int p1] (vc_X5_mostIn a0 p1) := by
  refine CI.of (cc := cX5_mostIn) (maxL := 3) (own := RX5) (by decide) rfl rfl (Nat.le_of_ble_eq_true rfl) ?_
  intro Z I J Q hE hl X R h
  subst hE
  subst hl
  show GW Z 3 I J 0 [(0, .ref (ea (zE Z) a0)), (1, .int p1)] []
  refine g_bipush X (v := 99) dX5_mostIn_0 (by decide) ?_
  refine g_istore_n X (lv' := [(2, .int 99), (0, .ref (ea (zE Z) a0)), (1, .int p1)]) dX5_mostIn_2 rfl (by decide) rfl ?_
  refine GW.sub (lv' := [(0, .ref (ea (zE Z) a0)), (1, .int p1), (2, .int 99)]) [1, 2, 0] rfl ?_
  obtain ⟨n, h⟩ := h
  exact w_X5_mostIn_L3 X R h0  n p1 99 I J h

/-! X5_soonestOfMost.soonestOfMost(I)I -/
def rmX5_soonestOfMost : Room := { frames := 1, cells := 0, slots := 0, locals := 22 }
theorem yo_X5_soonestOfMost : yX5_soonestOfMost.cls = RX5 ∧ yX5_soonestOfMost.cls ≠ "java/lang/invoke/MethodHandle" ∧ yX5_soonestOfMost.cls ≠ "java/lang/invoke/VarHandle" ∧ (parseMethodDescriptor yX5_soonestOfMost.desc).map (fun d => d.parameters.length) = some 1 := by decide +kernel
theorem kX5_soonestOfMost_13 : Cond.fieldLink RX5 13 "SnowCourse$Reach" (TX5 0).2.1 (TX5 0).2.2.1 ∈ wsX5_soonestOfMost := by decide +kernel
theorem iX5_soonestOfMost_X5 : ∀ w ∈ u_ws RX5 TX5 1, w ∈ wsX5_soonestOfMost := by decide +kernel
def vc_X5_soonestOfMost_L28s (a0 : Nat) (Q : Int32 → MI → MJ → Prop)  (k28 : Int64 → Int32 → MI → MJ → Prop) (v3 : Int64) (v5 : Int32) (I : MI) (J : MJ) : Prop := ((48 < v5 → Q (-1) I J) ∧ (¬ 48 < v5 → (((lg_cmp ((v3 >>> (Int32.toInt64 v5 &&& 63)) &&& 1) 0) = 0 → ∀ x3 : Int32, x3 = v5 + 1 → k28 v3 x3 I J) ∧ (¬ (lg_cmp ((v3 >>> (Int32.toInt64 v5 &&& 63)) &&& 1) 0) = 0 → Q v5 I J))))
def vc_X5_soonestOfMost_L28 (a0 : Nat) (Q : Int32 → MI → MJ → Prop)  (n : Nat) : Int64 → Int32 → MI → MJ → Prop := Nat.rec (fun _ _ _ _ => False) (fun _ ih => vc_X5_soonestOfMost_L28s a0 Q  ih) n
set_option maxRecDepth 100000 in
set_option maxHeartbeats 4000000 in
theorem w_X5_soonestOfMost_L28s {Z : RT} {a0 : Nat} (X : Cx Z cX5_soonestOfMost 6 RX5 wsX5_soonestOfMost rmX5_soonestOfMost (some .int)) {Q : Int32 → MI → MJ → Prop} (R : RI Z Q) (h0 : isRe a0)   {k28 : Int64 → Int32 → MI → MJ → Prop} (hk28 : ∀ (v3 : Int64) (v5 : Int32) (I : MI) (J : MJ), k28 v3 v5 I J → GW Z 6 I J 28 [(3, .long v3), (5, .int v5)] []) (v3 : Int64) (v5 : Int32) (I : MI) (J : MJ) (h : vc_X5_soonestOfMost_L28s a0 Q  k28 v3 v5 I J) : GW Z 6 I J 28 [(3, .long v3), (5, .int v5)] [] := by
  refine g_iload X dX5_soonestOfMost_28 1 rfl ?_
  refine g_bipush X (v := 48) dX5_soonestOfMost_30 (by decide) ?_
  refine g_icmp_gt X (tgt := 55) dX5_soonestOfMost_32 (by decide) (fun c1 => ?_) (fun c1 => ?_)
  · have h := h.1 c1
    refine g_iconst X (v := (-1)) dX5_soonestOfMost_55 (by decide) ?_
    exact g_iret X R dX5_soonestOfMost_56 h
  · have h := h.2 c1
    refine g_lload_n X dX5_soonestOfMost_35 rfl 0 rfl ?_
    refine g_iload X dX5_soonestOfMost_36 1 rfl ?_
    refine g_lshr X dX5_soonestOfMost_38 ?_
    refine g_lconst X (v := 1) dX5_soonestOfMost_39 (by decide) ?_
    refine g_land X dX5_soonestOfMost_40 ?_
    refine g_lconst X (v := 0) dX5_soonestOfMost_41 (by decide) ?_
    refine g_lcmp X dX5_soonestOfMost_42 ?_
    refine g_if_eq X (tgt := 49) dX5_soonestOfMost_43 (by decide) (fun c2 => ?_) (fun c2 => ?_)
    · have h := h.1 c2
      obtain ⟨x3, ex3⟩ : ∃ y : Int32, y = v5 + 1 := ⟨_, rfl⟩
      have h := h x3 ex3
      refine g_iinc X (q := 1) (v := x3) (lv' := [(5, .int x3), (3, .long v3)]) dX5_soonestOfMost_49 rfl (by rw [ex3]; rfl) (by decide) rfl ?_
      refine g_goto X (tgt := 28) dX5_soonestOfMost_52 (by decide) ?_
      refine GW.sub (lv' := [(3, .long v3), (5, .int x3)]) [1, 0] rfl ?_
      exact hk28 v3 x3 I J h
    · have h := h.2 c2
      refine g_iload X dX5_soonestOfMost_46 1 rfl ?_
      exact g_iret X R dX5_soonestOfMost_48 h
theorem w_X5_soonestOfMost_L28 {Z : RT} {a0 : Nat} (X : Cx Z cX5_soonestOfMost 6 RX5 wsX5_soonestOfMost rmX5_soonestOfMost (some .int)) {Q : Int32 → MI → MJ → Prop} (R : RI Z Q) (h0 : isRe a0)   : ∀ (n : Nat) (v3 : Int64) (v5 : Int32) (I : MI) (J : MJ) (h : vc_X5_soonestOfMost_L28 a0 Q  n v3 v5 I J), GW Z 6 I J 28 [(3, .long v3), (5, .int v5)] [] := by
  intro n
  induction n with
  | zero => intro v3 v5 I J h; exact h.elim
  | succ n ih => intro v3 v5 I J h; exact w_X5_soonestOfMost_L28s X R h0  ih v3 v5 I J h
def vc_X5_soonestOfMost (a0 : Nat) (p1 : Int32) (I : MI) (J : MJ) (Q : Int32 → MI → MJ → Prop) : Prop := vc_X5_mostIn a0 p1 I J (fun (r6 : Int32) (I4 : MI) (J5 : MJ) => ((¬ r6 = (-1) → vp_in ((p1 * 100) + r6) 700 ∧ ∀ x9 : Int64, x9 = J5 (a0 + 1) (Int32.toNatClampNeg ((p1 * 100) + r6)) → (∃ n, vc_X5_soonestOfMost_L28 a0 Q  n x9 0 I4 J5)) ∧ (r6 = (-1) → Q (-1) I4 J5)))
set_option maxRecDepth 100000 in
set_option maxHeartbeats 4000000 in
theorem c_X5_soonestOfMost (l : Launch) (E : ET) {a0 : Nat} (h0 : isRe a0) (p1 : Int32) : CI l yX5_soonestOfMost wsX5_soonestOfMost rmX5_soonestOfMost E [.ref (ea E a0), .int p1] (vc_X5_soonestOfMost a0 p1) := by
  refine CI.of (cc := cX5_soonestOfMost) (maxL := 6) (own := RX5) (by decide) rfl rfl (Nat.le_of_ble_eq_true rfl) ?_
  intro Z I J Q hE hl X R h
  subst hE
  subst hl
  show GW Z 6 I J 0 [(0, .ref (ea (zE Z) a0)), (1, .int p1)] []
  refine g_aload_n X dX5_soonestOfMost_0 rfl 0 rfl ?_
  refine g_iload_n X dX5_soonestOfMost_1 rfl 1 rfl ?_
  refine g_callVI X (As := [.int p1]) (rest := []) (T := TX5) (N := 1) (c_X5_mostIn (zl Z) (zE Z) (h0) p1) gX5_soonestOfMost_X5_mostIn yo_X5_mostIn rfl ⟨Nat.le_of_ble_eq_true rfl, Nat.le_of_ble_eq_true rfl⟩ (h0).lt0 (h0).o rfl rfl dX5_soonestOfMost_2 h (fun r6 I4 J5 h => ?_)
  refine g_istore_n X (lv' := [(2, .int r6), (0, .ref (ea (zE Z) a0)), (1, .int p1)]) dX5_soonestOfMost_5 rfl (by decide) rfl ?_
  refine g_iload_n X dX5_soonestOfMost_6 rfl 0 rfl ?_
  refine g_iconst X (v := (-1)) dX5_soonestOfMost_7 (by decide) ?_
  refine g_icmp_ne X (tgt := 13) dX5_soonestOfMost_8 (by decide) (fun c7 => ?_) (fun c7 => ?_)
  · have h := h.1 c7
    refine g_aload_n X dX5_soonestOfMost_13 rfl 1 rfl ?_
    refine g_getr X (C := RX5) (T := TX5) (N := 1) (ci := 3) (k := 0) iX5_soonestOfMost_X5 rfl kX5_soonestOfMost_13 (h0).lt0 (h0).o (by decide) rfl rfl dX5_soonestOfMost_14 ?_
    refine g_iload_n X dX5_soonestOfMost_17 rfl 2 rfl ?_
    refine g_bipush X (v := 100) dX5_soonestOfMost_18 (by decide) ?_
    refine g_imul X dX5_soonestOfMost_20 ?_
    refine g_iload_n X dX5_soonestOfMost_21 rfl 0 rfl ?_
    refine g_iadd X dX5_soonestOfMost_22 ?_
    obtain ⟨b8, h⟩ := h
    refine g_lald X (h0).lt1 (h0).l b8 dX5_soonestOfMost_23 ?_
    refine g_topl (fun x9 ex9 => ?_)
    have h := h x9 ex9
    refine g_lstore_n X (lv' := [(3, .long x9), (2, .int r6), (0, .ref (ea (zE Z) a0)), (1, .int p1)]) dX5_soonestOfMost_24 rfl (by decide) rfl ?_
    refine g_iconst X (v := 0) dX5_soonestOfMost_25 (by decide) ?_
    refine g_istore X (lv' := [(5, .int 0), (3, .long x9), (2, .int r6), (0, .ref (ea (zE Z) a0)), (1, .int p1)]) dX5_soonestOfMost_26 (by decide) rfl ?_
    refine GW.sub (lv' := [(3, .long x9), (5, .int 0)]) [1, 0] rfl ?_
    obtain ⟨n, h⟩ := h
    exact w_X5_soonestOfMost_L28 X R h0  n x9 0 I4 J5 h
  · have h := h.2 c7
    refine g_iconst X (v := (-1)) dX5_soonestOfMost_11 (by decide) ?_
    exact g_iret X R dX5_soonestOfMost_12 h

/-! X5_unlikeIn.unlikeIn(I)I -/
def rmX5_unlikeIn : Room := { frames := 0, cells := 0, slots := 0, locals := 0 }
theorem yo_X5_unlikeIn : yX5_unlikeIn.cls = RX5 ∧ yX5_unlikeIn.cls ≠ "java/lang/invoke/MethodHandle" ∧ yX5_unlikeIn.cls ≠ "java/lang/invoke/VarHandle" ∧ (parseMethodDescriptor yX5_unlikeIn.desc).map (fun d => d.parameters.length) = some 1 := by decide +kernel
theorem kX5_unlikeIn_13 : Cond.fieldLink RX5 13 "SnowCourse$Reach" (TX5 0).2.1 (TX5 0).2.2.1 ∈ wsX5_unlikeIn := by decide +kernel
theorem iX5_unlikeIn_X5 : ∀ w ∈ u_ws RX5 TX5 1, w ∈ wsX5_unlikeIn := by decide +kernel
def vc_X5_unlikeIn_L4s (a0 : Nat) (Q : Int32 → MI → MJ → Prop)  (k4 : Int32 → Int32 → Int32 → MI → MJ → Prop) (v1 : Int32) (v2 : Int32) (v3 : Int32) (I : MI) (J : MJ) : Prop := ((99 < v3 → ((¬ v2 = 0 → Q v2 I J) ∧ (v2 = 0 → Q (-1) I J))) ∧ (¬ 99 < v3 → vp_in ((v1 * 100) + v3) 700 ∧ (((lg_cmp (J (a0 + 1) (Int32.toNatClampNeg ((v1 * 100) + v3))) 0) = 0 → ∀ x5 : Int32, x5 = v3 + 1 → k4 v1 v2 x5 I J) ∧ (¬ (lg_cmp (J (a0 + 1) (Int32.toNatClampNeg ((v1 * 100) + v3))) 0) = 0 → ∀ x6 : Int32, x6 = v2 + 1 → ∀ x7 : Int32, x7 = v3 + 1 → k4 v1 x6 x7 I J))))
def vc_X5_unlikeIn_L4 (a0 : Nat) (Q : Int32 → MI → MJ → Prop)  (n : Nat) : Int32 → Int32 → Int32 → MI → MJ → Prop := Nat.rec (fun _ _ _ _ _ => False) (fun _ ih => vc_X5_unlikeIn_L4s a0 Q  ih) n
set_option maxRecDepth 100000 in
set_option maxHeartbeats 4000000 in
theorem w_X5_unlikeIn_L4s {Z : RT} {a0 : Nat} (X : Cx Z cX5_unlikeIn 4 RX5 wsX5_unlikeIn rmX5_unlikeIn (some .int)) {Q : Int32 → MI → MJ → Prop} (R : RI Z Q) (h0 : isRe a0)   {k4 : Int32 → Int32 → Int32 → MI → MJ → Prop} (hk4 : ∀ (v1 : Int32) (v2 : Int32) (v3 : Int32) (I : MI) (J : MJ), k4 v1 v2 v3 I J → GW Z 4 I J 4 [(0, .ref (ea (zE Z) a0)), (1, .int v1), (2, .int v2), (3, .int v3)] []) (v1 : Int32) (v2 : Int32) (v3 : Int32) (I : MI) (J : MJ) (h : vc_X5_unlikeIn_L4s a0 Q  k4 v1 v2 v3 I J) : GW Z 4 I J 4 [(0, .ref (ea (zE Z) a0)), (1, .int v1), (2, .int v2), (3, .int v3)] [] := by
  refine g_iload_n X dX5_unlikeIn_4 rfl 3 rfl ?_
  refine g_bipush X (v := 99) dX5_unlikeIn_5 (by decide) ?_
  refine g_icmp_gt X (tgt := 35) dX5_unlikeIn_7 (by decide) (fun c1 => ?_) (fun c1 => ?_)
  · have h := h.1 c1
    refine g_iload_n X dX5_unlikeIn_35 rfl 2 rfl ?_
    refine g_if_ne X (tgt := 43) dX5_unlikeIn_36 (by decide) (fun c2 => ?_) (fun c2 => ?_)
    · have h := h.1 c2
      refine g_iload_n X dX5_unlikeIn_43 rfl 2 rfl ?_
      exact g_iret X R dX5_unlikeIn_44 h
    · have h := h.2 c2
      refine g_iconst X (v := (-1)) dX5_unlikeIn_39 (by decide) ?_
      refine g_goto X (tgt := 44) dX5_unlikeIn_40 (by decide) ?_
      exact g_iret X R dX5_unlikeIn_44 h
  · have h := h.2 c1
    refine g_aload_n X dX5_unlikeIn_10 rfl 0 rfl ?_
    refine g_getr X (C := RX5) (T := TX5) (N := 1) (ci := 3) (k := 0) iX5_unlikeIn_X5 rfl kX5_unlikeIn_13 (h0).lt0 (h0).o (by decide) rfl rfl dX5_unlikeIn_11 ?_
    refine g_iload_n X dX5_unlikeIn_14 rfl 1 rfl ?_
    refine g_bipush X (v := 100) dX5_unlikeIn_15 (by decide) ?_
    refine g_imul X dX5_unlikeIn_17 ?_
    refine g_iload_n X dX5_unlikeIn_18 rfl 3 rfl ?_
    refine g_iadd X dX5_unlikeIn_19 ?_
    obtain ⟨b3, h⟩ := h
    refine g_lald X (h0).lt1 (h0).l b3 dX5_unlikeIn_20 ?_
    refine g_lconst X (v := 0) dX5_unlikeIn_21 (by decide) ?_
    refine g_lcmp X dX5_unlikeIn_22 ?_
    refine g_if_eq X (tgt := 29) dX5_unlikeIn_23 (by decide) (fun c4 => ?_) (fun c4 => ?_)
    · have h := h.1 c4
      obtain ⟨x5, ex5⟩ : ∃ y : Int32, y = v3 + 1 := ⟨_, rfl⟩
      have h := h x5 ex5
      refine g_iinc X (q := 3) (v := x5) (lv' := [(3, .int x5), (0, .ref (ea (zE Z) a0)), (1, .int v1), (2, .int v2)]) dX5_unlikeIn_29 rfl (by rw [ex5]; rfl) (by decide) rfl ?_
      refine g_goto X (tgt := 4) dX5_unlikeIn_32 (by decide) ?_
      refine GW.sub (lv' := [(0, .ref (ea (zE Z) a0)), (1, .int v1), (2, .int v2), (3, .int x5)]) [1, 2, 3, 0] rfl ?_
      exact hk4 v1 v2 x5 I J h
    · have h := h.2 c4
      obtain ⟨x6, ex6⟩ : ∃ y : Int32, y = v2 + 1 := ⟨_, rfl⟩
      have h := h x6 ex6
      refine g_iinc X (q := 2) (v := x6) (lv' := [(2, .int x6), (0, .ref (ea (zE Z) a0)), (1, .int v1), (3, .int v3)]) dX5_unlikeIn_26 rfl (by rw [ex6]; rfl) (by decide) rfl ?_
      obtain ⟨x7, ex7⟩ : ∃ y : Int32, y = v3 + 1 := ⟨_, rfl⟩
      have h := h x7 ex7
      refine g_iinc X (q := 3) (v := x7) (lv' := [(3, .int x7), (2, .int x6), (0, .ref (ea (zE Z) a0)), (1, .int v1)]) dX5_unlikeIn_29 rfl (by rw [ex7]; rfl) (by decide) rfl ?_
      refine g_goto X (tgt := 4) dX5_unlikeIn_32 (by decide) ?_
      refine GW.sub (lv' := [(0, .ref (ea (zE Z) a0)), (1, .int v1), (2, .int x6), (3, .int x7)]) [2, 3, 1, 0] rfl ?_
      exact hk4 v1 x6 x7 I J h
theorem w_X5_unlikeIn_L4 {Z : RT} {a0 : Nat} (X : Cx Z cX5_unlikeIn 4 RX5 wsX5_unlikeIn rmX5_unlikeIn (some .int)) {Q : Int32 → MI → MJ → Prop} (R : RI Z Q) (h0 : isRe a0)   : ∀ (n : Nat) (v1 : Int32) (v2 : Int32) (v3 : Int32) (I : MI) (J : MJ) (h : vc_X5_unlikeIn_L4 a0 Q  n v1 v2 v3 I J), GW Z 4 I J 4 [(0, .ref (ea (zE Z) a0)), (1, .int v1), (2, .int v2), (3, .int v3)] [] := by
  intro n
  induction n with
  | zero => intro v1 v2 v3 I J h; exact h.elim
  | succ n ih => intro v1 v2 v3 I J h; exact w_X5_unlikeIn_L4s X R h0  ih v1 v2 v3 I J h
def vc_X5_unlikeIn (a0 : Nat) (p1 : Int32) (I : MI) (J : MJ) (Q : Int32 → MI → MJ → Prop) : Prop := (∃ n, vc_X5_unlikeIn_L4 a0 Q  n p1 0 0 I J)
set_option maxRecDepth 100000 in
set_option maxHeartbeats 4000000 in
theorem c_X5_unlikeIn (l : Launch) (E : ET) {a0 : Nat} (h0 : isRe a0) (p1 : Int32) : CI l yX5_unlikeIn wsX5_unlikeIn rmX5_unlikeIn E [.ref (ea E a0), .int p1] (vc_X5_unlikeIn a0 p1) := by
  refine CI.of (cc := cX5_unlikeIn) (maxL := 4) (own := RX5) (by decide) rfl rfl (Nat.le_of_ble_eq_true rfl) ?_
  intro Z I J Q hE hl X R h
  subst hE
  subst hl
  show GW Z 4 I J 0 [(0, .ref (ea (zE Z) a0)), (1, .int p1)] []
  refine g_iconst X (v := 0) dX5_unlikeIn_0 (by decide) ?_
  refine g_istore_n X (lv' := [(2, .int 0), (0, .ref (ea (zE Z) a0)), (1, .int p1)]) dX5_unlikeIn_1 rfl (by decide) rfl ?_
  refine g_iconst X (v := 0) dX5_unlikeIn_2 (by decide) ?_
  refine g_istore_n X (lv' := [(3, .int 0), (2, .int 0), (0, .ref (ea (zE Z) a0)), (1, .int p1)]) dX5_unlikeIn_3 rfl (by decide) rfl ?_
  refine GW.sub (lv' := [(0, .ref (ea (zE Z) a0)), (1, .int p1), (2, .int 0), (3, .int 0)]) [2, 3, 1, 0] rfl ?_
  obtain ⟨n, h⟩ := h
  exact w_X5_unlikeIn_L4 X R h0  n p1 0 0 I J h

/-! X5_mayHave.mayHave(III)Z -/
def rmX5_mayHave : Room := { frames := 0, cells := 0, slots := 0, locals := 0 }
theorem yo_X5_mayHave : yX5_mayHave.cls = RX5 ∧ yX5_mayHave.cls ≠ "java/lang/invoke/MethodHandle" ∧ yX5_mayHave.cls ≠ "java/lang/invoke/VarHandle" ∧ (parseMethodDescriptor yX5_mayHave.desc).map (fun d => d.parameters.length) = some 3 := by decide +kernel
theorem kX5_mayHave_13 : Cond.fieldLink RX5 13 "SnowCourse$Reach" (TX5 0).2.1 (TX5 0).2.2.1 ∈ wsX5_mayHave := by decide +kernel
theorem iX5_mayHave_X5 : ∀ w ∈ u_ws RX5 TX5 1, w ∈ wsX5_mayHave := by decide +kernel
def vc_X5_mayHave_L12s (a0 : Nat) (Q : Int32 → MI → MJ → Prop)  (k12 : Int32 → Int64 → Int32 → MI → MJ → Prop) (v1 : Int32) (v4 : Int64) (v6 : Int32) (I : MI) (J : MJ) : Prop := ((99 < v6 → Q 0 I J) ∧ (¬ 99 < v6 → vp_in ((v1 * 100) + v6) 700 ∧ (((lg_cmp ((J (a0 + 1) (Int32.toNatClampNeg ((v1 * 100) + v6))) &&& v4) 0) = 0 → ∀ x4 : Int32, x4 = v6 + 1 → k12 v1 v4 x4 I J) ∧ (¬ (lg_cmp ((J (a0 + 1) (Int32.toNatClampNeg ((v1 * 100) + v6))) &&& v4) 0) = 0 → Q 1 I J))))
def vc_X5_mayHave_L12 (a0 : Nat) (Q : Int32 → MI → MJ → Prop)  (n : Nat) : Int32 → Int64 → Int32 → MI → MJ → Prop := Nat.rec (fun _ _ _ _ _ => False) (fun _ ih => vc_X5_mayHave_L12s a0 Q  ih) n
set_option maxRecDepth 100000 in
set_option maxHeartbeats 4000000 in
theorem w_X5_mayHave_L12s {Z : RT} {a0 : Nat} (X : Cx Z cX5_mayHave 7 RX5 wsX5_mayHave rmX5_mayHave (some .boolean)) {Q : Int32 → MI → MJ → Prop} (R : RI Z Q) (h0 : isRe a0)   {k12 : Int32 → Int64 → Int32 → MI → MJ → Prop} (hk12 : ∀ (v1 : Int32) (v4 : Int64) (v6 : Int32) (I : MI) (J : MJ), k12 v1 v4 v6 I J → GW Z 7 I J 12 [(0, .ref (ea (zE Z) a0)), (1, .int v1), (4, .long v4), (6, .int v6)] []) (v1 : Int32) (v4 : Int64) (v6 : Int32) (I : MI) (J : MJ) (h : vc_X5_mayHave_L12s a0 Q  k12 v1 v4 v6 I J) : GW Z 7 I J 12 [(0, .ref (ea (zE Z) a0)), (1, .int v1), (4, .long v4), (6, .int v6)] [] := by
  refine g_iload X dX5_mayHave_12 3 rfl ?_
  refine g_bipush X (v := 99) dX5_mayHave_14 (by decide) ?_
  refine g_icmp_gt X (tgt := 47) dX5_mayHave_16 (by decide) (fun c1 => ?_) (fun c1 => ?_)
  · have h := h.1 c1
    refine g_iconst X (v := 0) dX5_mayHave_47 (by decide) ?_
    exact g_zret X R (by decide) dX5_mayHave_48 h
  · have h := h.2 c1
    refine g_aload_n X dX5_mayHave_19 rfl 0 rfl ?_
    refine g_getr X (C := RX5) (T := TX5) (N := 1) (ci := 3) (k := 0) iX5_mayHave_X5 rfl kX5_mayHave_13 (h0).lt0 (h0).o (by decide) rfl rfl dX5_mayHave_20 ?_
    refine g_iload_n X dX5_mayHave_23 rfl 1 rfl ?_
    refine g_bipush X (v := 100) dX5_mayHave_24 (by decide) ?_
    refine g_imul X dX5_mayHave_26 ?_
    refine g_iload X dX5_mayHave_27 3 rfl ?_
    refine g_iadd X dX5_mayHave_29 ?_
    obtain ⟨b2, h⟩ := h
    refine g_lald X (h0).lt1 (h0).l b2 dX5_mayHave_30 ?_
    refine g_lload X dX5_mayHave_31 2 rfl ?_
    refine g_land X dX5_mayHave_33 ?_
    refine g_lconst X (v := 0) dX5_mayHave_34 (by decide) ?_
    refine g_lcmp X dX5_mayHave_35 ?_
    refine g_if_eq X (tgt := 41) dX5_mayHave_36 (by decide) (fun c3 => ?_) (fun c3 => ?_)
    · have h := h.1 c3
      obtain ⟨x4, ex4⟩ : ∃ y : Int32, y = v6 + 1 := ⟨_, rfl⟩
      have h := h x4 ex4
      refine g_iinc X (q := 3) (v := x4) (lv' := [(6, .int x4), (0, .ref (ea (zE Z) a0)), (1, .int v1), (4, .long v4)]) dX5_mayHave_41 rfl (by rw [ex4]; rfl) (by decide) rfl ?_
      refine g_goto X (tgt := 12) dX5_mayHave_44 (by decide) ?_
      refine GW.sub (lv' := [(0, .ref (ea (zE Z) a0)), (1, .int v1), (4, .long v4), (6, .int x4)]) [1, 2, 3, 0] rfl ?_
      exact hk12 v1 v4 x4 I J h
    · have h := h.2 c3
      refine g_iconst X (v := 1) dX5_mayHave_39 (by decide) ?_
      exact g_zret X R (by decide) dX5_mayHave_40 h
theorem w_X5_mayHave_L12 {Z : RT} {a0 : Nat} (X : Cx Z cX5_mayHave 7 RX5 wsX5_mayHave rmX5_mayHave (some .boolean)) {Q : Int32 → MI → MJ → Prop} (R : RI Z Q) (h0 : isRe a0)   : ∀ (n : Nat) (v1 : Int32) (v4 : Int64) (v6 : Int32) (I : MI) (J : MJ) (h : vc_X5_mayHave_L12 a0 Q  n v1 v4 v6 I J), GW Z 7 I J 12 [(0, .ref (ea (zE Z) a0)), (1, .int v1), (4, .long v4), (6, .int v6)] [] := by
  intro n
  induction n with
  | zero => intro v1 v4 v6 I J h; exact h.elim
  | succ n ih => intro v1 v4 v6 I J h; exact w_X5_mayHave_L12s X R h0  ih v1 v4 v6 I J h
def vc_X5_mayHave (a0 : Nat) (p1 : Int32) (p2 : Int32) (p3 : Int32) (I : MI) (J : MJ) (Q : Int32 → MI → MJ → Prop) : Prop := ∀ x5 : Int64, x5 = (1 <<< (Int32.toInt64 (p3 + 1) &&& 63)) - 1 → (∃ n, vc_X5_mayHave_L12 a0 Q  n p1 x5 p2 I J)
set_option maxRecDepth 100000 in
set_option maxHeartbeats 4000000 in
theorem c_X5_mayHave (l : Launch) (E : ET) {a0 : Nat} (h0 : isRe a0) (p1 : Int32) (p2 : Int32) (p3 : Int32) : CI l yX5_mayHave wsX5_mayHave rmX5_mayHave E [.ref (ea E a0), .int p1, .int p2, .int p3] (vc_X5_mayHave a0 p1 p2 p3) := by
  refine CI.of (cc := cX5_mayHave) (maxL := 7) (own := RX5) (by decide) rfl rfl (Nat.le_of_ble_eq_true rfl) ?_
  intro Z I J Q hE hl X R h
  subst hE
  subst hl
  show GW Z 7 I J 0 [(0, .ref (ea (zE Z) a0)), (1, .int p1), (2, .int p2), (3, .int p3)] []
  refine g_lconst X (v := 1) dX5_mayHave_0 (by decide) ?_
  refine g_iload_n X dX5_mayHave_1 rfl 3 rfl ?_
  refine g_iconst X (v := 1) dX5_mayHave_2 (by decide) ?_
  refine g_iadd X dX5_mayHave_3 ?_
  refine g_lshl X dX5_mayHave_4 ?_
  refine g_lconst X (v := 1) dX5_mayHave_5 (by decide) ?_
  refine g_lsub X dX5_mayHave_6 ?_
  refine g_topl (fun x5 ex5 => ?_)
  have h := h x5 ex5
  refine g_lstore X (lv' := [(4, .long x5), (0, .ref (ea (zE Z) a0)), (1, .int p1), (2, .int p2), (3, .int p3)]) dX5_mayHave_7 (by decide) rfl ?_
  refine g_iload_n X dX5_mayHave_9 rfl 3 rfl ?_
  refine g_istore X (lv' := [(6, .int p2), (4, .long x5), (0, .ref (ea (zE Z) a0)), (1, .int p1), (2, .int p2), (3, .int p3)]) dX5_mayHave_10 (by decide) rfl ?_
  refine GW.sub (lv' := [(0, .ref (ea (zE Z) a0)), (1, .int p1), (4, .long x5), (6, .int p2)]) [2, 3, 1, 0] rfl ?_
  obtain ⟨n, h⟩ := h
  exact w_X5_mayHave_L12 X R h0  n p1 x5 p2 I J h
