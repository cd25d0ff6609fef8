/-! X9_stepCost.stepCost(LSnowCourse$Country;I)I -/
def rmX9_stepCost : Room := { frames := 0, cells := 0, slots := 0, locals := 0 }
theorem yo_X9_stepCost : yX9_stepCost.cls = RX9 ∧ yX9_stepCost.cls ≠ "java/lang/invoke/MethodHandle" ∧ yX9_stepCost.cls ≠ "java/lang/invoke/VarHandle" ∧ (parseMethodDescriptor yX9_stepCost.desc).map (fun d => d.parameters.length) = some 2 := by decide +kernel
theorem kX9_stepCost_47 : Cond.fieldLink RX9 47 "SnowCourse$Country" (TX1 4).2.1 (TX1 4).2.2.1 ∈ wsX9_stepCost := by decide +kernel
theorem iX9_stepCost_X1 : ∀ w ∈ u_ws RX1 TX1 12, w ∈ wsX9_stepCost := by decide +kernel
theorem kX9_stepCost_50 : Cond.fieldLink RX9 50 "SnowCourse$Country" (TX1 1).2.1 (TX1 1).2.2.1 ∈ wsX9_stepCost := by decide +kernel
def vc_X9_stepCost (p1 : Int32) (I : MI) (J : MJ) (Q : Int32 → MI → MJ → Prop) : Prop := vp_in p1 9 ∧ ∀ x2 : Int32, x2 = I 10 (Int32.toNatClampNeg p1) → vp_in p1 9 ∧ ((¬ (I 7 (Int32.toNatClampNeg p1)) = 2 → Q x2 I J) ∧ ((I 7 (Int32.toNatClampNeg p1)) = 2 → Q (100 + x2) I J))
set_option maxRecDepth 100000 in
set_option maxHeartbeats 4000000 in
theorem c_X9_stepCost (l : Launch) (E : ET)  (p1 : Int32) : CI l yX9_stepCost wsX9_stepCost rmX9_stepCost E [.ref (ea E 5), .int p1] (vc_X9_stepCost p1) := by
  refine CI.of (cc := cX9_stepCost) (maxL := 3) (own := RX9) (by decide) rfl rfl (Nat.le_of_ble_eq_true rfl) ?_
  intro Z I J Q hE hl X R h
  subst hE
  subst hl
  show GW Z 3 I J 0 [(0, .ref (ea (zE Z) 5)), (1, .int p1)] []
  refine g_aload_n X dX9_stepCost_0 rfl 0 rfl ?_
  refine g_getr X (C := RX1) (T := TX1) (N := 12) (ci := 1) (k := 4) iX9_stepCost_X1 rfl kX9_stepCost_47 (Nat.le_of_ble_eq_true rfl) rfl (by decide) rfl rfl dX9_stepCost_1 ?_
  refine g_iload_n X dX9_stepCost_4 rfl 1 rfl ?_
  obtain ⟨b1, h⟩ := h
  refine g_iald X (Nat.le_of_ble_eq_true rfl) rfl b1 dX9_stepCost_5 ?_
  refine g_topi (fun x2 ex2 => ?_)
  have h := h x2 ex2
  refine g_istore_n X (lv' := [(2, .int x2), (0, .ref (ea (zE Z) 5)), (1, .int p1)]) dX9_stepCost_6 rfl (by decide) rfl ?_
  refine g_aload_n X dX9_stepCost_7 rfl 1 rfl ?_
  refine g_getr X (C := RX1) (T := TX1) (N := 12) (ci := 1) (k := 1) iX9_stepCost_X1 rfl kX9_stepCost_50 (Nat.le_of_ble_eq_true rfl) rfl (by decide) rfl rfl dX9_stepCost_8 ?_
  refine g_iload_n X dX9_stepCost_11 rfl 2 rfl ?_
  obtain ⟨b3, h⟩ := h
  refine g_iald X (Nat.le_of_ble_eq_true rfl) rfl b3 dX9_stepCost_12 ?_
  refine g_iconst X (v := 2) dX9_stepCost_13 (by decide) ?_
  refine g_icmp_ne X (tgt := 24) dX9_stepCost_14 (by decide) (fun c4 => ?_) (fun c4 => ?_)
  · have h := h.1 c4
    refine g_iload_n X dX9_stepCost_24 rfl 0 rfl ?_
    exact g_iret X R dX9_stepCost_25 h
  · have h := h.2 c4
    refine g_bipush X (v := 100) dX9_stepCost_17 (by decide) ?_
    refine g_iload_n X dX9_stepCost_19 rfl 0 rfl ?_
    refine g_iadd X dX9_stepCost_20 ?_
    refine g_goto X (tgt := 25) dX9_stepCost_21 (by decide) ?_
    exact g_iret X R dX9_stepCost_25 h

/-! X9_measure.measure(LSnowCourse$Country;I)V -/
def rmX9_measure : Room := { frames := 1, cells := 0, slots := 0, locals := 24 }
theorem yo_X9_measure : yX9_measure.cls = RX9 ∧ yX9_measure.cls ≠ "java/lang/invoke/MethodHandle" ∧ yX9_measure.cls ≠ "java/lang/invoke/VarHandle" ∧ (parseMethodDescriptor yX9_measure.desc).map (fun d => d.parameters.length) = some 2 := by decide +kernel
theorem kX9_measure_28 : Cond.fieldLink RX9 28 "SnowCourse$Country" (TX1 9).2.1 (TX1 9).2.2.1 ∈ wsX9_measure := by decide +kernel
theorem iX9_measure_X1 : ∀ w ∈ u_ws RX1 TX1 12, w ∈ wsX9_measure := by decide +kernel
theorem kX9_measure_31 : Cond.fieldLink RX9 31 "SnowCourse$Country" (TX1 2).2.1 (TX1 2).2.2.1 ∈ wsX9_measure := by decide +kernel
theorem kX9_measure_34 : Cond.fieldLink RX9 34 "SnowCourse$Country" (TX1 3).2.1 (TX1 3).2.2.1 ∈ wsX9_measure := by decide +kernel
theorem kX9_measure_11 : Cond.fieldLink RX9 11 "SnowCourse$Ways" (TX9 0).2.1 (TX9 0).2.2.1 ∈ wsX9_measure := by decide +kernel
theorem iX9_measure_X9 : ∀ w ∈ u_ws RX9 TX9 1, w ∈ wsX9_measure := by decide +kernel
theorem kX9_measure_m41 : Cond.methodLink RX9 41 Lib.Math.min.name ∈ wsX9_measure := by decide +kernel
theorem kX9_measure_msmin : Cond.static Lib.Math.min.name ∈ wsX9_measure := by decide +kernel
theorem kX9_measure_mi : Cond.initialized "java/lang/Math" ∈ wsX9_measure := by decide +kernel
theorem kX9_measure_mcmin : Cond.code Lib.Math.min.name Lib.Math.min.code 2 (some .int) ∈ wsX9_measure := by decide +kernel
theorem kX9_measure_24 : Cond.fieldLink RX9 24 "SnowCourse$Country" (TX1 8).2.1 (TX1 8).2.2.1 ∈ wsX9_measure := by decide +kernel
theorem kX9_measure_c17 : Cond.constant RX9 17 (1000000) ∈ wsX9_measure := by decide +kernel
def vc_X9_measure_L29s  (Q : MI → MJ → Prop) (k18 : Int32 → MI → MJ → Prop) (k29 : Int32 → Int32 → MI → MJ → Prop) (v3 : Int32) (v4 : Int32) (I : MI) (J : MJ) : Prop := (((I 5 9) ≤ v4 → ∀ x2 : Int32, x2 = v3 + 1 → k18 x2 I J) ∧ (¬ (I 5 9) ≤ v4 → vp_in v4 9 ∧ ∀ x4 : Int32, x4 = I 8 (Int32.toNatClampNeg v4) → vp_in v4 9 ∧ ∀ x6 : Int32, x6 = I 9 (Int32.toNatClampNeg v4) → vc_X9_stepCost v4 I J (fun (r9 : Int32) (I7 : MI) (J8 : MJ) => vp_in x4 7 ∧ vp_in x6 7 ∧ vp_in x4 7 ∧ ∀ I13 : MI, I13 = wI I7 25 (Int32.toNatClampNeg x4) (if ((I7 25 (Int32.toNatClampNeg x6)) + r9) < (I7 25 (Int32.toNatClampNeg x4)) then ((I7 25 (Int32.toNatClampNeg x6)) + r9) else (I7 25 (Int32.toNatClampNeg x4))) → vp_in x6 7 ∧ vp_in x4 7 ∧ vp_in x6 7 ∧ ∀ I17 : MI, I17 = wI I13 25 (Int32.toNatClampNeg x6) (if ((I13 25 (Int32.toNatClampNeg x4)) + r9) < (I13 25 (Int32.toNatClampNeg x6)) then ((I13 25 (Int32.toNatClampNeg x4)) + r9) else (I13 25 (Int32.toNatClampNeg x6))) → ∀ x18 : Int32, x18 = v4 + 1 → k29 v3 x18 I17 J8)))
def vc_X9_measure_L29  (Q : MI → MJ → Prop) (k18 : Int32 → MI → MJ → Prop) (n : Nat) : Int32 → Int32 → MI → MJ → Prop := Nat.rec (fun _ _ _ _ => False) (fun _ ih => vc_X9_measure_L29s  Q k18 ih) n
set_option maxRecDepth 100000 in
set_option maxHeartbeats 4000000 in
theorem w_X9_measure_L29s {Z : RT}  (X : Cx Z cX9_measure 8 RX9 wsX9_measure rmX9_measure none) {Q : MI → MJ → Prop} (R : RV Z Q)  {k18 : Int32 → MI → MJ → Prop} (hk18 : ∀ (v3 : Int32) (I : MI) (J : MJ), k18 v3 I J → GW Z 8 I J 18 [(0, .ref (ea (zE Z) 24)), (1, .ref (ea (zE Z) 5)), (3, .int v3)] []) {k29 : Int32 → Int32 → MI → MJ → Prop} (hk29 : ∀ (v3 : Int32) (v4 : Int32) (I : MI) (J : MJ), k29 v3 v4 I J → GW Z 8 I J 29 [(0, .ref (ea (zE Z) 24)), (1, .ref (ea (zE Z) 5)), (3, .int v3), (4, .int v4)] []) (v3 : Int32) (v4 : Int32) (I : MI) (J : MJ) (h : vc_X9_measure_L29s  Q k18 k29 v3 v4 I J) : GW Z 8 I J 29 [(0, .ref (ea (zE Z) 24)), (1, .ref (ea (zE Z) 5)), (3, .int v3), (4, .int v4)] [] := by
  refine g_iload X dX9_measure_29 3 rfl ?_
  refine g_aload_n X dX9_measure_31 rfl 1 rfl ?_
  refine g_geti X (C := RX1) (T := TX1) (N := 12) (ci := 1) (k := 9) iX9_measure_X1 rfl kX9_measure_28 (Nat.le_of_ble_eq_true rfl) rfl (by decide) rfl rfl dX9_measure_32 ?_
  refine g_icmp_ge X (tgt := 124) dX9_measure_35 (by decide) (fun c1 => ?_) (fun c1 => ?_)
  · have h := h.1 c1
    obtain ⟨x2, ex2⟩ : ∃ y : Int32, y = v3 + 1 := ⟨_, rfl⟩
    have h := h x2 ex2
    refine g_iinc X (q := 2) (v := x2) (lv' := [(3, .int x2), (0, .ref (ea (zE Z) 24)), (1, .ref (ea (zE Z) 5)), (4, .int v4)]) dX9_measure_124 rfl (by rw [ex2]; rfl) (by decide) rfl ?_
    refine g_goto X (tgt := 18) dX9_measure_127 (by decide) ?_
    refine GW.sub (lv' := [(0, .ref (ea (zE Z) 24)), (1, .ref (ea (zE Z) 5)), (3, .int x2)]) [1, 2, 0] rfl ?_
    exact hk18 x2 I J h
  · have h := h.2 c1
    refine g_aload_n X dX9_measure_38 rfl 1 rfl ?_
    refine g_getr X (C := RX1) (T := TX1) (N := 12) (ci := 1) (k := 2) iX9_measure_X1 rfl kX9_measure_31 (Nat.le_of_ble_eq_true rfl) rfl (by decide) rfl rfl dX9_measure_39 ?_
    refine g_iload X dX9_measure_42 3 rfl ?_
    obtain ⟨b3, h⟩ := h
    refine g_iald X (Nat.le_of_ble_eq_true rfl) rfl b3 dX9_measure_44 ?_
    refine g_topi (fun x4 ex4 => ?_)
    have h := h x4 ex4
    refine g_istore X (lv' := [(5, .int x4), (0, .ref (ea (zE Z) 24)), (1, .ref (ea (zE Z) 5)), (3, .int v3), (4, .int v4)]) dX9_measure_45 (by decide) rfl ?_
    refine g_aload_n X dX9_measure_47 rfl 2 rfl ?_
    refine g_getr X (C := RX1) (T := TX1) (N := 12) (ci := 1) (k := 3) iX9_measure_X1 rfl kX9_measure_34 (Nat.le_of_ble_eq_true rfl) rfl (by decide) rfl rfl dX9_measure_48 ?_
    refine g_iload X dX9_measure_51 4 rfl ?_
    obtain ⟨b5, h⟩ := h
    refine g_iald X (Nat.le_of_ble_eq_true rfl) rfl b5 dX9_measure_53 ?_
    refine g_topi (fun x6 ex6 => ?_)
    have h := h x6 ex6
    refine g_istore X (lv' := [(6, .int x6), (5, .int x4), (0, .ref (ea (zE Z) 24)), (1, .ref (ea (zE Z) 5)), (3, .int v3), (4, .int v4)]) dX9_measure_54 (by decide) rfl ?_
    refine g_aload_n X dX9_measure_56 rfl 3 rfl ?_
    refine g_iload X dX9_measure_57 5 rfl ?_
    refine g_callSI X (As := [.ref (ea (zE Z) 5), .int v4]) (rest := []) (c_X9_stepCost (zl Z) (zE Z) v4) gX9_measure_X9_stepCost yo_X9_stepCost.2 rfl ⟨Nat.le_of_ble_eq_true rfl, Nat.le_of_ble_eq_true rfl⟩ rfl dX9_measure_59 h (fun r9 I7 J8 h => ?_)
    refine g_istore X (lv' := [(7, .int r9), (6, .int x6), (5, .int x4), (0, .ref (ea (zE Z) 24)), (1, .ref (ea (zE Z) 5)), (3, .int v3), (4, .int v4)]) dX9_measure_62 (by decide) rfl ?_
    refine g_aload_n X dX9_measure_64 rfl 3 rfl ?_
    refine g_getr X (C := RX9) (T := TX9) (N := 1) (ci := 7) (k := 0) iX9_measure_X9 rfl kX9_measure_11 (Nat.le_of_ble_eq_true rfl) rfl (by decide) rfl rfl dX9_measure_65 ?_
    refine g_iload X dX9_measure_68 2 rfl ?_
    refine g_aload_n X dX9_measure_70 rfl 3 rfl ?_
    refine g_getr X (C := RX9) (T := TX9) (N := 1) (ci := 7) (k := 0) iX9_measure_X9 rfl kX9_measure_11 (Nat.le_of_ble_eq_true rfl) rfl (by decide) rfl rfl dX9_measure_71 ?_
    refine g_iload X dX9_measure_74 2 rfl ?_
    obtain ⟨b10, h⟩ := h
    refine g_iald X (Nat.le_of_ble_eq_true rfl) rfl b10 dX9_measure_76 ?_
    refine g_aload_n X dX9_measure_77 rfl 3 rfl ?_
    refine g_getr X (C := RX9) (T := TX9) (N := 1) (ci := 7) (k := 0) iX9_measure_X9 rfl kX9_measure_11 (Nat.le_of_ble_eq_true rfl) rfl (by decide) rfl rfl dX9_measure_78 ?_
    refine g_iload X dX9_measure_81 1 rfl ?_
    obtain ⟨b11, h⟩ := h
    refine g_iald X (Nat.le_of_ble_eq_true rfl) rfl b11 dX9_measure_83 ?_
    refine g_iload X dX9_measure_84 0 rfl ?_
    refine g_iadd X dX9_measure_86 ?_
    refine g_mmin X kX9_measure_m41 kX9_measure_msmin kX9_measure_mi kX9_measure_mcmin ⟨Nat.le_of_ble_eq_true rfl, Nat.le_of_ble_eq_true rfl⟩ dX9_measure_87 ?_
    obtain ⟨b12, h⟩ := h
    refine g_iast X (Nat.le_of_ble_eq_true rfl) rfl b12 dX9_measure_90 ?_
    refine g_nmI (fun I13 eI13 => ?_)
    have h := h I13 eI13
    refine g_aload_n X dX9_measure_91 rfl 3 rfl ?_
    refine g_getr X (C := RX9) (T := TX9) (N := 1) (ci := 7) (k := 0) iX9_measure_X9 rfl kX9_measure_11 (Nat.le_of_ble_eq_true rfl) rfl (by decide) rfl rfl dX9_measure_92 ?_
    refine g_iload X dX9_measure_95 1 rfl ?_
    refine g_aload_n X dX9_measure_97 rfl 3 rfl ?_
    refine g_getr X (C := RX9) (T := TX9) (N := 1) (ci := 7) (k := 0) iX9_measure_X9 rfl kX9_measure_11 (Nat.le_of_ble_eq_true rfl) rfl (by decide) rfl rfl dX9_measure_98 ?_
    refine g_iload X dX9_measure_101 1 rfl ?_
    obtain ⟨b14, h⟩ := h
    refine g_iald X (Nat.le_of_ble_eq_true rfl) rfl b14 dX9_measure_103 ?_
    refine g_aload_n X dX9_measure_104 rfl 3 rfl ?_
    refine g_getr X (C := RX9) (T := TX9) (N := 1) (ci := 7) (k := 0) iX9_measure_X9 rfl kX9_measure_11 (Nat.le_of_ble_eq_true rfl) rfl (by decide) rfl rfl dX9_measure_105 ?_
    refine g_iload X dX9_measure_108 2 rfl ?_
    obtain ⟨b15, h⟩ := h
    refine g_iald X (Nat.le_of_ble_eq_true rfl) rfl b15 dX9_measure_110 ?_
    refine g_iload X dX9_measure_111 0 rfl ?_
    refine g_iadd X dX9_measure_113 ?_
    refine g_mmin X kX9_measure_m41 kX9_measure_msmin kX9_measure_mi kX9_measure_mcmin ⟨Nat.le_of_ble_eq_true rfl, Nat.le_of_ble_eq_true rfl⟩ dX9_measure_114 ?_
    obtain ⟨b16, h⟩ := h
    refine g_iast X (Nat.le_of_ble_eq_true rfl) rfl b16 dX9_measure_117 ?_
    refine g_nmI (fun I17 eI17 => ?_)
    have h := h I17 eI17
    obtain ⟨x18, ex18⟩ : ∃ y : Int32, y = v4 + 1 := ⟨_, rfl⟩
    have h := h x18 ex18
    refine g_iinc X (q := 6) (v := x18) (lv' := [(4, .int x18), (7, .int r9), (6, .int x6), (5, .int x4), (0, .ref (ea (zE Z) 24)), (1, .ref (ea (zE Z) 5)), (3, .int v3)]) dX9_measure_118 rfl (by rw [ex18]; rfl) (by decide) rfl ?_
    refine g_goto X (tgt := 29) dX9_measure_121 (by decide) ?_
    refine GW.sub (lv' := [(0, .ref (ea (zE Z) 24)), (1, .ref (ea (zE Z) 5)), (3, .int v3), (4, .int x18)]) [4, 5, 6, 0] rfl ?_
    exact hk29 v3 x18 I17 J8 h
theorem w_X9_measure_L29 {Z : RT}  (X : Cx Z cX9_measure 8 RX9 wsX9_measure rmX9_measure none) {Q : MI → MJ → Prop} (R : RV Z Q)  {k18 : Int32 → MI → MJ → Prop} (hk18 : ∀ (v3 : Int32) (I : MI) (J : MJ), k18 v3 I J → GW Z 8 I J 18 [(0, .ref (ea (zE Z) 24)), (1, .ref (ea (zE Z) 5)), (3, .int v3)] []) : ∀ (n : Nat) (v3 : Int32) (v4 : Int32) (I : MI) (J : MJ) (h : vc_X9_measure_L29  Q k18 n v3 v4 I J), GW Z 8 I J 29 [(0, .ref (ea (zE Z) 24)), (1, .ref (ea (zE Z) 5)), (3, .int v3), (4, .int v4)] [] := by
  intro n
  induction n with
  | zero => intro v3 v4 I J h; exact h.elim
  | succ n ih => intro v3 v4 I J h; exact w_X9_measure_L29s X R  hk18 ih v3 v4 I J h
def vc_X9_measure_L18s  (Q : MI → MJ → Prop)  (k18 : Int32 → MI → MJ → Prop) (v3 : Int32) (I : MI) (J : MJ) : Prop := (((I 5 8) ≤ v3 → Q I J) ∧ (¬ (I 5 8) ≤ v3 → (∃ n, vc_X9_measure_L29  Q k18 n v3 0 I J)))
def vc_X9_measure_L18  (Q : MI → MJ → Prop)  (n : Nat) : Int32 → MI → MJ → Prop := Nat.rec (fun _ _ _ => False) (fun _ ih => vc_X9_measure_L18s  Q  ih) n
set_option maxRecDepth 100000 in
set_option maxHeartbeats 4000000 in
theorem w_X9_measure_L18s {Z : RT}  (X : Cx Z cX9_measure 8 RX9 wsX9_measure rmX9_measure none) {Q : MI → MJ → Prop} (R : RV Z Q)    {k18 : Int32 → MI → MJ → Prop} (hk18 : ∀ (v3 : Int32) (I : MI) (J : MJ), k18 v3 I J → GW Z 8 I J 18 [(0, .ref (ea (zE Z) 24)), (1, .ref (ea (zE Z) 5)), (3, .int v3)] []) (v3 : Int32) (I : MI) (J : MJ) (h : vc_X9_measure_L18s  Q  k18 v3 I J) : GW Z 8 I J 18 [(0, .ref (ea (zE Z) 24)), (1, .ref (ea (zE Z) 5)), (3, .int v3)] [] := by
  refine g_iload_n X dX9_measure_18 rfl 2 rfl ?_
  refine g_aload_n X dX9_measure_19 rfl 1 rfl ?_
  refine g_geti X (C := RX1) (T := TX1) (N := 12) (ci := 1) (k := 8) iX9_measure_X1 rfl kX9_measure_24 (Nat.le_of_ble_eq_true rfl) rfl (by decide) rfl rfl dX9_measure_20 ?_
  refine g_icmp_ge X (tgt := 130) dX9_measure_23 (by decide) (fun c19 => ?_) (fun c19 => ?_)
  · have h := h.1 c19
    exact g_vret X R dX9_measure_130 h
  · have h := h.2 c19
    refine g_iconst X (v := 0) dX9_measure_26 (by decide) ?_
    refine g_istore X (lv' := [(4, .int 0), (0, .ref (ea (zE Z) 24)), (1, .ref (ea (zE Z) 5)), (3, .int v3)]) dX9_measure_27 (by decide) rfl ?_
    refine GW.sub (lv' := [(0, .ref (ea (zE Z) 24)), (1, .ref (ea (zE Z) 5)), (3, .int v3), (4, .int 0)]) [1, 2, 3, 0] rfl ?_
    obtain ⟨n, h⟩ := h
    exact w_X9_measure_L29 X R  hk18 n v3 0 I J h
theorem w_X9_measure_L18 {Z : RT}  (X : Cx Z cX9_measure 8 RX9 wsX9_measure rmX9_measure none) {Q : MI → MJ → Prop} (R : RV Z Q)    : ∀ (n : Nat) (v3 : Int32) (I : MI) (J : MJ) (h : vc_X9_measure_L18  Q  n v3 I J), GW Z 8 I J 18 [(0, .ref (ea (zE Z) 24)), (1, .ref (ea (zE Z) 5)), (3, .int v3)] [] := by
  intro n
  induction n with
  | zero => intro v3 I J h; exact h.elim
  | succ n ih => intro v3 I J h; exact w_X9_measure_L18s X R   ih v3 I J h
def vc_X9_measure (p2 : Int32) (I : MI) (J : MJ) (Q : MI → MJ → Prop) : Prop := vc_J7_fill_53178 25 7 1000000 I J (fun (I20 : MI) (J21 : MJ) => vp_in p2 7 ∧ ∀ I23 : MI, I23 = wI I20 25 (Int32.toNatClampNeg p2) 0 → (∃ n, vc_X9_measure_L18  Q  n 1 I23 J21))
set_option maxRecDepth 100000 in
set_option maxHeartbeats 4000000 in
theorem c_X9_measure (l : Launch) (E : ET)  (p2 : Int32) : CV l yX9_measure wsX9_measure rmX9_measure E [.ref (ea E 24), .ref (ea E 5), .int p2] (vc_X9_measure p2) := by
  refine CV.of (cc := cX9_measure) (maxL := 8) (own := RX9) (by decide) rfl rfl (Nat.le_of_ble_eq_true rfl) ?_
  intro Z I J Q hE hl X R h
  subst hE
  subst hl
  show GW Z 8 I J 0 [(0, .ref (ea (zE Z) 24)), (1, .ref (ea (zE Z) 5)), (2, .int p2)] []
  refine g_aload_n X dX9_measure_0 rfl 0 rfl ?_
  refine g_getr X (C := RX9) (T := TX9) (N := 1) (ci := 7) (k := 0) iX9_measure_X9 rfl kX9_measure_11 (Nat.le_of_ble_eq_true rfl) rfl (by decide) rfl rfl dX9_measure_1 ?_
  refine g_ldc X dX9_measure_4 kX9_measure_c17 ?_
  refine g_callSV X (As := [.ref (ea (zE Z) 25), .int 1000000]) (rest := []) (c_J7_fill_53178 (zl Z) (zE Z) (Nat.le_of_ble_eq_true rfl) rfl 1000000) gX9_measure_J7_fill_53178 yo_J7_fill_53178.2 rfl ⟨Nat.le_of_ble_eq_true rfl, Nat.le_of_ble_eq_true rfl⟩ rfl dX9_measure_6 h (fun  I20 J21 h => ?_)
  refine g_aload_n X dX9_measure_9 rfl 0 rfl ?_
  refine g_getr X (C := RX9) (T := TX9) (N := 1) (ci := 7) (k := 0) iX9_measure_X9 rfl kX9_measure_11 (Nat.le_of_ble_eq_true rfl) rfl (by decide) rfl rfl dX9_measure_10 ?_
  refine g_iload_n X dX9_measure_13 rfl 2 rfl ?_
  refine g_iconst X (v := 0) dX9_measure_14 (by decide) ?_
  obtain ⟨b22, h⟩ := h
  refine g_iast X (Nat.le_of_ble_eq_true rfl) rfl b22 dX9_measure_15 ?_
  refine g_nmI (fun I23 eI23 => ?_)
  have h := h I23 eI23
  refine g_iconst X (v := 1) dX9_measure_16 (by decide) ?_
  refine g_istore_n X (lv' := [(3, .int 1), (0, .ref (ea (zE Z) 24)), (1, .ref (ea (zE Z) 5)), (2, .int p2)]) dX9_measure_17 rfl (by decide) rfl ?_
  refine GW.sub (lv' := [(0, .ref (ea (zE Z) 24)), (1, .ref (ea (zE Z) 5)), (3, .int 1)]) [1, 2, 0] rfl ?_
  obtain ⟨n, h⟩ := h
  exact w_X9_measure_L18 X R   n 1 I23 J21 h

/-! X9_leadFrom.leadFrom(I)Z -/
def rmX9_leadFrom : Room := { frames := 0, cells := 0, slots := 0, locals := 0 }
theorem yo_X9_leadFrom : yX9_leadFrom.cls = RX9 ∧ yX9_leadFrom.cls ≠ "java/lang/invoke/MethodHandle" ∧ yX9_leadFrom.cls ≠ "java/lang/invoke/VarHandle" ∧ (parseMethodDescriptor yX9_leadFrom.desc).map (fun d => d.parameters.length) = some 1 := by decide +kernel
theorem kX9_leadFrom_11 : Cond.fieldLink RX9 11 "SnowCourse$Ways" (TX9 0).2.1 (TX9 0).2.2.1 ∈ wsX9_leadFrom := by decide +kernel
theorem iX9_leadFrom_X9 : ∀ w ∈ u_ws RX9 TX9 1, w ∈ wsX9_leadFrom := by decide +kernel
theorem kX9_leadFrom_c17 : Cond.constant RX9 17 (1000000) ∈ wsX9_leadFrom := by decide +kernel
def vc_X9_leadFrom (p1 : Int32) (I : MI) (J : MJ) (Q : Int32 → MI → MJ → Prop) : Prop := vp_in p1 7 ∧ ((1000000 ≤ (I 25 (Int32.toNatClampNeg p1)) → Q 0 I J) ∧ (¬ 1000000 ≤ (I 25 (Int32.toNatClampNeg p1)) → Q 1 I J))
set_option maxRecDepth 100000 in
set_option maxHeartbeats 4000000 in
theorem c_X9_leadFrom (l : Launch) (E : ET)  (p1 : Int32) : CI l yX9_leadFrom wsX9_leadFrom rmX9_leadFrom E [.ref (ea E 24), .int p1] (vc_X9_leadFrom p1) := by
  refine CI.of (cc := cX9_leadFrom) (maxL := 2) (own := RX9) (by decide) rfl rfl (Nat.le_of_ble_eq_true rfl) ?_
  intro Z I J Q hE hl X R h
  subst hE
  subst hl
  show GW Z 2 I J 0 [(0, .ref (ea (zE Z) 24)), (1, .int p1)] []
  refine g_aload_n X dX9_leadFrom_0 rfl 0 rfl ?_
  refine g_getr X (C := RX9) (T := TX9) (N := 1) (ci := 7) (k := 0) iX9_leadFrom_X9 rfl kX9_leadFrom_11 (Nat.le_of_ble_eq_true rfl) rfl (by decide) rfl rfl dX9_leadFrom_1 ?_
  refine g_iload_n X dX9_leadFrom_4 rfl 1 rfl ?_
  obtain ⟨b1, h⟩ := h
  refine g_iald X (Nat.le_of_ble_eq_true rfl) rfl b1 dX9_leadFrom_5 ?_
  refine g_ldc X dX9_leadFrom_6 kX9_leadFrom_c17 ?_
  refine g_icmp_ge X (tgt := 15) dX9_leadFrom_8 (by decide) (fun c2 => ?_) (fun c2 => ?_)
  · have h := h.1 c2
    refine g_iconst X (v := 0) dX9_leadFrom_15 (by decide) ?_
    exact g_zret X R (by decide) dX9_leadFrom_16 h
  · have h := h.2 c2
    refine g_iconst X (v := 1) dX9_leadFrom_11 (by decide) ?_
    refine g_goto X (tgt := 16) dX9_leadFrom_12 (by decide) ?_
    exact g_zret X R (by decide) dX9_leadFrom_16 h

/-! X9_banditsFrom.banditsFrom(I)I -/
def rmX9_banditsFrom : Room := { frames := 0, cells := 0, slots := 0, locals := 0 }
theorem yo_X9_banditsFrom : yX9_banditsFrom.cls = RX9 ∧ yX9_banditsFrom.cls ≠ "java/lang/invoke/MethodHandle" ∧ yX9_banditsFrom.cls ≠ "java/lang/invoke/VarHandle" ∧ (parseMethodDescriptor yX9_banditsFrom.desc).map (fun d => d.parameters.length) = some 1 := by decide +kernel
theorem kX9_banditsFrom_11 : Cond.fieldLink RX9 11 "SnowCourse$Ways" (TX9 0).2.1 (TX9 0).2.2.1 ∈ wsX9_banditsFrom := by decide +kernel
theorem iX9_banditsFrom_X9 : ∀ w ∈ u_ws RX9 TX9 1, w ∈ wsX9_banditsFrom := by decide +kernel
def vc_X9_banditsFrom (p1 : Int32) (I : MI) (J : MJ) (Q : Int32 → MI → MJ → Prop) : Prop := vp_in p1 7 ∧ Q ((I 25 (Int32.toNatClampNeg p1)) / 100) I J
set_option maxRecDepth 100000 in
set_option maxHeartbeats 4000000 in
theorem c_X9_banditsFrom (l : Launch) (E : ET)  (p1 : Int32) : CI l yX9_banditsFrom wsX9_banditsFrom rmX9_banditsFrom E [.ref (ea E 24), .int p1] (vc_X9_banditsFrom p1) := by
  refine CI.of (cc := cX9_banditsFrom) (maxL := 2) (own := RX9) (by decide) rfl rfl (Nat.le_of_ble_eq_true rfl) ?_
  intro Z I J Q hE hl X R h
  subst hE
  subst hl
  show GW Z 2 I J 0 [(0, .ref (ea (zE Z) 24)), (1, .int p1)] []
  refine g_aload_n X dX9_banditsFrom_0 rfl 0 rfl ?_
  refine g_getr X (C := RX9) (T := TX9) (N := 1) (ci := 7) (k := 0) iX9_banditsFrom_X9 rfl kX9_banditsFrom_11 (Nat.le_of_ble_eq_true rfl) rfl (by decide) rfl rfl dX9_banditsFrom_1 ?_
  refine g_iload_n X dX9_banditsFrom_4 rfl 1 rfl ?_
  obtain ⟨b1, h⟩ := h
  refine g_iald X (Nat.le_of_ble_eq_true rfl) rfl b1 dX9_banditsFrom_5 ?_
  refine g_bipush X (v := 100) dX9_banditsFrom_6 (by decide) ?_
  refine g_idiv X dX9_banditsFrom_8 (by decide) ?_
  exact g_iret X R dX9_banditsFrom_9 h

/-! X9_hoursFrom.hoursFrom(I)I -/
def rmX9_hoursFrom : Room := { frames := 0, cells := 0, slots := 0, locals := 0 }
theorem yo_X9_hoursFrom : yX9_hoursFrom.cls = RX9 ∧ yX9_hoursFrom.cls ≠ "java/lang/invoke/MethodHandle" ∧ yX9_hoursFrom.cls ≠ "java/lang/invoke/VarHandle" ∧ (parseMethodDescriptor yX9_hoursFrom.desc).map (fun d => d.parameters.length) = some 1 := by decide +kernel
theorem kX9_hoursFrom_11 : Cond.fieldLink RX9 11 "SnowCourse$Ways" (TX9 0).2.1 (TX9 0).2.2.1 ∈ wsX9_hoursFrom := by decide +kernel
theorem iX9_hoursFrom_X9 : ∀ w ∈ u_ws RX9 TX9 1, w ∈ wsX9_hoursFrom := by decide +kernel
def vc_X9_hoursFrom (p1 : Int32) (I : MI) (J : MJ) (Q : Int32 → MI → MJ → Prop) : Prop := vp_in p1 7 ∧ Q ((I 25 (Int32.toNatClampNeg p1)) - (I 25 (Int32.toNatClampNeg p1)) / 100 * 100) I J
set_option maxRecDepth 100000 in
set_option maxHeartbeats 4000000 in
theorem c_X9_hoursFrom (l : Launch) (E : ET)  (p1 : Int32) : CI l yX9_hoursFrom wsX9_hoursFrom rmX9_hoursFrom E [.ref (ea E 24), .int p1] (vc_X9_hoursFrom p1) := by
  refine CI.of (cc := cX9_hoursFrom) (maxL := 2) (own := RX9) (by decide) rfl rfl (Nat.le_of_ble_eq_true rfl) ?_
  intro Z I J Q hE hl X R h
  subst hE
  subst hl
  show GW Z 2 I J 0 [(0, .ref (ea (zE Z) 24)), (1, .int p1)] []
  refine g_aload_n X dX9_hoursFrom_0 rfl 0 rfl ?_
  refine g_getr X (C := RX9) (T := TX9) (N := 1) (ci := 7) (k := 0) iX9_hoursFrom_X9 rfl kX9_hoursFrom_11 (Nat.le_of_ble_eq_true rfl) rfl (by decide) rfl rfl dX9_hoursFrom_1 ?_
  refine g_iload_n X dX9_hoursFrom_4 rfl 1 rfl ?_
  obtain ⟨b1, h⟩ := h
  refine g_iald X (Nat.le_of_ble_eq_true rfl) rfl b1 dX9_hoursFrom_5 ?_
  refine g_bipush X (v := 100) dX9_hoursFrom_6 (by decide) ?_
  refine g_irem X dX9_hoursFrom_8 (by decide) ?_
  exact g_iret X R dX9_hoursFrom_9 h

/-! X9_firstRoad.firstRoad(LSnowCourse$Country;I)I -/
def rmX9_firstRoad : Room := { frames := 1, cells := 0, slots := 0, locals := 22 }
theorem yo_X9_firstRoad : yX9_firstRoad.cls = RX9 ∧ yX9_firstRoad.cls ≠ "java/lang/invoke/MethodHandle" ∧ yX9_firstRoad.cls ≠ "java/lang/invoke/VarHandle" ∧ (parseMethodDescriptor yX9_firstRoad.desc).map (fun d => d.parameters.length) = some 2 := by decide +kernel
theorem kX9_firstRoad_28 : Cond.fieldLink RX9 28 "SnowCourse$Country" (TX1 9).2.1 (TX1 9).2.2.1 ∈ wsX9_firstRoad := by decide +kernel
theorem iX9_firstRoad_X1 : ∀ w ∈ u_ws RX1 TX1 12, w ∈ wsX9_firstRoad := by decide +kernel
theorem kX9_firstRoad_11 : Cond.fieldLink RX9 11 "SnowCourse$Ways" (TX9 0).2.1 (TX9 0).2.2.1 ∈ wsX9_firstRoad := by decide +kernel
theorem iX9_firstRoad_X9 : ∀ w ∈ u_ws RX9 TX9 1, w ∈ wsX9_firstRoad := by decide +kernel
def vc_X9_firstRoad_L2s  (Q : Int32 → MI → MJ → Prop)  (k2 : Int32 → Int32 → MI → MJ → Prop) (v2 : Int32) (v3 : Int32) (I : MI) (J : MJ) : Prop := (((I 5 9) ≤ v3 → Q (-1) I J) ∧ (¬ (I 5 9) ≤ v3 → vc_X1_touches v3 v2 I J (fun (r4 : Int32) (I2 : MI) (J3 : MJ) => ((r4 = 0 → ∀ x6 : Int32, x6 = v3 + 1 → k2 v2 x6 I2 J3) ∧ (¬ r4 = 0 → vc_X1_farEnd v3 v2 I2 J3 (fun (r9 : Int32) (I7 : MI) (J8 : MJ) => vp_in r9 7 ∧ vc_X9_stepCost v3 I7 J8 (fun (r13 : Int32) (I11 : MI) (J12 : MJ) => vp_in v2 7 ∧ ((¬ ((I7 25 (Int32.toNatClampNeg r9)) + r13) = (I11 25 (Int32.toNatClampNeg v2)) → ∀ x16 : Int32, x16 = v3 + 1 → k2 v2 x16 I11 J12) ∧ (((I7 25 (Int32.toNatClampNeg r9)) + r13) = (I11 25 (Int32.toNatClampNeg v2)) → Q v3 I11 J12)))))))))
def vc_X9_firstRoad_L2  (Q : Int32 → MI → MJ → Prop)  (n : Nat) : Int32 → Int32 → MI → MJ → Prop := Nat.rec (fun _ _ _ _ => False) (fun _ ih => vc_X9_firstRoad_L2s  Q  ih) n
set_option maxRecDepth 100000 in
set_option maxHeartbeats 4000000 in
theorem w_X9_firstRoad_L2s {Z : RT}  (X : Cx Z cX9_firstRoad 4 RX9 wsX9_firstRoad rmX9_firstRoad (some .int)) {Q : Int32 → MI → MJ → Prop} (R : RI Z Q)    {k2 : Int32 → Int32 → MI → MJ → Prop} (hk2 : ∀ (v2 : Int32) (v3 : Int32) (I : MI) (J : MJ), k2 v2 v3 I J → GW Z 4 I J 2 [(0, .ref (ea (zE Z) 24)), (1, .ref (ea (zE Z) 5)), (2, .int v2), (3, .int v3)] []) (v2 : Int32) (v3 : Int32) (I : MI) (J : MJ) (h : vc_X9_firstRoad_L2s  Q  k2 v2 v3 I J) : GW Z 4 I J 2 [(0, .ref (ea (zE Z) 24)), (1, .ref (ea (zE Z) 5)), (2, .int v2), (3, .int v3)] [] := by
  refine g_iload_n X dX9_firstRoad_2 rfl 3 rfl ?_
  refine g_aload_n X dX9_firstRoad_3 rfl 1 rfl ?_
  refine g_geti X (C := RX1) (T := TX1) (N := 12) (ci := 1) (k := 9) iX9_firstRoad_X1 rfl kX9_firstRoad_28 (Nat.le_of_ble_eq_true rfl) rfl (by decide) rfl rfl dX9_firstRoad_4 ?_
  refine g_icmp_ge X (tgt := 53) dX9_firstRoad_7 (by decide) (fun c1 => ?_) (fun c1 => ?_)
  · have h := h.1 c1
    refine g_iconst X (v := (-1)) dX9_firstRoad_53 (by decide) ?_
    exact g_iret X R dX9_firstRoad_54 h
  · have h := h.2 c1
    refine g_aload_n X dX9_firstRoad_10 rfl 1 rfl ?_
    refine g_iload_n X dX9_firstRoad_11 rfl 3 rfl ?_
    refine g_iload_n X dX9_firstRoad_12 rfl 2 rfl ?_
    refine g_callVI X (As := [.int v3, .int v2]) (rest := []) (T := TX1) (N := 12) (c_X1_touches (zl Z) (zE Z) v3 v2) gX9_firstRoad_X1_touches yo_X1_touches rfl ⟨Nat.le_of_ble_eq_true rfl, Nat.le_of_ble_eq_true rfl⟩ (Nat.le_of_ble_eq_true rfl) rfl rfl rfl dX9_firstRoad_13 h (fun r4 I2 J3 h => ?_)
    refine g_if_eq X (tgt := 47) dX9_firstRoad_16 (by decide) (fun c5 => ?_) (fun c5 => ?_)
    · have h := h.1 c5
      obtain ⟨x6, ex6⟩ : ∃ y : Int32, y = v3 + 1 := ⟨_, rfl⟩
      have h := h x6 ex6
      refine g_iinc X (q := 3) (v := x6) (lv' := [(3, .int x6), (0, .ref (ea (zE Z) 24)), (1, .ref (ea (zE Z) 5)), (2, .int v2)]) dX9_firstRoad_47 rfl (by rw [ex6]; rfl) (by decide) rfl ?_
      refine g_goto X (tgt := 2) dX9_firstRoad_50 (by decide) ?_
      refine GW.sub (lv' := [(0, .ref (ea (zE Z) 24)), (1, .ref (ea (zE Z) 5)), (2, .int v2), (3, .int x6)]) [1, 2, 3, 0] rfl ?_
      exact hk2 v2 x6 I2 J3 h
    · have h := h.2 c5
      refine g_aload_n X dX9_firstRoad_19 rfl 0 rfl ?_
      refine g_getr X (C := RX9) (T := TX9) (N := 1) (ci := 7) (k := 0) iX9_firstRoad_X9 rfl kX9_firstRoad_11 (Nat.le_of_ble_eq_true rfl) rfl (by decide) rfl rfl dX9_firstRoad_20 ?_
      refine g_aload_n X dX9_firstRoad_23 rfl 1 rfl ?_
      refine g_iload_n X dX9_firstRoad_24 rfl 3 rfl ?_
      refine g_iload_n X dX9_firstRoad_25 rfl 2 rfl ?_
      refine g_callVI X (As := [.int v3, .int v2]) (rest := [.ref (ea (zE Z) 25)]) (T := TX1) (N := 12) (c_X1_farEnd (zl Z) (zE Z) v3 v2) gX9_firstRoad_X1_farEnd yo_X1_farEnd rfl ⟨Nat.le_of_ble_eq_true rfl, Nat.le_of_ble_eq_true rfl⟩ (Nat.le_of_ble_eq_true rfl) rfl rfl rfl dX9_firstRoad_26 h (fun r9 I7 J8 h => ?_)
      obtain ⟨b10, h⟩ := h
      refine g_iald X (Nat.le_of_ble_eq_true rfl) rfl b10 dX9_firstRoad_29 ?_
      refine g_aload_n X dX9_firstRoad_30 rfl 1 rfl ?_
      refine g_iload_n X dX9_firstRoad_31 rfl 3 rfl ?_
      refine g_callSI X (As := [.ref (ea (zE Z) 5), .int v3]) (rest := [.int (I7 25 (Int32.toNatClampNeg r9))]) (c_X9_stepCost (zl Z) (zE Z) v3) gX9_firstRoad_X9_stepCost yo_X9_stepCost.2 rfl ⟨Nat.le_of_ble_eq_true rfl, Nat.le_of_ble_eq_true rfl⟩ rfl dX9_firstRoad_32 h (fun r13 I11 J12 h => ?_)
      refine g_iadd X dX9_firstRoad_35 ?_
      refine g_aload_n X dX9_firstRoad_36 rfl 0 rfl ?_
      refine g_getr X (C := RX9) (T := TX9) (N := 1) (ci := 7) (k := 0) iX9_firstRoad_X9 rfl kX9_firstRoad_11 (Nat.le_of_ble_eq_true rfl) rfl (by decide) rfl rfl dX9_firstRoad_37 ?_
      refine g_iload_n X dX9_firstRoad_40 rfl 2 rfl ?_
      obtain ⟨b14, h⟩ := h
      refine g_iald X (Nat.le_of_ble_eq_true rfl) rfl b14 dX9_firstRoad_41 ?_
      refine g_icmp_ne X (tgt := 47) dX9_firstRoad_42 (by decide) (fun c15 => ?_) (fun c15 => ?_)
      · have h := h.1 c15
        obtain ⟨x16, ex16⟩ : ∃ y : Int32, y = v3 + 1 := ⟨_, rfl⟩
        have h := h x16 ex16
        refine g_iinc X (q := 3) (v := x16) (lv' := [(3, .int x16), (0, .ref (ea (zE Z) 24)), (1, .ref (ea (zE Z) 5)), (2, .int v2)]) dX9_firstRoad_47 rfl (by rw [ex16]; rfl) (by decide) rfl ?_
        refine g_goto X (tgt := 2) dX9_firstRoad_50 (by decide) ?_
        refine GW.sub (lv' := [(0, .ref (ea (zE Z) 24)), (1, .ref (ea (zE Z) 5)), (2, .int v2), (3, .int x16)]) [1, 2, 3, 0] rfl ?_
        exact hk2 v2 x16 I11 J12 h
      · have h := h.2 c15
        refine g_iload_n X dX9_firstRoad_45 rfl 3 rfl ?_
        exact g_iret X R dX9_firstRoad_46 h
theorem w_X9_firstRoad_L2 {Z : RT}  (X : Cx Z cX9_firstRoad 4 RX9 wsX9_firstRoad rmX9_firstRoad (some .int)) {Q : Int32 → MI → MJ → Prop} (R : RI Z Q)    : ∀ (n : Nat) (v2 : Int32) (v3 : Int32) (I : MI) (J : MJ) (h : vc_X9_firstRoad_L2  Q  n v2 v3 I J), GW Z 4 I J 2 [(0, .ref (ea (zE Z) 24)), (1, .ref (ea (zE Z) 5)), (2, .int v2), (3, .int v3)] [] := by
  intro n
  induction n with
  | zero => intro v2 v3 I J h; exact h.elim
  | succ n ih => intro v2 v3 I J h; exact w_X9_firstRoad_L2s X R   ih v2 v3 I J h
def vc_X9_firstRoad (p2 : Int32) (I : MI) (J : MJ) (Q : Int32 → MI → MJ → Prop) : Prop := (∃ n, vc_X9_firstRoad_L2  Q  n p2 0 I J)
set_option maxRecDepth 100000 in
set_option maxHeartbeats 4000000 in
theorem c_X9_firstRoad (l : Launch) (E : ET)  (p2 : Int32) : CI l yX9_firstRoad wsX9_firstRoad rmX9_firstRoad E [.ref (ea E 24), .ref (ea E 5), .int p2] (vc_X9_firstRoad p2) := by
  refine CI.of (cc := cX9_firstRoad) (maxL := 4) (own := RX9) (by decide) rfl rfl (Nat.le_of_ble_eq_true rfl) ?_
  intro Z I J Q hE hl X R h
  subst hE
  subst hl
  show GW Z 4 I J 0 [(0, .ref (ea (zE Z) 24)), (1, .ref (ea (zE Z) 5)), (2, .int p2)] []
  refine g_iconst X (v := 0) dX9_firstRoad_0 (by decide) ?_
  refine g_istore_n X (lv' := [(3, .int 0), (0, .ref (ea (zE Z) 24)), (1, .ref (ea (zE Z) 5)), (2, .int p2)]) dX9_firstRoad_1 rfl (by decide) rfl ?_
  refine GW.sub (lv' := [(0, .ref (ea (zE Z) 24)), (1, .ref (ea (zE Z) 5)), (2, .int p2), (3, .int 0)]) [1, 2, 3, 0] rfl ?_
  obtain ⟨n, h⟩ := h
  exact w_X9_firstRoad_L2 X R   n p2 0 I J h

/-! X4_append.append(I)Z -/
def rmX4_append : Room := { frames := 0, cells := 0, slots := 0, locals := 0 }
theorem yo_X4_append : yX4_append.cls = RX4 ∧ yX4_append.cls ≠ "java/lang/invoke/MethodHandle" ∧ yX4_append.cls ≠ "java/lang/invoke/VarHandle" ∧ (parseMethodDescriptor yX4_append.desc).map (fun d => d.parameters.length) = some 1 := by decide +kernel
theorem kX4_append_21 : Cond.fieldLink RX4 21 "SnowCourse$PassRow" (TX4 1).2.1 (TX4 1).2.2.1 ∈ wsX4_append := by decide +kernel
theorem iX4_append_X4 : ∀ w ∈ u_ws RX4 TX4 4, w ∈ wsX4_append := by decide +kernel
theorem kX4_append_11 : Cond.fieldLink RX4 11 "SnowCourse$PassRow" (TX4 0).2.1 (TX4 0).2.2.1 ∈ wsX4_append := by decide +kernel
def vc_X4_append (p1 : Int32) (I : MI) (J : MJ) (Q : Int32 → MI → MJ → Prop) : Prop := (((I 20 1) < 5 → vp_in (I 20 1) 5 ∧ ∀ I3 : MI, I3 = wI I 21 (Int32.toNatClampNeg (I 20 1)) p1 → ∀ I4 : MI, I4 = wI I3 20 1 ((I3 20 1) + 1) → Q 1 I4 J) ∧ (¬ (I 20 1) < 5 → Q 0 I J))
set_option maxRecDepth 100000 in
set_option maxHeartbeats 4000000 in
theorem c_X4_append (l : Launch) (E : ET)  (p1 : Int32) : CI l yX4_append wsX4_append rmX4_append E [.ref (ea E 20), .int p1] (vc_X4_append p1) := by
  refine CI.of (cc := cX4_append) (maxL := 2) (own := RX4) (by decide) rfl rfl (Nat.le_of_ble_eq_true rfl) ?_
  intro Z I J Q hE hl X R h
  subst hE
  subst hl
  show GW Z 2 I J 0 [(0, .ref (ea (zE Z) 20)), (1, .int p1)] []
  refine g_aload_n X dX4_append_0 rfl 0 rfl ?_
  refine g_geti X (C := RX4) (T := TX4) (N := 4) (ci := 2) (k := 1) iX4_append_X4 rfl kX4_append_21 (Nat.le_of_ble_eq_true rfl) rfl (by decide) rfl rfl dX4_append_1 ?_
  refine g_iconst X (v := 5) dX4_append_4 (by decide) ?_
  refine g_icmp_lt X (tgt := 10) dX4_append_5 (by decide) (fun c1 => ?_) (fun c1 => ?_)
  · have h := h.1 c1
    refine g_aload_n X dX4_append_10 rfl 0 rfl ?_
    refine g_getr X (C := RX4) (T := TX4) (N := 4) (ci := 2) (k := 0) iX4_append_X4 rfl kX4_append_11 (Nat.le_of_ble_eq_true rfl) rfl (by decide) rfl rfl dX4_append_11 ?_
    refine g_aload_n X dX4_append_14 rfl 0 rfl ?_
    refine g_geti X (C := RX4) (T := TX4) (N := 4) (ci := 2) (k := 1) iX4_append_X4 rfl kX4_append_21 (Nat.le_of_ble_eq_true rfl) rfl (by decide) rfl rfl dX4_append_15 ?_
    refine g_iload_n X dX4_append_18 rfl 1 rfl ?_
    obtain ⟨b2, h⟩ := h
    refine g_iast X (Nat.le_of_ble_eq_true rfl) rfl b2 dX4_append_19 ?_
    refine g_nmI (fun I3 eI3 => ?_)
    have h := h I3 eI3
    refine g_aload_n X dX4_append_20 rfl 0 rfl ?_
    refine g_dup X dX4_append_21 rfl ?_
    refine g_geti X (C := RX4) (T := TX4) (N := 4) (ci := 2) (k := 1) iX4_append_X4 rfl kX4_append_21 (Nat.le_of_ble_eq_true rfl) rfl (by decide) rfl rfl dX4_append_22 ?_
    refine g_iconst X (v := 1) dX4_append_25 (by decide) ?_
    refine g_iadd X dX4_append_26 ?_
    refine g_puti X (C := RX4) (T := TX4) (N := 4) (ci := 2) (k := 1) (ty0 := tyX4) iX4_append_X4 tyX4_ok nmX4 rfl kX4_append_21 (Nat.le_of_ble_eq_true rfl) rfl (by decide) rfl rfl (by decide +kernel) rfl dX4_append_27 ?_
    refine g_nmI (fun I4 eI4 => ?_)
    have h := h I4 eI4
    refine g_iconst X (v := 1) dX4_append_30 (by decide) ?_
    exact g_zret X R (by decide) dX4_append_31 h
  · have h := h.2 c1
    refine g_iconst X (v := 0) dX4_append_8 (by decide) ?_
    exact g_zret X R (by decide) dX4_append_9 h

/-! X4_nextWith.nextWith(II)I -/
def rmX4_nextWith : Room := { frames := 1, cells := 0, slots := 0, locals := 20 }
theorem yo_X4_nextWith : yX4_nextWith.cls = RX4 ∧ yX4_nextWith.cls ≠ "java/lang/invoke/MethodHandle" ∧ yX4_nextWith.cls ≠ "java/lang/invoke/VarHandle" ∧ (parseMethodDescriptor yX4_nextWith.desc).map (fun d => d.parameters.length) = some 2 := by decide +kernel
theorem kX4_nextWith_15 : Cond.fieldLink RX4 15 "SnowCourse$PassRow" (TX4 2).2.1 (TX4 2).2.2.1 ∈ wsX4_nextWith := by decide +kernel
theorem iX4_nextWith_X4 : ∀ w ∈ u_ws RX4 TX4 4, w ∈ wsX4_nextWith := by decide +kernel
theorem kX4_nextWith_18 : Cond.fieldLink RX4 18 "SnowCourse$PassRow" (TX4 3).2.1 (TX4 3).2.2.1 ∈ wsX4_nextWith := by decide +kernel
def vc_X4_nextWith (p1 : Int32) (p2 : Int32) (I : MI) (J : MJ) (Q : Int32 → MI → MJ → Prop) : Prop := vc_J6_bitCount_0f7a4 p1 I J (fun (r3 : Int32) (I1 : MI) (J2 : MJ) => vp_in ((p2 * 5) + r3) 25 ∧ vp_in (p1 ||| (1 <<< (p2 &&& 31))) 32 ∧ Q ((I1 22 (Int32.toNatClampNeg ((p2 * 5) + r3))) + (I1 23 (Int32.toNatClampNeg (p1 ||| (1 <<< (p2 &&& 31)))))) I1 J2)
set_option maxRecDepth 100000 in
set_option maxHeartbeats 4000000 in
theorem c_X4_nextWith (l : Launch) (E : ET)  (p1 : Int32) (p2 : Int32) : CI l yX4_nextWith wsX4_nextWith rmX4_nextWith E [.ref (ea E 20), .int p1, .int p2] (vc_X4_nextWith p1 p2) := by
  refine CI.of (cc := cX4_nextWith) (maxL := 4) (own := RX4) (by decide) rfl rfl (Nat.le_of_ble_eq_true rfl) ?_
  intro Z I J Q hE hl X R h
  subst hE
  subst hl
  show GW Z 4 I J 0 [(0, .ref (ea (zE Z) 20)), (1, .int p1), (2, .int p2)] []
  refine g_iload_n X dX4_nextWith_0 rfl 1 rfl ?_
  refine g_callSI X (As := [.int p1]) (rest := []) (c_J6_bitCount_0f7a4 (zl Z) (zE Z) p1) gX4_nextWith_J6_bitCount_0f7a4 yo_J6_bitCount_0f7a4.2 rfl ⟨Nat.le_of_ble_eq_true rfl, Nat.le_of_ble_eq_true rfl⟩ rfl dX4_nextWith_1 h (fun r3 I1 J2 h => ?_)
  refine g_istore_n X (lv' := [(3, .int r3), (0, .ref (ea (zE Z) 20)), (1, .int p1), (2, .int p2)]) dX4_nextWith_4 rfl (by decide) rfl ?_
  refine g_aload_n X dX4_nextWith_5 rfl 1 rfl ?_
  refine g_getr X (C := RX4) (T := TX4) (N := 4) (ci := 2) (k := 2) iX4_nextWith_X4 rfl kX4_nextWith_15 (Nat.le_of_ble_eq_true rfl) rfl (by decide) rfl rfl dX4_nextWith_6 ?_
  refine g_iload_n X dX4_nextWith_9 rfl 3 rfl ?_
  refine g_iconst X (v := 5) dX4_nextWith_10 (by decide) ?_
  refine g_imul X dX4_nextWith_11 ?_
  refine g_iload_n X dX4_nextWith_12 rfl 0 rfl ?_
  refine g_iadd X dX4_nextWith_13 ?_
  obtain ⟨b4, h⟩ := h
  refine g_iald X (Nat.le_of_ble_eq_true rfl) rfl b4 dX4_nextWith_14 ?_
  refine g_aload_n X dX4_nextWith_15 rfl 1 rfl ?_
  refine g_getr X (C := RX4) (T := TX4) (N := 4) (ci := 2) (k := 3) iX4_nextWith_X4 rfl kX4_nextWith_18 (Nat.le_of_ble_eq_true rfl) rfl (by decide) rfl rfl dX4_nextWith_16 ?_
  refine g_iload_n X dX4_nextWith_19 rfl 2 rfl ?_
  refine g_iconst X (v := 1) dX4_nextWith_20 (by decide) ?_
  refine g_iload_n X dX4_nextWith_21 rfl 3 rfl ?_
  refine g_ishl X dX4_nextWith_22 ?_
  refine g_ior X dX4_nextWith_23 ?_
  obtain ⟨b5, h⟩ := h
  refine g_iald X (Nat.le_of_ble_eq_true rfl) rfl b5 dX4_nextWith_24 ?_
  refine g_iadd X dX4_nextWith_25 ?_
  exact g_iret X R dX4_nextWith_26 h

/-! X4_weigh.weigh(JI)V -/
def rmX4_weigh : Room := { frames := 3, cells := 0, slots := 0, locals := 77 }
theorem yo_X4_weigh : yX4_weigh.cls = RX4 ∧ yX4_weigh.cls ≠ "java/lang/invoke/MethodHandle" ∧ yX4_weigh.cls ≠ "java/lang/invoke/VarHandle" ∧ (parseMethodDescriptor yX4_weigh.desc).map (fun d => d.parameters.length) = some 2 := by decide +kernel
theorem kX4_weigh_21 : Cond.fieldLink RX4 21 "SnowCourse$PassRow" (TX4 1).2.1 (TX4 1).2.2.1 ∈ wsX4_weigh := by decide +kernel
theorem iX4_weigh_X4 : ∀ w ∈ u_ws RX4 TX4 4, w ∈ wsX4_weigh := by decide +kernel
theorem kX4_weigh_15 : Cond.fieldLink RX4 15 "SnowCourse$PassRow" (TX4 2).2.1 (TX4 2).2.2.1 ∈ wsX4_weigh := by decide +kernel
theorem kX4_weigh_11 : Cond.fieldLink RX4 11 "SnowCourse$PassRow" (TX4 0).2.1 (TX4 0).2.2.1 ∈ wsX4_weigh := by decide +kernel
theorem kX4_weigh_18 : Cond.fieldLink RX4 18 "SnowCourse$PassRow" (TX4 3).2.1 (TX4 3).2.2.1 ∈ wsX4_weigh := by decide +kernel
theorem kX4_weigh_m35 : Cond.methodLink RX4 35 Lib.Math.max.name ∈ wsX4_weigh := by decide +kernel
theorem kX4_weigh_msmax : Cond.static Lib.Math.max.name ∈ wsX4_weigh := by decide +kernel
theorem kX4_weigh_mi : Cond.initialized "java/lang/Math" ∈ wsX4_weigh := by decide +kernel
theorem kX4_weigh_mcmax : Cond.code Lib.Math.max.name Lib.Math.max.code 2 (some .int) ∈ wsX4_weigh := by decide +kernel
def vc_X4_weigh_L15s  (Q : MI → MJ → Prop) (k3 : Int64 → Int32 → Int32 → MI → MJ → Prop) (k15 : Int64 → Int32 → Int32 → Int32 → MI → MJ → Prop) (v1 : Int64) (v3 : Int32) (v4 : Int32) (v5 : Int32) (I : MI) (J : MJ) : Prop := (((I 20 1) ≤ v5 → ∀ x2 : Int32, x2 = v4 + 1 → k3 v1 v3 x2 I J) ∧ (¬ (I 20 1) ≤ v5 → vp_in v4 5 ∧ vc_X3_afterOpen v1 v3 v5 (I 21 (Int32.toNatClampNeg v4)) I J (fun (r6 : Int32) (I4 : MI) (J5 : MJ) => vp_in ((v4 * 5) + v5) 25 ∧ ∀ I8 : MI, I8 = wI I4 22 (Int32.toNatClampNeg ((v4 * 5) + v5)) r6 → ∀ x9 : Int32, x9 = v5 + 1 → k15 v1 v3 v4 x9 I8 J5)))
def vc_X4_weigh_L15  (Q : MI → MJ → Prop) (k3 : Int64 → Int32 → Int32 → MI → MJ → Prop) (n : Nat) : Int64 → Int32 → Int32 → Int32 → MI → MJ → Prop := Nat.rec (fun _ _ _ _ _ _ => False) (fun _ ih => vc_X4_weigh_L15s  Q k3 ih) n
set_option maxRecDepth 100000 in
set_option maxHeartbeats 4000000 in
theorem w_X4_weigh_L15s {Z : RT}  (X : Cx Z cX4_weigh 7 RX4 wsX4_weigh rmX4_weigh none) {Q : MI → MJ → Prop} (R : RV Z Q)  {k3 : Int64 → Int32 → Int32 → MI → MJ → Prop} (hk3 : ∀ (v1 : Int64) (v3 : Int32) (v4 : Int32) (I : MI) (J : MJ), k3 v1 v3 v4 I J → GW Z 7 I J 3 [(0, .ref (ea (zE Z) 20)), (1, .long v1), (3, .int v3), (4, .int v4)] []) {k15 : Int64 → Int32 → Int32 → Int32 → MI → MJ → Prop} (hk15 : ∀ (v1 : Int64) (v3 : Int32) (v4 : Int32) (v5 : Int32) (I : MI) (J : MJ), k15 v1 v3 v4 v5 I J → GW Z 7 I J 15 [(0, .ref (ea (zE Z) 20)), (1, .long v1), (3, .int v3), (4, .int v4), (5, .int v5)] []) (v1 : Int64) (v3 : Int32) (v4 : Int32) (v5 : Int32) (I : MI) (J : MJ) (h : vc_X4_weigh_L15s  Q k3 k15 v1 v3 v4 v5 I J) : GW Z 7 I J 15 [(0, .ref (ea (zE Z) 20)), (1, .long v1), (3, .int v3), (4, .int v4), (5, .int v5)] [] := by
  refine g_iload X dX4_weigh_15 4 rfl ?_
  refine g_aload_n X dX4_weigh_17 rfl 0 rfl ?_
  refine g_geti X (C := RX4) (T := TX4) (N := 4) (ci := 2) (k := 1) iX4_weigh_X4 rfl kX4_weigh_21 (Nat.le_of_ble_eq_true rfl) rfl (by decide) rfl rfl dX4_weigh_18 ?_
  refine g_icmp_ge X (tgt := 56) dX4_weigh_21 (by decide) (fun c1 => ?_) (fun c1 => ?_)
  · have h := h.1 c1
    obtain ⟨x2, ex2⟩ : ∃ y : Int32, y = v4 + 1 := ⟨_, rfl⟩
    have h := h x2 ex2
    refine g_iinc X (q := 3) (v := x2) (lv' := [(4, .int x2), (0, .ref (ea (zE Z) 20)), (1, .long v1), (3, .int v3), (5, .int v5)]) dX4_weigh_56 rfl (by rw [ex2]; rfl) (by decide) rfl ?_
    refine g_goto X (tgt := 3) dX4_weigh_59 (by decide) ?_
    refine GW.sub (lv' := [(0, .ref (ea (zE Z) 20)), (1, .long v1), (3, .int v3), (4, .int x2)]) [1, 2, 3, 0] rfl ?_
    exact hk3 v1 v3 x2 I J h
  · have h := h.2 c1
    refine g_aload_n X dX4_weigh_24 rfl 0 rfl ?_
    refine g_getr X (C := RX4) (T := TX4) (N := 4) (ci := 2) (k := 2) iX4_weigh_X4 rfl kX4_weigh_15 (Nat.le_of_ble_eq_true rfl) rfl (by decide) rfl rfl dX4_weigh_25 ?_
    refine g_iload X dX4_weigh_28 3 rfl ?_
    refine g_iconst X (v := 5) dX4_weigh_30 (by decide) ?_
    refine g_imul X dX4_weigh_31 ?_
    refine g_iload X dX4_weigh_32 4 rfl ?_
    refine g_iadd X dX4_weigh_34 ?_
    refine g_lload_n X dX4_weigh_35 rfl 1 rfl ?_
    refine g_iload_n X dX4_weigh_36 rfl 2 rfl ?_
    refine g_iload X dX4_weigh_37 4 rfl ?_
    refine g_aload_n X dX4_weigh_39 rfl 0 rfl ?_
    refine g_getr X (C := RX4) (T := TX4) (N := 4) (ci := 2) (k := 0) iX4_weigh_X4 rfl kX4_weigh_11 (Nat.le_of_ble_eq_true rfl) rfl (by decide) rfl rfl dX4_weigh_40 ?_
    refine g_iload X dX4_weigh_43 3 rfl ?_
    obtain ⟨b3, h⟩ := h
    refine g_iald X (Nat.le_of_ble_eq_true rfl) rfl b3 dX4_weigh_45 ?_
    refine g_callSI X (As := [.long v1, .int v3, .int v5, .int (I 21 (Int32.toNatClampNeg v4))]) (rest := [.int ((v4 * 5) + v5), .ref (ea (zE Z) 22)]) (c_X3_afterOpen (zl Z) (zE Z) v1 v3 v5 (I 21 (Int32.toNatClampNeg v4))) gX4_weigh_X3_afterOpen yo_X3_afterOpen.2 rfl ⟨Nat.le_of_ble_eq_true rfl, Nat.le_of_ble_eq_true rfl⟩ rfl dX4_weigh_46 h (fun r6 I4 J5 h => ?_)
    obtain ⟨b7, h⟩ := h
    refine g_iast X (Nat.le_of_ble_eq_true rfl) rfl b7 dX4_weigh_49 ?_
    refine g_nmI (fun I8 eI8 => ?_)
    have h := h I8 eI8
    obtain ⟨x9, ex9⟩ : ∃ y : Int32, y = v5 + 1 := ⟨_, rfl⟩
    have h := h x9 ex9
    refine g_iinc X (q := 4) (v := x9) (lv' := [(5, .int x9), (0, .ref (ea (zE Z) 20)), (1, .long v1), (3, .int v3), (4, .int v4)]) dX4_weigh_50 rfl (by rw [ex9]; rfl) (by decide) rfl ?_
    refine g_goto X (tgt := 15) dX4_weigh_53 (by decide) ?_
    refine GW.sub (lv' := [(0, .ref (ea (zE Z) 20)), (1, .long v1), (3, .int v3), (4, .int v4), (5, .int x9)]) [1, 2, 3, 4, 0] rfl ?_
    exact hk15 v1 v3 v4 x9 I8 J5 h
theorem w_X4_weigh_L15 {Z : RT}  (X : Cx Z cX4_weigh 7 RX4 wsX4_weigh rmX4_weigh none) {Q : MI → MJ → Prop} (R : RV Z Q)  {k3 : Int64 → Int32 → Int32 → MI → MJ → Prop} (hk3 : ∀ (v1 : Int64) (v3 : Int32) (v4 : Int32) (I : MI) (J : MJ), k3 v1 v3 v4 I J → GW Z 7 I J 3 [(0, .ref (ea (zE Z) 20)), (1, .long v1), (3, .int v3), (4, .int v4)] []) : ∀ (n : Nat) (v1 : Int64) (v3 : Int32) (v4 : Int32) (v5 : Int32) (I : MI) (J : MJ) (h : vc_X4_weigh_L15  Q k3 n v1 v3 v4 v5 I J), GW Z 7 I J 15 [(0, .ref (ea (zE Z) 20)), (1, .long v1), (3, .int v3), (4, .int v4), (5, .int v5)] [] := by
  intro n
  induction n with
  | zero => intro v1 v3 v4 v5 I J h; exact h.elim
  | succ n ih => intro v1 v3 v4 v5 I J h; exact w_X4_weigh_L15s X R  hk3 ih v1 v3 v4 v5 I J h
def vc_X4_weigh_L102s  (Q : MI → MJ → Prop) (k86 : Int32 → MI → MJ → Prop) (k102 : Int32 → Int32 → MI → MJ → Prop) (v5 : Int32) (v6 : Int32) (I : MI) (J : MJ) : Prop := (((I 20 1) ≤ v6 → ∀ x11 : Int32, x11 = v5 + (-1) → k86 x11 I J) ∧ (¬ (I 20 1) ≤ v6 → ((¬ ((v5 >>> (v6 &&& 31)) &&& 1) = 0 → ∀ x13 : Int32, x13 = v6 + 1 → k102 v5 x13 I J) ∧ (((v5 >>> (v6 &&& 31)) &&& 1) = 0 → vp_in v5 32 ∧ vc_X4_nextWith v5 v6 I J (fun (r17 : Int32) (I15 : MI) (J16 : MJ) => vp_in v5 32 ∧ ∀ I19 : MI, I19 = wI I15 23 (Int32.toNatClampNeg v5) (if (I 23 (Int32.toNatClampNeg v5)) < r17 then r17 else (I 23 (Int32.toNatClampNeg v5))) → ∀ x20 : Int32, x20 = v6 + 1 → k102 v5 x20 I19 J16)))))
def vc_X4_weigh_L102  (Q : MI → MJ → Prop) (k86 : Int32 → MI → MJ → Prop) (n : Nat) : Int32 → Int32 → MI → MJ → Prop := Nat.rec (fun _ _ _ _ => False) (fun _ ih => vc_X4_weigh_L102s  Q k86 ih) n
set_option maxRecDepth 100000 in
set_option maxHeartbeats 4000000 in
theorem w_X4_weigh_L102s {Z : RT}  (X : Cx Z cX4_weigh 7 RX4 wsX4_weigh rmX4_weigh none) {Q : MI → MJ → Prop} (R : RV Z Q)  {k86 : Int32 → MI → MJ → Prop} (hk86 : ∀ (v5 : Int32) (I : MI) (J : MJ), k86 v5 I J → GW Z 7 I J 86 [(0, .ref (ea (zE Z) 20)), (5, .int v5)] []) {k102 : Int32 → Int32 → MI → MJ → Prop} (hk102 : ∀ (v5 : Int32) (v6 : Int32) (I : MI) (J : MJ), k102 v5 v6 I J → GW Z 7 I J 102 [(0, .ref (ea (zE Z) 20)), (5, .int v5), (6, .int v6)] []) (v5 : Int32) (v6 : Int32) (I : MI) (J : MJ) (h : vc_X4_weigh_L102s  Q k86 k102 v5 v6 I J) : GW Z 7 I J 102 [(0, .ref (ea (zE Z) 20)), (5, .int v5), (6, .int v6)] [] := by
  refine g_iload X dX4_weigh_102 2 rfl ?_
  refine g_aload_n X dX4_weigh_104 rfl 0 rfl ?_
  refine g_geti X (C := RX4) (T := TX4) (N := 4) (ci := 2) (k := 1) iX4_weigh_X4 rfl kX4_weigh_21 (Nat.le_of_ble_eq_true rfl) rfl (by decide) rfl rfl dX4_weigh_105 ?_
  refine g_icmp_ge X (tgt := 152) dX4_weigh_108 (by decide) (fun c10 => ?_) (fun c10 => ?_)
  · have h := h.1 c10
    obtain ⟨x11, ex11⟩ : ∃ y : Int32, y = v5 + (-1) := ⟨_, rfl⟩
    have h := h x11 ex11
    refine g_iinc X (q := 1) (v := x11) (lv' := [(5, .int x11), (0, .ref (ea (zE Z) 20)), (6, .int v6)]) dX4_weigh_152 rfl (by rw [ex11]; rfl) (by decide) rfl ?_
    refine g_goto X (tgt := 86) dX4_weigh_155 (by decide) ?_
    refine GW.sub (lv' := [(0, .ref (ea (zE Z) 20)), (5, .int x11)]) [1, 0] rfl ?_
    exact hk86 x11 I J h
  · have h := h.2 c10
    refine g_iload X dX4_weigh_111 1 rfl ?_
    refine g_iload X dX4_weigh_113 2 rfl ?_
    refine g_ishr X dX4_weigh_115 ?_
    refine g_iconst X (v := 1) dX4_weigh_116 (by decide) ?_
    refine g_iand X dX4_weigh_117 ?_
    refine g_if_ne X (tgt := 146) dX4_weigh_118 (by decide) (fun c12 => ?_) (fun c12 => ?_)
    · have h := h.1 c12
      obtain ⟨x13, ex13⟩ : ∃ y : Int32, y = v6 + 1 := ⟨_, rfl⟩
      have h := h x13 ex13
      refine g_iinc X (q := 2) (v := x13) (lv' := [(6, .int x13), (0, .ref (ea (zE Z) 20)), (5, .int v5)]) dX4_weigh_146 rfl (by rw [ex13]; rfl) (by decide) rfl ?_
      refine g_goto X (tgt := 102) dX4_weigh_149 (by decide) ?_
      refine GW.sub (lv' := [(0, .ref (ea (zE Z) 20)), (5, .int v5), (6, .int x13)]) [1, 2, 0] rfl ?_
      exact hk102 v5 x13 I J h
    · have h := h.2 c12
      refine g_aload_n X dX4_weigh_121 rfl 0 rfl ?_
      refine g_getr X (C := RX4) (T := TX4) (N := 4) (ci := 2) (k := 3) iX4_weigh_X4 rfl kX4_weigh_18 (Nat.le_of_ble_eq_true rfl) rfl (by decide) rfl rfl dX4_weigh_122 ?_
      refine g_iload X dX4_weigh_125 1 rfl ?_
      refine g_aload_n X dX4_weigh_127 rfl 0 rfl ?_
      refine g_getr X (C := RX4) (T := TX4) (N := 4) (ci := 2) (k := 3) iX4_weigh_X4 rfl kX4_weigh_18 (Nat.le_of_ble_eq_true rfl) rfl (by decide) rfl rfl dX4_weigh_128 ?_
      refine g_iload X dX4_weigh_131 1 rfl ?_
      obtain ⟨b14, h⟩ := h
      refine g_iald X (Nat.le_of_ble_eq_true rfl) rfl b14 dX4_weigh_133 ?_
      refine g_aload_n X dX4_weigh_134 rfl 0 rfl ?_
      refine g_iload X dX4_weigh_135 1 rfl ?_
      refine g_iload X dX4_weigh_137 2 rfl ?_
      refine g_callVI X (As := [.int v5, .int v6]) (rest := [.int (I 23 (Int32.toNatClampNeg v5)), .int v5, .ref (ea (zE Z) 23)]) (T := TX4) (N := 4) (c_X4_nextWith (zl Z) (zE Z) v5 v6) gX4_weigh_X4_nextWith yo_X4_nextWith rfl ⟨Nat.le_of_ble_eq_true rfl, Nat.le_of_ble_eq_true rfl⟩ (Nat.le_of_ble_eq_true rfl) rfl rfl rfl dX4_weigh_139 h (fun r17 I15 J16 h => ?_)
      refine g_mmax X kX4_weigh_m35 kX4_weigh_msmax kX4_weigh_mi kX4_weigh_mcmax ⟨Nat.le_of_ble_eq_true rfl, Nat.le_of_ble_eq_true rfl⟩ dX4_weigh_142 ?_
      obtain ⟨b18, h⟩ := h
      refine g_iast X (Nat.le_of_ble_eq_true rfl) rfl b18 dX4_weigh_145 ?_
      refine g_nmI (fun I19 eI19 => ?_)
      have h := h I19 eI19
      obtain ⟨x20, ex20⟩ : ∃ y : Int32, y = v6 + 1 := ⟨_, rfl⟩
      have h := h x20 ex20
      refine g_iinc X (q := 2) (v := x20) (lv' := [(6, .int x20), (0, .ref (ea (zE Z) 20)), (5, .int v5)]) dX4_weigh_146 rfl (by rw [ex20]; rfl) (by decide) rfl ?_
      refine g_goto X (tgt := 102) dX4_weigh_149 (by decide) ?_
      refine GW.sub (lv' := [(0, .ref (ea (zE Z) 20)), (5, .int v5), (6, .int x20)]) [1, 2, 0] rfl ?_
      exact hk102 v5 x20 I19 J16 h
theorem w_X4_weigh_L102 {Z : RT}  (X : Cx Z cX4_weigh 7 RX4 wsX4_weigh rmX4_weigh none) {Q : MI → MJ → Prop} (R : RV Z Q)  {k86 : Int32 → MI → MJ → Prop} (hk86 : ∀ (v5 : Int32) (I : MI) (J : MJ), k86 v5 I J → GW Z 7 I J 86 [(0, .ref (ea (zE Z) 20)), (5, .int v5)] []) : ∀ (n : Nat) (v5 : Int32) (v6 : Int32) (I : MI) (J : MJ) (h : vc_X4_weigh_L102  Q k86 n v5 v6 I J), GW Z 7 I J 102 [(0, .ref (ea (zE Z) 20)), (5, .int v5), (6, .int v6)] [] := by
  intro n
  induction n with
  | zero => intro v5 v6 I J h; exact h.elim
  | succ n ih => intro v5 v6 I J h; exact w_X4_weigh_L102s X R  hk86 ih v5 v6 I J h
def vc_X4_weigh_L86s  (Q : MI → MJ → Prop)  (k86 : Int32 → MI → MJ → Prop) (v5 : Int32) (I : MI) (J : MJ) : Prop := ((v5 < 0 → Q I J) ∧ (¬ v5 < 0 → vp_in v5 32 ∧ ∀ I23 : MI, I23 = wI I 23 (Int32.toNatClampNeg v5) 0 → (∃ n, vc_X4_weigh_L102  Q k86 n v5 0 I23 J)))
def vc_X4_weigh_L86  (Q : MI → MJ → Prop)  (n : Nat) : Int32 → MI → MJ → Prop := Nat.rec (fun _ _ _ => False) (fun _ ih => vc_X4_weigh_L86s  Q  ih) n
set_option maxRecDepth 100000 in
set_option maxHeartbeats 4000000 in
theorem w_X4_weigh_L86s {Z : RT}  (X : Cx Z cX4_weigh 7 RX4 wsX4_weigh rmX4_weigh none) {Q : MI → MJ → Prop} (R : RV Z Q)    {k86 : Int32 → MI → MJ → Prop} (hk86 : ∀ (v5 : Int32) (I : MI) (J : MJ), k86 v5 I J → GW Z 7 I J 86 [(0, .ref (ea (zE Z) 20)), (5, .int v5)] []) (v5 : Int32) (I : MI) (J : MJ) (h : vc_X4_weigh_L86s  Q  k86 v5 I J) : GW Z 7 I J 86 [(0, .ref (ea (zE Z) 20)), (5, .int v5)] [] := by
  refine g_iload X dX4_weigh_86 1 rfl ?_
  refine g_if_lt X (tgt := 158) dX4_weigh_88 (by decide) (fun c21 => ?_) (fun c21 => ?_)
  · have h := h.1 c21
    exact g_vret X R dX4_weigh_158 h
  · have h := h.2 c21
    refine g_aload_n X dX4_weigh_91 rfl 0 rfl ?_
    refine g_getr X (C := RX4) (T := TX4) (N := 4) (ci := 2) (k := 3) iX4_weigh_X4 rfl kX4_weigh_18 (Nat.le_of_ble_eq_true rfl) rfl (by decide) rfl rfl dX4_weigh_92 ?_
    refine g_iload X dX4_weigh_95 1 rfl ?_
    refine g_iconst X (v := 0) dX4_weigh_97 (by decide) ?_
    obtain ⟨b22, h⟩ := h
    refine g_iast X (Nat.le_of_ble_eq_true rfl) rfl b22 dX4_weigh_98 ?_
    refine g_nmI (fun I23 eI23 => ?_)
    have h := h I23 eI23
    refine g_iconst X (v := 0) dX4_weigh_99 (by decide) ?_
    refine g_istore X (lv' := [(6, .int 0), (0, .ref (ea (zE Z) 20)), (5, .int v5)]) dX4_weigh_100 (by decide) rfl ?_
    refine GW.sub (lv' := [(0, .ref (ea (zE Z) 20)), (5, .int v5), (6, .int 0)]) [1, 2, 0] rfl ?_
    obtain ⟨n, h⟩ := h
    exact w_X4_weigh_L102 X R  hk86 n v5 0 I23 J h
theorem w_X4_weigh_L86 {Z : RT}  (X : Cx Z cX4_weigh 7 RX4 wsX4_weigh rmX4_weigh none) {Q : MI → MJ → Prop} (R : RV Z Q)    : ∀ (n : Nat) (v5 : Int32) (I : MI) (J : MJ) (h : vc_X4_weigh_L86  Q  n v5 I J), GW Z 7 I J 86 [(0, .ref (ea (zE Z) 20)), (5, .int v5)] [] := by
  intro n
  induction n with
  | zero => intro v5 I J h; exact h.elim
  | succ n ih => intro v5 I J h; exact w_X4_weigh_L86s X R   ih v5 I J h
def vc_X4_weigh_L3s  (Q : MI → MJ → Prop)  (k3 : Int64 → Int32 → Int32 → MI → MJ → Prop) (v1 : Int64) (v3 : Int32) (v4 : Int32) (I : MI) (J : MJ) : Prop := (((I 20 1) ≤ v4 → ∀ x25 : Int32, x25 = (1 <<< ((I 20 1) &&& 31)) - 1 → vp_in x25 32 ∧ ∀ I27 : MI, I27 = wI I 23 (Int32.toNatClampNeg x25) 0 → ∀ x28 : Int32, x28 = x25 - 1 → (∃ n, vc_X4_weigh_L86  Q  n x28 I27 J)) ∧ (¬ (I 20 1) ≤ v4 → (∃ n, vc_X4_weigh_L15  Q k3 n v1 v3 v4 0 I J)))
def vc_X4_weigh_L3  (Q : MI → MJ → Prop)  (n : Nat) : Int64 → Int32 → Int32 → MI → MJ → Prop := Nat.rec (fun _ _ _ _ _ => False) (fun _ ih => vc_X4_weigh_L3s  Q  ih) n
set_option maxRecDepth 100000 in
set_option maxHeartbeats 4000000 in
theorem w_X4_weigh_L3s {Z : RT}  (X : Cx Z cX4_weigh 7 RX4 wsX4_weigh rmX4_weigh none) {Q : MI → MJ → Prop} (R : RV Z Q)    {k3 : Int64 → Int32 → Int32 → MI → MJ → Prop} (hk3 : ∀ (v1 : Int64) (v3 : Int32) (v4 : Int32) (I : MI) (J : MJ), k3 v1 v3 v4 I J → GW Z 7 I J 3 [(0, .ref (ea (zE Z) 20)), (1, .long v1), (3, .int v3), (4, .int v4)] []) (v1 : Int64) (v3 : Int32) (v4 : Int32) (I : MI) (J : MJ) (h : vc_X4_weigh_L3s  Q  k3 v1 v3 v4 I J) : GW Z 7 I J 3 [(0, .ref (ea (zE Z) 20)), (1, .long v1), (3, .int v3), (4, .int v4)] [] := by
  refine g_iload X dX4_weigh_3 3 rfl ?_
  refine g_aload_n X dX4_weigh_5 rfl 0 rfl ?_
  refine g_geti X (C := RX4) (T := TX4) (N := 4) (ci := 2) (k := 1) iX4_weigh_X4 rfl kX4_weigh_21 (Nat.le_of_ble_eq_true rfl) rfl (by decide) rfl rfl dX4_weigh_6 ?_
  refine g_icmp_ge X (tgt := 62) dX4_weigh_9 (by decide) (fun c24 => ?_) (fun c24 => ?_)
  · have h := h.1 c24
    refine g_iconst X (v := 1) dX4_weigh_62 (by decide) ?_
    refine g_aload_n X dX4_weigh_63 rfl 0 rfl ?_
    refine g_geti X (C := RX4) (T := TX4) (N := 4) (ci := 2) (k := 1) iX4_weigh_X4 rfl kX4_weigh_21 (Nat.le_of_ble_eq_true rfl) rfl (by decide) rfl rfl dX4_weigh_64 ?_
    refine g_ishl X dX4_weigh_67 ?_
    refine g_iconst X (v := 1) dX4_weigh_68 (by decide) ?_
    refine g_isub X dX4_weigh_69 ?_
    refine g_topi (fun x25 ex25 => ?_)
    have h := h x25 ex25
    refine g_istore X (lv' := [(4, .int x25), (0, .ref (ea (zE Z) 20)), (1, .long v1), (3, .int v3)]) dX4_weigh_70 (by decide) rfl ?_
    refine g_aload_n X dX4_weigh_72 rfl 1 rfl ?_
    refine g_getr X (C := RX4) (T := TX4) (N := 4) (ci := 2) (k := 3) iX4_weigh_X4 rfl kX4_weigh_18 (Nat.le_of_ble_eq_true rfl) rfl (by decide) rfl rfl dX4_weigh_73 ?_
    refine g_iload X dX4_weigh_76 0 rfl ?_
    refine g_iconst X (v := 0) dX4_weigh_78 (by decide) ?_
    obtain ⟨b26, h⟩ := h
    refine g_iast X (Nat.le_of_ble_eq_true rfl) rfl b26 dX4_weigh_79 ?_
    refine g_nmI (fun I27 eI27 => ?_)
    have h := h I27 eI27
    refine g_iload X dX4_weigh_80 0 rfl ?_
    refine g_iconst X (v := 1) dX4_weigh_82 (by decide) ?_
    refine g_isub X dX4_weigh_83 ?_
    refine g_topi (fun x28 ex28 => ?_)
    have h := h x28 ex28
    refine g_istore X (lv' := [(5, .int x28), (4, .int x25), (0, .ref (ea (zE Z) 20)), (1, .long v1), (3, .int v3)]) dX4_weigh_84 (by decide) rfl ?_
    refine GW.sub (lv' := [(0, .ref (ea (zE Z) 20)), (5, .int x28)]) [2, 0] rfl ?_
    obtain ⟨n, h⟩ := h
    exact w_X4_weigh_L86 X R   n x28 I27 J h
  · have h := h.2 c24
    refine g_iconst X (v := 0) dX4_weigh_12 (by decide) ?_
    refine g_istore X (lv' := [(5, .int 0), (0, .ref (ea (zE Z) 20)), (1, .long v1), (3, .int v3), (4, .int v4)]) dX4_weigh_13 (by decide) rfl ?_
    refine GW.sub (lv' := [(0, .ref (ea (zE Z) 20)), (1, .long v1), (3, .int v3), (4, .int v4), (5, .int 0)]) [1, 2, 3, 4, 0] rfl ?_
    obtain ⟨n, h⟩ := h
    exact w_X4_weigh_L15 X R  hk3 n v1 v3 v4 0 I J h
theorem w_X4_weigh_L3 {Z : RT}  (X : Cx Z cX4_weigh 7 RX4 wsX4_weigh rmX4_weigh none) {Q : MI → MJ → Prop} (R : RV Z Q)    : ∀ (n : Nat) (v1 : Int64) (v3 : Int32) (v4 : Int32) (I : MI) (J : MJ) (h : vc_X4_weigh_L3  Q  n v1 v3 v4 I J), GW Z 7 I J 3 [(0, .ref (ea (zE Z) 20)), (1, .long v1), (3, .int v3), (4, .int v4)] [] := by
  intro n
  induction n with
  | zero => intro v1 v3 v4 I J h; exact h.elim
  | succ n ih => intro v1 v3 v4 I J h; exact w_X4_weigh_L3s X R   ih v1 v3 v4 I J h
def vc_X4_weigh (p1 : Int64) (p3 : Int32) (I : MI) (J : MJ) (Q : MI → MJ → Prop) : Prop := (∃ n, vc_X4_weigh_L3  Q  n p1 p3 0 I J)
set_option maxRecDepth 100000 in
set_option maxHeartbeats 4000000 in
theorem c_X4_weigh (l : Launch) (E : ET)  (p1 : Int64) (p3 : Int32) : CV l yX4_weigh wsX4_weigh rmX4_weigh E [.ref (ea E 20), .long p1, .int p3] (vc_X4_weigh p1 p3) := by
  refine CV.of (cc := cX4_weigh) (maxL := 7) (own := RX4) (by decide) rfl rfl (Nat.le_of_ble_eq_true rfl) ?_
  intro Z I J Q hE hl X R h
  subst hE
  subst hl
  show GW Z 7 I J 0 [(0, .ref (ea (zE Z) 20)), (1, .long p1), (3, .int p3)] []
  refine g_iconst X (v := 0) dX4_weigh_0 (by decide) ?_
  refine g_istore X (lv' := [(4, .int 0), (0, .ref (ea (zE Z) 20)), (1, .long p1), (3, .int p3)]) dX4_weigh_1 (by decide) rfl ?_
  refine GW.sub (lv' := [(0, .ref (ea (zE Z) 20)), (1, .long p1), (3, .int p3), (4, .int 0)]) [1, 2, 3, 0] rfl ?_
  obtain ⟨n, h⟩ := h
  exact w_X4_weigh_L3 X R   n p1 p3 0 I J h

/-! X4_mostThrough.mostThrough()I -/
def rmX4_mostThrough : Room := { frames := 0, cells := 0, slots := 0, locals := 0 }
theorem yo_X4_mostThrough : yX4_mostThrough.cls = RX4 ∧ yX4_mostThrough.cls ≠ "java/lang/invoke/MethodHandle" ∧ yX4_mostThrough.cls ≠ "java/lang/invoke/VarHandle" ∧ (parseMethodDescriptor yX4_mostThrough.desc).map (fun d => d.parameters.length) = some 0 := by decide +kernel
theorem kX4_mostThrough_18 : Cond.fieldLink RX4 18 "SnowCourse$PassRow" (TX4 3).2.1 (TX4 3).2.2.1 ∈ wsX4_mostThrough := by decide +kernel
theorem iX4_mostThrough_X4 : ∀ w ∈ u_ws RX4 TX4 4, w ∈ wsX4_mostThrough := by decide +kernel
def vc_X4_mostThrough  (I : MI) (J : MJ) (Q : Int32 → MI → MJ → Prop) : Prop := vp_in 0 32 ∧ Q (I 23 (Int32.toNatClampNeg 0)) I J
set_option maxRecDepth 100000 in
set_option maxHeartbeats 4000000 in
theorem c_X4_mostThrough (l : Launch) (E : ET)   : CI l yX4_mostThrough wsX4_mostThrough rmX4_mostThrough E [.ref (ea E 20)] (vc_X4_mostThrough ) := by
  refine CI.of (cc := cX4_mostThrough) (maxL := 1) (own := RX4) (by decide) rfl rfl (Nat.le_of_ble_eq_true rfl) ?_
  intro Z I J Q hE hl X R h
  subst hE
  subst hl
  show GW Z 1 I J 0 [(0, .ref (ea (zE Z) 20))] []
  refine g_aload_n X dX4_mostThrough_0 rfl 0 rfl ?_
  refine g_getr X (C := RX4) (T := TX4) (N := 4) (ci := 2) (k := 3) iX4_mostThrough_X4 rfl kX4_mostThrough_18 (Nat.le_of_ble_eq_true rfl) rfl (by decide) rfl rfl dX4_mostThrough_1 ?_
  refine g_iconst X (v := 0) dX4_mostThrough_4 (by decide) ?_
  obtain ⟨b1, h⟩ := h
  refine g_iald X (Nat.le_of_ble_eq_true rfl) rfl b1 dX4_mostThrough_5 ?_
  exact g_iret X R dX4_mostThrough_6 h

/-! X4_firstBest.firstBest(I)I -/
def rmX4_firstBest : Room := { frames := 2, cells := 0, slots := 0, locals := 43 }
theorem yo_X4_firstBest : yX4_firstBest.cls = RX4 ∧ yX4_firstBest.cls ≠ "java/lang/invoke/MethodHandle" ∧ yX4_firstBest.cls ≠ "java/lang/invoke/VarHandle" ∧ (parseMethodDescriptor yX4_firstBest.desc).map (fun d => d.parameters.length) = some 1 := by decide +kernel
theorem kX4_firstBest_21 : Cond.fieldLink RX4 21 "SnowCourse$PassRow" (TX4 1).2.1 (TX4 1).2.2.1 ∈ wsX4_firstBest := by decide +kernel
theorem iX4_firstBest_X4 : ∀ w ∈ u_ws RX4 TX4 4, w ∈ wsX4_firstBest := by decide +kernel
theorem kX4_firstBest_18 : Cond.fieldLink RX4 18 "SnowCourse$PassRow" (TX4 3).2.1 (TX4 3).2.2.1 ∈ wsX4_firstBest := by decide +kernel
def vc_X4_firstBest_L2s  (Q : Int32 → MI → MJ → Prop)  (k2 : Int32 → Int32 → MI → MJ → Prop) (v1 : Int32) (v2 : Int32) (I : MI) (J : MJ) : Prop := (((I 20 1) ≤ v2 → Q (-1) I J) ∧ (¬ (I 20 1) ≤ v2 → ((¬ ((v1 >>> (v2 &&& 31)) &&& 1) = 0 → ∀ x3 : Int32, x3 = v2 + 1 → k2 v1 x3 I J) ∧ (((v1 >>> (v2 &&& 31)) &&& 1) = 0 → vc_X4_nextWith v1 v2 I J (fun (r6 : Int32) (I4 : MI) (J5 : MJ) => vp_in v1 32 ∧ ((¬ r6 = (I4 23 (Int32.toNatClampNeg v1)) → ∀ x9 : Int32, x9 = v2 + 1 → k2 v1 x9 I4 J5) ∧ (r6 = (I4 23 (Int32.toNatClampNeg v1)) → Q v2 I4 J5)))))))
def vc_X4_firstBest_L2  (Q : Int32 → MI → MJ → Prop)  (n : Nat) : Int32 → Int32 → MI → MJ → Prop := Nat.rec (fun _ _ _ _ => False) (fun _ ih => vc_X4_firstBest_L2s  Q  ih) n
set_option maxRecDepth 100000 in
set_option maxHeartbeats 4000000 in
theorem w_X4_firstBest_L2s {Z : RT}  (X : Cx Z cX4_firstBest 3 RX4 wsX4_firstBest rmX4_firstBest (some .int)) {Q : Int32 → MI → MJ → Prop} (R : RI Z Q)    {k2 : Int32 → Int32 → MI → MJ → Prop} (hk2 : ∀ (v1 : Int32) (v2 : Int32) (I : MI) (J : MJ), k2 v1 v2 I J → GW Z 3 I J 2 [(0, .ref (ea (zE Z) 20)), (1, .int v1), (2, .int v2)] []) (v1 : Int32) (v2 : Int32) (I : MI) (J : MJ) (h : vc_X4_firstBest_L2s  Q  k2 v1 v2 I J) : GW Z 3 I J 2 [(0, .ref (ea (zE Z) 20)), (1, .int v1), (2, .int v2)] [] := by
  refine g_iload_n X dX4_firstBest_2 rfl 2 rfl ?_
  refine g_aload_n X dX4_firstBest_3 rfl 0 rfl ?_
  refine g_geti X (C := RX4) (T := TX4) (N := 4) (ci := 2) (k := 1) iX4_firstBest_X4 rfl kX4_firstBest_21 (Nat.le_of_ble_eq_true rfl) rfl (by decide) rfl rfl dX4_firstBest_4 ?_
  refine g_icmp_ge X (tgt := 41) dX4_firstBest_7 (by decide) (fun c1 => ?_) (fun c1 => ?_)
  · have h := h.1 c1
    refine g_iconst X (v := (-1)) dX4_firstBest_41 (by decide) ?_
    exact g_iret X R dX4_firstBest_42 h
  · have h := h.2 c1
    refine g_iload_n X dX4_firstBest_10 rfl 1 rfl ?_
    refine g_iload_n X dX4_firstBest_11 rfl 2 rfl ?_
    refine g_ishr X dX4_firstBest_12 ?_
    refine g_iconst X (v := 1) dX4_firstBest_13 (by decide) ?_
    refine g_iand X dX4_firstBest_14 ?_
    refine g_if_ne X (tgt := 35) dX4_firstBest_15 (by decide) (fun c2 => ?_) (fun c2 => ?_)
    · have h := h.1 c2
      obtain ⟨x3, ex3⟩ : ∃ y : Int32, y = v2 + 1 := ⟨_, rfl⟩
      have h := h x3 ex3
      refine g_iinc X (q := 2) (v := x3) (lv' := [(2, .int x3), (0, .ref (ea (zE Z) 20)), (1, .int v1)]) dX4_firstBest_35 rfl (by rw [ex3]; rfl) (by decide) rfl ?_
      refine g_goto X (tgt := 2) dX4_firstBest_38 (by decide) ?_
      refine GW.sub (lv' := [(0, .ref (ea (zE Z) 20)), (1, .int v1), (2, .int x3)]) [1, 2, 0] rfl ?_
      exact hk2 v1 x3 I J h
    · have h := h.2 c2
      refine g_aload_n X dX4_firstBest_18 rfl 0 rfl ?_
      refine g_iload_n X dX4_firstBest_19 rfl 1 rfl ?_
      refine g_iload_n X dX4_firstBest_20 rfl 2 rfl ?_
      refine g_callVI X (As := [.int v1, .int v2]) (rest := []) (T := TX4) (N := 4) (c_X4_nextWith (zl Z) (zE Z) v1 v2) gX4_firstBest_X4_nextWith yo_X4_nextWith rfl ⟨Nat.le_of_ble_eq_true rfl, Nat.le_of_ble_eq_true rfl⟩ (Nat.le_of_ble_eq_true rfl) rfl rfl rfl dX4_firstBest_21 h (fun r6 I4 J5 h => ?_)
      refine g_aload_n X dX4_firstBest_24 rfl 0 rfl ?_
      refine g_getr X (C := RX4) (T := TX4) (N := 4) (ci := 2) (k := 3) iX4_firstBest_X4 rfl kX4_firstBest_18 (Nat.le_of_ble_eq_true rfl) rfl (by decide) rfl rfl dX4_firstBest_25 ?_
      refine g_iload_n X dX4_firstBest_28 rfl 1 rfl ?_
      obtain ⟨b7, h⟩ := h
      refine g_iald X (Nat.le_of_ble_eq_true rfl) rfl b7 dX4_firstBest_29 ?_
      refine g_icmp_ne X (tgt := 35) dX4_firstBest_30 (by decide) (fun c8 => ?_) (fun c8 => ?_)
      · have h := h.1 c8
        obtain ⟨x9, ex9⟩ : ∃ y : Int32, y = v2 + 1 := ⟨_, rfl⟩
        have h := h x9 ex9
        refine g_iinc X (q := 2) (v := x9) (lv' := [(2, .int x9), (0, .ref (ea (zE Z) 20)), (1, .int v1)]) dX4_firstBest_35 rfl (by rw [ex9]; rfl) (by decide) rfl ?_
        refine g_goto X (tgt := 2) dX4_firstBest_38 (by decide) ?_
        refine GW.sub (lv' := [(0, .ref (ea (zE Z) 20)), (1, .int v1), (2, .int x9)]) [1, 2, 0] rfl ?_
        exact hk2 v1 x9 I4 J5 h
      · have h := h.2 c8
        refine g_iload_n X dX4_firstBest_33 rfl 2 rfl ?_
        exact g_iret X R dX4_firstBest_34 h
theorem w_X4_firstBest_L2 {Z : RT}  (X : Cx Z cX4_firstBest 3 RX4 wsX4_firstBest rmX4_firstBest (some .int)) {Q : Int32 → MI → MJ → Prop} (R : RI Z Q)    : ∀ (n : Nat) (v1 : Int32) (v2 : Int32) (I : MI) (J : MJ) (h : vc_X4_firstBest_L2  Q  n v1 v2 I J), GW Z 3 I J 2 [(0, .ref (ea (zE Z) 20)), (1, .int v1), (2, .int v2)] [] := by
  intro n
  induction n with
  | zero => intro v1 v2 I J h; exact h.elim
  | succ n ih => intro v1 v2 I J h; exact w_X4_firstBest_L2s X R   ih v1 v2 I J h
def vc_X4_firstBest (p1 : Int32) (I : MI) (J : MJ) (Q : Int32 → MI → MJ → Prop) : Prop := (∃ n, vc_X4_firstBest_L2  Q  n p1 0 I J)
set_option maxRecDepth 100000 in
set_option maxHeartbeats 4000000 in
theorem c_X4_firstBest (l : Launch) (E : ET)  (p1 : Int32) : CI l yX4_firstBest wsX4_firstBest rmX4_firstBest E [.ref (ea E 20), .int p1] (vc_X4_firstBest p1) := by
  refine CI.of (cc := cX4_firstBest) (maxL := 3) (own := RX4) (by decide) rfl rfl (Nat.le_of_ble_eq_true rfl) ?_
  intro Z I J Q hE hl X R h
  subst hE
  subst hl
  show GW Z 3 I J 0 [(0, .ref (ea (zE Z) 20)), (1, .int p1)] []
  refine g_iconst X (v := 0) dX4_firstBest_0 (by decide) ?_
  refine g_istore_n X (lv' := [(2, .int 0), (0, .ref (ea (zE Z) 20)), (1, .int p1)]) dX4_firstBest_1 rfl (by decide) rfl ?_
  refine GW.sub (lv' := [(0, .ref (ea (zE Z) 20)), (1, .int p1), (2, .int 0)]) [1, 2, 0] rfl ?_
  obtain ⟨n, h⟩ := h
  exact w_X4_firstBest_L2 X R   n p1 0 I J h

/-! X4_loadInTurn.loadInTurn(I)I -/
def rmX4_loadInTurn : Room := { frames := 3, cells := 0, slots := 0, locals := 65 }
theorem yo_X4_loadInTurn : yX4_loadInTurn.cls = RX4 ∧ yX4_loadInTurn.cls ≠ "java/lang/invoke/MethodHandle" ∧ yX4_loadInTurn.cls ≠ "java/lang/invoke/VarHandle" ∧ (parseMethodDescriptor yX4_loadInTurn.desc).map (fun d => d.parameters.length) = some 1 := by decide +kernel
theorem kX4_loadInTurn_21 : Cond.fieldLink RX4 21 "SnowCourse$PassRow" (TX4 1).2.1 (TX4 1).2.2.1 ∈ wsX4_loadInTurn := by decide +kernel
theorem iX4_loadInTurn_X4 : ∀ w ∈ u_ws RX4 TX4 4, w ∈ wsX4_loadInTurn := by decide +kernel
def vc_X4_loadInTurn_L7s  (Q : Int32 → MI → MJ → Prop)  (k7 : Int32 → Int32 → Int32 → Int32 → MI → MJ → Prop) (v1 : Int32) (v2 : Int32) (v3 : Int32) (v4 : Int32) (I : MI) (J : MJ) : Prop := ((v1 < v4 → Q v3 I J) ∧ (¬ v1 < v4 → (((I 20 1) ≤ v4 → Q v3 I J) ∧ (¬ (I 20 1) ≤ v4 → vc_X4_firstBest v2 I J (fun (r5 : Int32) (I3 : MI) (J4 : MJ) => ((¬ r5 = (-1) → ∀ x7 : Int32, x7 = v2 ||| (1 <<< (r5 &&& 31)) → ∀ x8 : Int32, x8 = v4 + 1 → k7 v1 x7 r5 x8 I3 J4) ∧ (r5 = (-1) → Q (-1) I3 J4)))))))
def vc_X4_loadInTurn_L7  (Q : Int32 → MI → MJ → Prop)  (n : Nat) : Int32 → Int32 → Int32 → Int32 → MI → MJ → Prop := Nat.rec (fun _ _ _ _ _ _ => False) (fun _ ih => vc_X4_loadInTurn_L7s  Q  ih) n
set_option maxRecDepth 100000 in
set_option maxHeartbeats 4000000 in
theorem w_X4_loadInTurn_L7s {Z : RT}  (X : Cx Z cX4_loadInTurn 5 RX4 wsX4_loadInTurn rmX4_loadInTurn (some .int)) {Q : Int32 → MI → MJ → Prop} (R : RI Z Q)    {k7 : Int32 → Int32 → Int32 → Int32 → MI → MJ → Prop} (hk7 : ∀ (v1 : Int32) (v2 : Int32) (v3 : Int32) (v4 : Int32) (I : MI) (J : MJ), k7 v1 v2 v3 v4 I J → GW Z 5 I J 7 [(0, .ref (ea (zE Z) 20)), (1, .int v1), (2, .int v2), (3, .int v3), (4, .int v4)] []) (v1 : Int32) (v2 : Int32) (v3 : Int32) (v4 : Int32) (I : MI) (J : MJ) (h : vc_X4_loadInTurn_L7s  Q  k7 v1 v2 v3 v4 I J) : GW Z 5 I J 7 [(0, .ref (ea (zE Z) 20)), (1, .int v1), (2, .int v2), (3, .int v3), (4, .int v4)] [] := by
  refine g_iload X dX4_loadInTurn_7 4 rfl ?_
  refine g_iload_n X dX4_loadInTurn_9 rfl 1 rfl ?_
  refine g_icmp_gt X (tgt := 47) dX4_loadInTurn_10 (by decide) (fun c1 => ?_) (fun c1 => ?_)
  · have h := h.1 c1
    refine g_iload_n X dX4_loadInTurn_47 rfl 3 rfl ?_
    exact g_iret X R dX4_loadInTurn_48 h
  · have h := h.2 c1
    refine g_iload X dX4_loadInTurn_13 4 rfl ?_
    refine g_aload_n X dX4_loadInTurn_15 rfl 0 rfl ?_
    refine g_geti X (C := RX4) (T := TX4) (N := 4) (ci := 2) (k := 1) iX4_loadInTurn_X4 rfl kX4_loadInTurn_21 (Nat.le_of_ble_eq_true rfl) rfl (by decide) rfl rfl dX4_loadInTurn_16 ?_
    refine g_icmp_ge X (tgt := 47) dX4_loadInTurn_19 (by decide) (fun c2 => ?_) (fun c2 => ?_)
    · have h := h.1 c2
      refine g_iload_n X dX4_loadInTurn_47 rfl 3 rfl ?_
      exact g_iret X R dX4_loadInTurn_48 h
    · have h := h.2 c2
      refine g_aload_n X dX4_loadInTurn_22 rfl 0 rfl ?_
      refine g_iload_n X dX4_loadInTurn_23 rfl 2 rfl ?_
      refine g_callVI X (As := [.int v2]) (rest := []) (T := TX4) (N := 4) (c_X4_firstBest (zl Z) (zE Z) v2) gX4_loadInTurn_X4_firstBest yo_X4_firstBest rfl ⟨Nat.le_of_ble_eq_true rfl, Nat.le_of_ble_eq_true rfl⟩ (Nat.le_of_ble_eq_true rfl) rfl rfl rfl dX4_loadInTurn_24 h (fun r5 I3 J4 h => ?_)
      refine g_istore_n X (lv' := [(3, .int r5), (0, .ref (ea (zE Z) 20)), (1, .int v1), (2, .int v2), (4, .int v4)]) dX4_loadInTurn_27 rfl (by decide) rfl ?_
      refine g_iload_n X dX4_loadInTurn_28 rfl 0 rfl ?_
      refine g_iconst X (v := (-1)) dX4_loadInTurn_29 (by decide) ?_
      refine g_icmp_ne X (tgt := 35) dX4_loadInTurn_30 (by decide) (fun c6 => ?_) (fun c6 => ?_)
      · have h := h.1 c6
        refine g_iload_n X dX4_loadInTurn_35 rfl 3 rfl ?_
        refine g_iconst X (v := 1) dX4_loadInTurn_36 (by decide) ?_
        refine g_iload_n X dX4_loadInTurn_37 rfl 0 rfl ?_
        refine g_ishl X dX4_loadInTurn_38 ?_
        refine g_ior X dX4_loadInTurn_39 ?_
        refine g_topi (fun x7 ex7 => ?_)
        have h := h x7 ex7
        refine g_istore_n X (lv' := [(2, .int x7), (3, .int r5), (0, .ref (ea (zE Z) 20)), (1, .int v1), (4, .int v4)]) dX4_loadInTurn_40 rfl (by decide) rfl ?_
        obtain ⟨x8, ex8⟩ : ∃ y : Int32, y = v4 + 1 := ⟨_, rfl⟩
        have h := h x8 ex8
        refine g_iinc X (q := 4) (v := x8) (lv' := [(4, .int x8), (2, .int x7), (3, .int r5), (0, .ref (ea (zE Z) 20)), (1, .int v1)]) dX4_loadInTurn_41 rfl (by rw [ex8]; rfl) (by decide) rfl ?_
        refine g_goto X (tgt := 7) dX4_loadInTurn_44 (by decide) ?_
        refine GW.sub (lv' := [(0, .ref (ea (zE Z) 20)), (1, .int v1), (2, .int x7), (3, .int r5), (4, .int x8)]) [3, 4, 1, 2, 0] rfl ?_
        exact hk7 v1 x7 r5 x8 I3 J4 h
      · have h := h.2 c6
        refine g_iconst X (v := (-1)) dX4_loadInTurn_33 (by decide) ?_
        exact g_iret X R dX4_loadInTurn_34 h
theorem w_X4_loadInTurn_L7 {Z : RT}  (X : Cx Z cX4_loadInTurn 5 RX4 wsX4_loadInTurn rmX4_loadInTurn (some .int)) {Q : Int32 → MI → MJ → Prop} (R : RI Z Q)    : ∀ (n : Nat) (v1 : Int32) (v2 : Int32) (v3 : Int32) (v4 : Int32) (I : MI) (J : MJ) (h : vc_X4_loadInTurn_L7  Q  n v1 v2 v3 v4 I J), GW Z 5 I J 7 [(0, .ref (ea (zE Z) 20)), (1, .int v1), (2, .int v2), (3, .int v3), (4, .int v4)] [] := by
  intro n
  induction n with
  | zero => intro v1 v2 v3 v4 I J h; exact h.elim
  | succ n ih => intro v1 v2 v3 v4 I J h; exact w_X4_loadInTurn_L7s X R   ih v1 v2 v3 v4 I J h
def vc_X4_loadInTurn (p1 : Int32) (I : MI) (J : MJ) (Q : Int32 → MI → MJ → Prop) : Prop := (∃ n, vc_X4_loadInTurn_L7  Q  n p1 0 (-1) 0 I J)
set_option maxRecDepth 100000 in
set_option maxHeartbeats 4000000 in
theorem c_X4_loadInTurn (l : Launch) (E : ET)  (p1 : Int32) : CI l yX4_loadInTurn wsX4_loadInTurn rmX4_loadInTurn E [.ref (ea E 20), .int p1] (vc_X4_loadInTurn p1) := by
  refine CI.of (cc := cX4_loadInTurn) (maxL := 5) (own := RX4) (by decide) rfl rfl (Nat.le_of_ble_eq_true rfl) ?_
  intro Z I J Q hE hl X R h
  subst hE
  subst hl
  show GW Z 5 I J 0 [(0, .ref (ea (zE Z) 20)), (1, .int p1)] []
  refine g_iconst X (v := 0) dX4_loadInTurn_0 (by decide) ?_
  refine g_istore_n X (lv' := [(2, .int 0), (0, .ref (ea (zE Z) 20)), (1, .int p1)]) dX4_loadInTurn_1 rfl (by decide) rfl ?_
  refine g_iconst X (v := (-1)) dX4_loadInTurn_2 (by decide) ?_
  refine g_istore_n X (lv' := [(3, .int (-1)), (2, .int 0), (0, .ref (ea (zE Z) 20)), (1, .int p1)]) dX4_loadInTurn_3 rfl (by decide) rfl ?_
  refine g_iconst X (v := 0) dX4_loadInTurn_4 (by decide) ?_
  refine g_istore X (lv' := [(4, .int 0), (3, .int (-1)), (2, .int 0), (0, .ref (ea (zE Z) 20)), (1, .int p1)]) dX4_loadInTurn_5 (by decide) rfl ?_
  refine GW.sub (lv' := [(0, .ref (ea (zE Z) 20)), (1, .int p1), (2, .int 0), (3, .int (-1)), (4, .int 0)]) [3, 4, 2, 1, 0] rfl ?_
  obtain ⟨n, h⟩ := h
  exact w_X4_loadInTurn_L7 X R   n p1 0 (-1) 0 I J h
