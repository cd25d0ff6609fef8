/-! X7_begin.begin(LSnowCourse$Country;)V -/
def rmX7_begin : Room := { frames := 1, cells := 0, slots := 0, locals := 23 }
theorem yo_X7_begin : yX7_begin.cls = RX7 ∧ yX7_begin.cls ≠ "java/lang/invoke/MethodHandle" ∧ yX7_begin.cls ≠ "java/lang/invoke/VarHandle" ∧ (parseMethodDescriptor yX7_begin.desc).map (fun d => d.parameters.length) = some 1 := by decide +kernel
theorem kX7_begin_15 : Cond.fieldLink RX7 15 "SnowCourse$Standing" (TX7 1).2.1 (TX7 1).2.2.1 ∈ wsX7_begin := by decide +kernel
theorem iX7_begin_X7 : ∀ w ∈ u_ws RX7 TX7 5, w ∈ wsX7_begin := by decide +kernel
theorem kX7_begin_18 : Cond.fieldLink RX7 18 "SnowCourse$Standing" (TX7 2).2.1 (TX7 2).2.2.1 ∈ wsX7_begin := by decide +kernel
theorem kX7_begin_21 : Cond.fieldLink RX7 21 "SnowCourse$Standing" (TX7 3).2.1 (TX7 3).2.2.1 ∈ wsX7_begin := by decide +kernel
theorem kX7_begin_37 : Cond.fieldLink RX7 37 "SnowCourse$Standing" (TX7 4).2.1 (TX7 4).2.2.1 ∈ wsX7_begin := by decide +kernel
theorem kX7_begin_9 : Cond.fieldLink RX7 9 "SnowCourse$Standing" (TX7 0).2.1 (TX7 0).2.2.1 ∈ wsX7_begin := by decide +kernel
theorem kX7_begin_24 : Cond.fieldLink RX7 24 "SnowCourse$Country" (TX1 10).2.1 (TX1 10).2.2.1 ∈ wsX7_begin := by decide +kernel
theorem iX7_begin_X1 : ∀ w ∈ u_ws RX1 TX1 12, w ∈ wsX7_begin := by decide +kernel
theorem kX7_begin_28 : Cond.fieldLink RX7 28 "SnowCourse$Country" (TX1 6).2.1 (TX1 6).2.2.1 ∈ wsX7_begin := by decide +kernel
def vc_X7_begin_B30 (a0 : Nat) (Q : MI → MJ → Prop) (k2 : Int32 → MI → MJ → Prop) (v2 : Int32) (s1 : Int32) (s2 : Int32) (I : MI) (J : MJ) : Prop := vp_in s1 4 ∧ ∀ I2 : MI, I2 = wI I (a0 + 1) (Int32.toNatClampNeg s1) s2 → vp_in v2 4 ∧ ∀ I4 : MI, I4 = wI I2 (a0 + 2) (Int32.toNatClampNeg v2) 0 → vp_in v2 4 ∧ ∀ I6 : MI, I6 = wI I4 (a0 + 3) (Int32.toNatClampNeg v2) 0 → ∀ x7 : Int32, x7 = v2 + 1 → k2 x7 I6 J
set_option maxRecDepth 100000 in
set_option maxHeartbeats 4000000 in
theorem w_X7_begin_B30 {Z : RT} {a0 : Nat} (X : Cx Z cX7_begin 3 RX7 wsX7_begin rmX7_begin none) {Q : MI → MJ → Prop} (R : RV Z Q) (h0 : isSt a0) {k2 : Int32 → MI → MJ → Prop} (hk2 : ∀ (v2 : Int32) (I : MI) (J : MJ), k2 v2 I J → GW Z 3 I J 2 [(0, .ref (ea (zE Z) a0)), (1, .ref (ea (zE Z) 5)), (2, .int v2)] []) (v2 : Int32) (s1 : Int32) (s2 : Int32) (I : MI) (J : MJ) (h : vc_X7_begin_B30 a0 Q k2 v2 s1 s2 I J) : GW Z 3 I J 30 [(0, .ref (ea (zE Z) a0)), (1, .ref (ea (zE Z) 5)), (2, .int v2)] [.int s2, .int s1, .ref (ea (zE Z) (a0 + 1))] := by
  obtain ⟨b1, h⟩ := h
  refine g_iast X (h0).lt1 (h0).p b1 dX7_begin_30 ?_
  refine g_nmI (fun I2 eI2 => ?_)
  have h := h I2 eI2
  refine g_aload_n X dX7_begin_31 rfl 0 rfl ?_
  refine g_getr X (C := RX7) (T := TX7) (N := 5) (ci := 5) (k := 1) iX7_begin_X7 rfl kX7_begin_15 (h0).lt0 (h0).o (by decide) rfl rfl dX7_begin_32 ?_
  refine g_iload_n X dX7_begin_35 rfl 2 rfl ?_
  refine g_iconst X (v := 0) dX7_begin_36 (by decide) ?_
  obtain ⟨b3, h⟩ := h
  refine g_iast X (h0).lt2 (h0).h b3 dX7_begin_37 ?_
  refine g_nmI (fun I4 eI4 => ?_)
  have h := h I4 eI4
  refine g_aload_n X dX7_begin_38 rfl 0 rfl ?_
  refine g_getr X (C := RX7) (T := TX7) (N := 5) (ci := 5) (k := 2) iX7_begin_X7 rfl kX7_begin_18 (h0).lt0 (h0).o (by decide) rfl rfl dX7_begin_39 ?_
  refine g_iload_n X dX7_begin_42 rfl 2 rfl ?_
  refine g_iconst X (v := 0) dX7_begin_43 (by decide) ?_
  obtain ⟨b5, h⟩ := h
  refine g_iast X (h0).lt3 (h0).w b5 dX7_begin_44 ?_
  refine g_nmI (fun I6 eI6 => ?_)
  have h := h I6 eI6
  obtain ⟨x7, ex7⟩ : ∃ y : Int32, y = v2 + 1 := ⟨_, rfl⟩
  have h := h x7 ex7
  refine g_iinc X (q := 2) (v := x7) (lv' := [(2, .int x7), (0, .ref (ea (zE Z) a0)), (1, .ref (ea (zE Z) 5))]) dX7_begin_45 rfl (by rw [ex7]; rfl) (by decide) rfl ?_
  refine g_goto X (tgt := 2) dX7_begin_48 (by decide) ?_
  refine GW.sub (lv' := [(0, .ref (ea (zE Z) a0)), (1, .ref (ea (zE Z) 5)), (2, .int x7)]) [1, 2, 0] rfl ?_
  exact hk2 x7 I6 J h
def vc_X7_begin_L2s (a0 : Nat) (Q : MI → MJ → Prop)  (k2 : Int32 → MI → MJ → Prop) (v2 : Int32) (I : MI) (J : MJ) : Prop := ((4 ≤ v2 → vc_J7_fill_53178 (a0 + 4) 7 0 I J (fun (I9 : MI) (J10 : MJ) => ∀ I11 : MI, I11 = wI I9 a0 4 0 → Q I11 J10)) ∧ (¬ 4 ≤ v2 → (((I 5 10) ≤ v2 → vc_X7_begin_B30 a0 Q k2 v2 v2 0 I J) ∧ (¬ (I 5 10) ≤ v2 → vp_in v2 4 ∧ vc_X7_begin_B30 a0 Q k2 v2 v2 (I 12 (Int32.toNatClampNeg v2)) I J))))
def vc_X7_begin_L2 (a0 : Nat) (Q : MI → MJ → Prop)  (n : Nat) : Int32 → MI → MJ → Prop := Nat.rec (fun _ _ _ => False) (fun _ ih => vc_X7_begin_L2s a0 Q  ih) n
set_option maxRecDepth 100000 in
set_option maxHeartbeats 4000000 in
theorem w_X7_begin_L2s {Z : RT} {a0 : Nat} (X : Cx Z cX7_begin 3 RX7 wsX7_begin rmX7_begin none) {Q : MI → MJ → Prop} (R : RV Z Q) (h0 : isSt a0)   {k2 : Int32 → MI → MJ → Prop} (hk2 : ∀ (v2 : Int32) (I : MI) (J : MJ), k2 v2 I J → GW Z 3 I J 2 [(0, .ref (ea (zE Z) a0)), (1, .ref (ea (zE Z) 5)), (2, .int v2)] []) (v2 : Int32) (I : MI) (J : MJ) (h : vc_X7_begin_L2s a0 Q  k2 v2 I J) : GW Z 3 I J 2 [(0, .ref (ea (zE Z) a0)), (1, .ref (ea (zE Z) 5)), (2, .int v2)] [] := by
  refine g_iload_n X dX7_begin_2 rfl 2 rfl ?_
  refine g_iconst X (v := 4) dX7_begin_3 (by decide) ?_
  refine g_icmp_ge X (tgt := 51) dX7_begin_4 (by decide) (fun c8 => ?_) (fun c8 => ?_)
  · have h := h.1 c8
    refine g_aload_n X dX7_begin_51 rfl 0 rfl ?_
    refine g_getr X (C := RX7) (T := TX7) (N := 5) (ci := 5) (k := 3) iX7_begin_X7 rfl kX7_begin_21 (h0).lt0 (h0).o (by decide) rfl rfl dX7_begin_52 ?_
    refine g_iconst X (v := 0) dX7_begin_55 (by decide) ?_
    refine g_callSV X (As := [.ref (ea (zE Z) (a0 + 4)), .int 0]) (rest := []) (c_J7_fill_53178 (zl Z) (zE Z) (h0).lt (h0).s 0) gX7_begin_J7_fill_53178 yo_J7_fill_53178.2 rfl ⟨Nat.le_of_ble_eq_true rfl, Nat.le_of_ble_eq_true rfl⟩ rfl dX7_begin_56 h (fun  I9 J10 h => ?_)
    refine g_aload_n X dX7_begin_59 rfl 0 rfl ?_
    refine g_iconst X (v := 0) dX7_begin_60 (by decide) ?_
    refine g_puti X (C := RX7) (T := TX7) (N := 5) (ci := 5) (k := 4) (ty0 := tyX7) iX7_begin_X7 tyX7_ok nmX7 rfl kX7_begin_37 (h0).lt0 (h0).o (by decide) rfl rfl (by decide +kernel) rfl dX7_begin_61 ?_
    refine g_nmI (fun I11 eI11 => ?_)
    have h := h I11 eI11
    exact g_vret X R dX7_begin_64 h
  · have h := h.2 c8
    refine g_aload_n X dX7_begin_7 rfl 0 rfl ?_
    refine g_getr X (C := RX7) (T := TX7) (N := 5) (ci := 5) (k := 0) iX7_begin_X7 rfl kX7_begin_9 (h0).lt0 (h0).o (by decide) rfl rfl dX7_begin_8 ?_
    refine g_iload_n X dX7_begin_11 rfl 2 rfl ?_
    refine g_iload_n X dX7_begin_12 rfl 2 rfl ?_
    refine g_aload_n X dX7_begin_13 rfl 1 rfl ?_
    refine g_geti X (C := RX1) (T := TX1) (N := 12) (ci := 1) (k := 10) iX7_begin_X1 rfl kX7_begin_24 (Nat.le_of_ble_eq_true rfl) rfl (by decide) rfl rfl dX7_begin_14 ?_
    refine g_icmp_ge X (tgt := 29) dX7_begin_17 (by decide) (fun c12 => ?_) (fun c12 => ?_)
    · have h := h.1 c12
      refine g_iconst X (v := 0) dX7_begin_29 (by decide) ?_
      refine GW.sub (lv' := [(0, .ref (ea (zE Z) a0)), (1, .ref (ea (zE Z) 5)), (2, .int v2)]) [0, 1, 2] rfl ?_
      exact w_X7_begin_B30 X R h0 hk2 v2 v2 0 I J h
    · have h := h.2 c12
      refine g_aload_n X dX7_begin_20 rfl 1 rfl ?_
      refine g_getr X (C := RX1) (T := TX1) (N := 12) (ci := 1) (k := 6) iX7_begin_X1 rfl kX7_begin_28 (Nat.le_of_ble_eq_true rfl) rfl (by decide) rfl rfl dX7_begin_21 ?_
      refine g_iload_n X dX7_begin_24 rfl 2 rfl ?_
      obtain ⟨b13, h⟩ := h
      refine g_iald X (Nat.le_of_ble_eq_true rfl) rfl b13 dX7_begin_25 ?_
      refine g_goto X (tgt := 30) dX7_begin_26 (by decide) ?_
      refine GW.sub (lv' := [(0, .ref (ea (zE Z) a0)), (1, .ref (ea (zE Z) 5)), (2, .int v2)]) [0, 1, 2] rfl ?_
      exact w_X7_begin_B30 X R h0 hk2 v2 v2 (I 12 (Int32.toNatClampNeg v2)) I J h
theorem w_X7_begin_L2 {Z : RT} {a0 : Nat} (X : Cx Z cX7_begin 3 RX7 wsX7_begin rmX7_begin none) {Q : MI → MJ → Prop} (R : RV Z Q) (h0 : isSt a0)   : ∀ (n : Nat) (v2 : Int32) (I : MI) (J : MJ) (h : vc_X7_begin_L2 a0 Q  n v2 I J), GW Z 3 I J 2 [(0, .ref (ea (zE Z) a0)), (1, .ref (ea (zE Z) 5)), (2, .int v2)] [] := by
  intro n
  induction n with
  | zero => intro v2 I J h; exact h.elim
  | succ n ih => intro v2 I J h; exact w_X7_begin_L2s X R h0  ih v2 I J h
def vc_X7_begin (a0 : Nat) (I : MI) (J : MJ) (Q : MI → MJ → Prop) : Prop := (∃ n, vc_X7_begin_L2 a0 Q  n 0 I J)
set_option maxRecDepth 100000 in
set_option maxHeartbeats 4000000 in
theorem c_X7_begin (l : Launch) (E : ET) {a0 : Nat} (h0 : isSt a0) : CV l yX7_begin wsX7_begin rmX7_begin E [.ref (ea E a0), .ref (ea E 5)] (vc_X7_begin a0) := by
  refine CV.of (cc := cX7_begin) (maxL := 3) (own := RX7) (by decide) rfl rfl (Nat.le_of_ble_eq_true rfl) ?_
  intro Z I J Q hE hl X R h
  subst hE
  subst hl
  show GW Z 3 I J 0 [(0, .ref (ea (zE Z) a0)), (1, .ref (ea (zE Z) 5))] []
  refine g_iconst X (v := 0) dX7_begin_0 (by decide) ?_
  refine g_istore_n X (lv' := [(2, .int 0), (0, .ref (ea (zE Z) a0)), (1, .ref (ea (zE Z) 5))]) dX7_begin_1 rfl (by decide) rfl ?_
  refine GW.sub (lv' := [(0, .ref (ea (zE Z) a0)), (1, .ref (ea (zE Z) 5)), (2, .int 0)]) [1, 2, 0] rfl ?_
  obtain ⟨n, h⟩ := h
  exact w_X7_begin_L2 X R h0  n 0 I J h

/-! X7_copyOf.copyOf(LSnowCourse$Standing;)V -/
def rmX7_copyOf : Room := { frames := 1, cells := 0, slots := 0, locals := 30 }
theorem yo_X7_copyOf : yX7_copyOf.cls = RX7 ∧ yX7_copyOf.cls ≠ "java/lang/invoke/MethodHandle" ∧ yX7_copyOf.cls ≠ "java/lang/invoke/VarHandle" ∧ (parseMethodDescriptor yX7_copyOf.desc).map (fun d => d.parameters.length) = some 1 := by decide +kernel
theorem kX7_copyOf_9 : Cond.fieldLink RX7 9 "SnowCourse$Standing" (TX7 0).2.1 (TX7 0).2.2.1 ∈ wsX7_copyOf := by decide +kernel
theorem iX7_copyOf_X7 : ∀ w ∈ u_ws RX7 TX7 5, w ∈ wsX7_copyOf := by decide +kernel
theorem kX7_copyOf_ac40 : Cond.methodLink RX7 40 arraycopyName ∈ wsX7_copyOf := by decide +kernel
theorem kX7_copyOf_acn : Cond.native arraycopyName ∈ wsX7_copyOf := by decide +kernel
theorem kX7_copyOf_acs : Cond.static arraycopyName ∈ wsX7_copyOf := by decide +kernel
theorem kX7_copyOf_aci : Cond.initialized "java/lang/System" ∈ wsX7_copyOf := by decide +kernel
theorem kX7_copyOf_15 : Cond.fieldLink RX7 15 "SnowCourse$Standing" (TX7 1).2.1 (TX7 1).2.2.1 ∈ wsX7_copyOf := by decide +kernel
theorem kX7_copyOf_18 : Cond.fieldLink RX7 18 "SnowCourse$Standing" (TX7 2).2.1 (TX7 2).2.2.1 ∈ wsX7_copyOf := by decide +kernel
theorem kX7_copyOf_21 : Cond.fieldLink RX7 21 "SnowCourse$Standing" (TX7 3).2.1 (TX7 3).2.2.1 ∈ wsX7_copyOf := by decide +kernel
theorem kX7_copyOf_37 : Cond.fieldLink RX7 37 "SnowCourse$Standing" (TX7 4).2.1 (TX7 4).2.2.1 ∈ wsX7_copyOf := by decide +kernel
def vc_X7_copyOf (a0 : Nat) (a1 : Nat) (I : MI) (J : MJ) (Q : MI → MJ → Prop) : Prop := ∀ I1 : MI, I1 = va_up I (a0 + 1) (va_cpy (I (a1 + 1)) (I (a0 + 1)) (Int32.toNatClampNeg 0) (Int32.toNatClampNeg 0) (Int32.toNatClampNeg 4)) → ∀ I2 : MI, I2 = va_up I1 (a0 + 2) (va_cpy (I1 (a1 + 2)) (I1 (a0 + 2)) (Int32.toNatClampNeg 0) (Int32.toNatClampNeg 0) (Int32.toNatClampNeg 4)) → ∀ I3 : MI, I3 = va_up I2 (a0 + 3) (va_cpy (I2 (a1 + 3)) (I2 (a0 + 3)) (Int32.toNatClampNeg 0) (Int32.toNatClampNeg 0) (Int32.toNatClampNeg 4)) → ∀ I4 : MI, I4 = va_up I3 (a0 + 4) (va_cpy (I3 (a1 + 4)) (I3 (a0 + 4)) (Int32.toNatClampNeg 0) (Int32.toNatClampNeg 0) (Int32.toNatClampNeg 7)) → ∀ I5 : MI, I5 = wI I4 a0 4 (I4 a1 4) → Q I5 J
set_option maxRecDepth 100000 in
set_option maxHeartbeats 4000000 in
theorem c_X7_copyOf (l : Launch) (E : ET) {a0 : Nat} {a1 : Nat} (h0 : isSt a0) (h1 : isSt a1) : CV l yX7_copyOf wsX7_copyOf rmX7_copyOf E [.ref (ea E a0), .ref (ea E a1)] (vc_X7_copyOf a0 a1) := by
  refine CV.of (cc := cX7_copyOf) (maxL := 2) (own := RX7) (by decide) rfl rfl (Nat.le_of_ble_eq_true rfl) ?_
  intro Z I J Q hE hl X R h
  subst hE
  subst hl
  show GW Z 2 I J 0 [(0, .ref (ea (zE Z) a0)), (1, .ref (ea (zE Z) a1))] []
  refine g_aload_n X dX7_copyOf_0 rfl 1 rfl ?_
  refine g_getr X (C := RX7) (T := TX7) (N := 5) (ci := 5) (k := 0) iX7_copyOf_X7 rfl kX7_copyOf_9 (h1).lt0 (h1).o (by decide) rfl rfl dX7_copyOf_1 ?_
  refine g_iconst X (v := 0) dX7_copyOf_4 (by decide) ?_
  refine g_aload_n X dX7_copyOf_5 rfl 0 rfl ?_
  refine g_getr X (C := RX7) (T := TX7) (N := 5) (ci := 5) (k := 0) iX7_copyOf_X7 rfl kX7_copyOf_9 (h0).lt0 (h0).o (by decide) rfl rfl dX7_copyOf_6 ?_
  refine g_iconst X (v := 0) dX7_copyOf_9 (by decide) ?_
  refine g_iconst X (v := 4) dX7_copyOf_10 (by decide) ?_
  refine g_copyi X (i := (a1 + 1)) (j := (a0 + 1)) kX7_copyOf_ac40 kX7_copyOf_acn kX7_copyOf_acs kX7_copyOf_aci (h1).lt1 (h0).lt1 (h1).p (h0).p (by decide) (by decide) (by decide) (by decide) (by decide) ⟨Nat.le_of_ble_eq_true rfl, Nat.le_of_ble_eq_true rfl⟩ dX7_copyOf_11 ?_
  refine g_nmI (fun I1 eI1 => ?_)
  have h := h I1 eI1
  refine g_aload_n X dX7_copyOf_14 rfl 1 rfl ?_
  refine g_getr X (C := RX7) (T := TX7) (N := 5) (ci := 5) (k := 1) iX7_copyOf_X7 rfl kX7_copyOf_15 (h1).lt0 (h1).o (by decide) rfl rfl dX7_copyOf_15 ?_
  refine g_iconst X (v := 0) dX7_copyOf_18 (by decide) ?_
  refine g_aload_n X dX7_copyOf_19 rfl 0 rfl ?_
  refine g_getr X (C := RX7) (T := TX7) (N := 5) (ci := 5) (k := 1) iX7_copyOf_X7 rfl kX7_copyOf_15 (h0).lt0 (h0).o (by decide) rfl rfl dX7_copyOf_20 ?_
  refine g_iconst X (v := 0) dX7_copyOf_23 (by decide) ?_
  refine g_iconst X (v := 4) dX7_copyOf_24 (by decide) ?_
  refine g_copyi X (i := (a1 + 2)) (j := (a0 + 2)) kX7_copyOf_ac40 kX7_copyOf_acn kX7_copyOf_acs kX7_copyOf_aci (h1).lt2 (h0).lt2 (h1).h (h0).h (by decide) (by decide) (by decide) (by decide) (by decide) ⟨Nat.le_of_ble_eq_true rfl, Nat.le_of_ble_eq_true rfl⟩ dX7_copyOf_25 ?_
  refine g_nmI (fun I2 eI2 => ?_)
  have h := h I2 eI2
  refine g_aload_n X dX7_copyOf_28 rfl 1 rfl ?_
  refine g_getr X (C := RX7) (T := TX7) (N := 5) (ci := 5) (k := 2) iX7_copyOf_X7 rfl kX7_copyOf_18 (h1).lt0 (h1).o (by decide) rfl rfl dX7_copyOf_29 ?_
  refine g_iconst X (v := 0) dX7_copyOf_32 (by decide) ?_
  refine g_aload_n X dX7_copyOf_33 rfl 0 rfl ?_
  refine g_getr X (C := RX7) (T := TX7) (N := 5) (ci := 5) (k := 2) iX7_copyOf_X7 rfl kX7_copyOf_18 (h0).lt0 (h0).o (by decide) rfl rfl dX7_copyOf_34 ?_
  refine g_iconst X (v := 0) dX7_copyOf_37 (by decide) ?_
  refine g_iconst X (v := 4) dX7_copyOf_38 (by decide) ?_
  refine g_copyi X (i := (a1 + 3)) (j := (a0 + 3)) kX7_copyOf_ac40 kX7_copyOf_acn kX7_copyOf_acs kX7_copyOf_aci (h1).lt3 (h0).lt3 (h1).w (h0).w (by decide) (by decide) (by decide) (by decide) (by decide) ⟨Nat.le_of_ble_eq_true rfl, Nat.le_of_ble_eq_true rfl⟩ dX7_copyOf_39 ?_
  refine g_nmI (fun I3 eI3 => ?_)
  have h := h I3 eI3
  refine g_aload_n X dX7_copyOf_42 rfl 1 rfl ?_
  refine g_getr X (C := RX7) (T := TX7) (N := 5) (ci := 5) (k := 3) iX7_copyOf_X7 rfl kX7_copyOf_21 (h1).lt0 (h1).o (by decide) rfl rfl dX7_copyOf_43 ?_
  refine g_iconst X (v := 0) dX7_copyOf_46 (by decide) ?_
  refine g_aload_n X dX7_copyOf_47 rfl 0 rfl ?_
  refine g_getr X (C := RX7) (T := TX7) (N := 5) (ci := 5) (k := 3) iX7_copyOf_X7 rfl kX7_copyOf_21 (h0).lt0 (h0).o (by decide) rfl rfl dX7_copyOf_48 ?_
  refine g_iconst X (v := 0) dX7_copyOf_51 (by decide) ?_
  refine g_bipush X (v := 7) dX7_copyOf_52 (by decide) ?_
  refine g_copyi X (i := (a1 + 4)) (j := (a0 + 4)) kX7_copyOf_ac40 kX7_copyOf_acn kX7_copyOf_acs kX7_copyOf_aci (h1).lt (h0).lt (h1).s (h0).s (by decide) (by decide) (by decide) (by decide) (by decide) ⟨Nat.le_of_ble_eq_true rfl, Nat.le_of_ble_eq_true rfl⟩ dX7_copyOf_54 ?_
  refine g_nmI (fun I4 eI4 => ?_)
  have h := h I4 eI4
  refine g_aload_n X dX7_copyOf_57 rfl 0 rfl ?_
  refine g_aload_n X dX7_copyOf_58 rfl 1 rfl ?_
  refine g_geti X (C := RX7) (T := TX7) (N := 5) (ci := 5) (k := 4) iX7_copyOf_X7 rfl kX7_copyOf_37 (h1).lt0 (h1).o (by decide) rfl rfl dX7_copyOf_59 ?_
  refine g_puti X (C := RX7) (T := TX7) (N := 5) (ci := 5) (k := 4) (ty0 := tyX7) iX7_copyOf_X7 tyX7_ok nmX7 rfl kX7_copyOf_37 (h0).lt0 (h0).o (by decide) rfl rfl (by decide +kernel) rfl dX7_copyOf_62 ?_
  refine g_nmI (fun I5 eI5 => ?_)
  have h := h I5 eI5
  exact g_vret X R dX7_copyOf_65 h

/-! X7_cartsIn.cartsIn(II)I -/
def rmX7_cartsIn : Room := { frames := 0, cells := 0, slots := 0, locals := 0 }
theorem yo_X7_cartsIn : yX7_cartsIn.cls = RX7 ∧ yX7_cartsIn.cls ≠ "java/lang/invoke/MethodHandle" ∧ yX7_cartsIn.cls ≠ "java/lang/invoke/VarHandle" ∧ (parseMethodDescriptor yX7_cartsIn.desc).map (fun d => d.parameters.length) = some 2 := by decide +kernel
theorem kX7_cartsIn_9 : Cond.fieldLink RX7 9 "SnowCourse$Standing" (TX7 0).2.1 (TX7 0).2.2.1 ∈ wsX7_cartsIn := by decide +kernel
theorem iX7_cartsIn_X7 : ∀ w ∈ u_ws RX7 TX7 5, w ∈ wsX7_cartsIn := by decide +kernel
def vc_X7_cartsIn_L5s (a0 : Nat) (Q : Int32 → MI → MJ → Prop)  (k5 : Int32 → Int32 → Int32 → Int32 → MI → MJ → Prop) (v1 : Int32) (v2 : Int32) (v3 : Int32) (v4 : Int32) (I : MI) (J : MJ) : Prop := ((v2 ≤ v4 → Q v3 I J) ∧ (¬ v2 ≤ v4 → vp_in v4 4 ∧ ((¬ (I (a0 + 1) (Int32.toNatClampNeg v4)) = v1 → ∀ x4 : Int32, x4 = v4 + 1 → k5 v1 v2 v3 x4 I J) ∧ ((I (a0 + 1) (Int32.toNatClampNeg v4)) = v1 → ∀ x5 : Int32, x5 = v3 ||| (1 <<< (v4 &&& 31)) → ∀ x6 : Int32, x6 = v4 + 1 → k5 v1 v2 x5 x6 I J))))
def vc_X7_cartsIn_L5 (a0 : Nat) (Q : Int32 → MI → MJ → Prop)  (n : Nat) : Int32 → Int32 → Int32 → Int32 → MI → MJ → Prop := Nat.rec (fun _ _ _ _ _ _ => False) (fun _ ih => vc_X7_cartsIn_L5s a0 Q  ih) n
set_option maxRecDepth 100000 in
set_option maxHeartbeats 4000000 in
theorem w_X7_cartsIn_L5s {Z : RT} {a0 : Nat} (X : Cx Z cX7_cartsIn 5 RX7 wsX7_cartsIn rmX7_cartsIn (some .int)) {Q : Int32 → MI → MJ → Prop} (R : RI Z Q) (h0 : isSt a0)   {k5 : Int32 → Int32 → Int32 → Int32 → MI → MJ → Prop} (hk5 : ∀ (v1 : Int32) (v2 : Int32) (v3 : Int32) (v4 : Int32) (I : MI) (J : MJ), k5 v1 v2 v3 v4 I J → GW Z 5 I J 5 [(0, .ref (ea (zE Z) a0)), (1, .int v1), (2, .int v2), (3, .int v3), (4, .int v4)] []) (v1 : Int32) (v2 : Int32) (v3 : Int32) (v4 : Int32) (I : MI) (J : MJ) (h : vc_X7_cartsIn_L5s a0 Q  k5 v1 v2 v3 v4 I J) : GW Z 5 I J 5 [(0, .ref (ea (zE Z) a0)), (1, .int v1), (2, .int v2), (3, .int v3), (4, .int v4)] [] := by
  refine g_iload X dX7_cartsIn_5 4 rfl ?_
  refine g_iload_n X dX7_cartsIn_7 rfl 2 rfl ?_
  refine g_icmp_ge X (tgt := 35) dX7_cartsIn_8 (by decide) (fun c1 => ?_) (fun c1 => ?_)
  · have h := h.1 c1
    refine g_iload_n X dX7_cartsIn_35 rfl 3 rfl ?_
    exact g_iret X R dX7_cartsIn_36 h
  · have h := h.2 c1
    refine g_aload_n X dX7_cartsIn_11 rfl 0 rfl ?_
    refine g_getr X (C := RX7) (T := TX7) (N := 5) (ci := 5) (k := 0) iX7_cartsIn_X7 rfl kX7_cartsIn_9 (h0).lt0 (h0).o (by decide) rfl rfl dX7_cartsIn_12 ?_
    refine g_iload X dX7_cartsIn_15 4 rfl ?_
    obtain ⟨b2, h⟩ := h
    refine g_iald X (h0).lt1 (h0).p b2 dX7_cartsIn_17 ?_
    refine g_iload_n X dX7_cartsIn_18 rfl 1 rfl ?_
    refine g_icmp_ne X (tgt := 29) dX7_cartsIn_19 (by decide) (fun c3 => ?_) (fun c3 => ?_)
    · have h := h.1 c3
      obtain ⟨x4, ex4⟩ : ∃ y : Int32, y = v4 + 1 := ⟨_, rfl⟩
      have h := h x4 ex4
      refine g_iinc X (q := 4) (v := x4) (lv' := [(4, .int x4), (0, .ref (ea (zE Z) a0)), (1, .int v1), (2, .int v2), (3, .int v3)]) dX7_cartsIn_29 rfl (by rw [ex4]; rfl) (by decide) rfl ?_
      refine g_goto X (tgt := 5) dX7_cartsIn_32 (by decide) ?_
      refine GW.sub (lv' := [(0, .ref (ea (zE Z) a0)), (1, .int v1), (2, .int v2), (3, .int v3), (4, .int x4)]) [1, 2, 3, 4, 0] rfl ?_
      exact hk5 v1 v2 v3 x4 I J h
    · have h := h.2 c3
      refine g_iload_n X dX7_cartsIn_22 rfl 3 rfl ?_
      refine g_iconst X (v := 1) dX7_cartsIn_23 (by decide) ?_
      refine g_iload X dX7_cartsIn_24 4 rfl ?_
      refine g_ishl X dX7_cartsIn_26 ?_
      refine g_ior X dX7_cartsIn_27 ?_
      refine g_topi (fun x5 ex5 => ?_)
      have h := h x5 ex5
      refine g_istore_n X (lv' := [(3, .int x5), (0, .ref (ea (zE Z) a0)), (1, .int v1), (2, .int v2), (4, .int v4)]) dX7_cartsIn_28 rfl (by decide) rfl ?_
      obtain ⟨x6, ex6⟩ : ∃ y : Int32, y = v4 + 1 := ⟨_, rfl⟩
      have h := h x6 ex6
      refine g_iinc X (q := 4) (v := x6) (lv' := [(4, .int x6), (3, .int x5), (0, .ref (ea (zE Z) a0)), (1, .int v1), (2, .int v2)]) dX7_cartsIn_29 rfl (by rw [ex6]; rfl) (by decide) rfl ?_
      refine g_goto X (tgt := 5) dX7_cartsIn_32 (by decide) ?_
      refine GW.sub (lv' := [(0, .ref (ea (zE Z) a0)), (1, .int v1), (2, .int v2), (3, .int x5), (4, .int x6)]) [2, 3, 4, 1, 0] rfl ?_
      exact hk5 v1 v2 x5 x6 I J h
theorem w_X7_cartsIn_L5 {Z : RT} {a0 : Nat} (X : Cx Z cX7_cartsIn 5 RX7 wsX7_cartsIn rmX7_cartsIn (some .int)) {Q : Int32 → MI → MJ → Prop} (R : RI Z Q) (h0 : isSt a0)   : ∀ (n : Nat) (v1 : Int32) (v2 : Int32) (v3 : Int32) (v4 : Int32) (I : MI) (J : MJ) (h : vc_X7_cartsIn_L5 a0 Q  n v1 v2 v3 v4 I J), GW Z 5 I J 5 [(0, .ref (ea (zE Z) a0)), (1, .int v1), (2, .int v2), (3, .int v3), (4, .int v4)] [] := by
  intro n
  induction n with
  | zero => intro v1 v2 v3 v4 I J h; exact h.elim
  | succ n ih => intro v1 v2 v3 v4 I J h; exact w_X7_cartsIn_L5s X R h0  ih v1 v2 v3 v4 I J h
def vc_X7_cartsIn (a0 : Nat) (p1 : Int32) (p2 : Int32) (I : MI) (J : MJ) (Q : Int32 → MI → MJ → Prop) : Prop := (∃ n, vc_X7_cartsIn_L5 a0 Q  n p1 p2 0 0 I J)
set_option maxRecDepth 100000 in
set_option maxHeartbeats 4000000 in
theorem c_X7_cartsIn (l : Launch) (E : ET) {a0 : Nat} (h0 : isSt a0) (p1 : Int32) (p2 : Int32) : CI l yX7_cartsIn wsX7_cartsIn rmX7_cartsIn E [.ref (ea E a0), .int p1, .int p2] (vc_X7_cartsIn a0 p1 p2) := by
  refine CI.of (cc := cX7_cartsIn) (maxL := 5) (own := RX7) (by decide) rfl rfl (Nat.le_of_ble_eq_true rfl) ?_
  intro Z I J Q hE hl X R h
  subst hE
  subst hl
  show GW Z 5 I J 0 [(0, .ref (ea (zE Z) a0)), (1, .int p1), (2, .int p2)] []
  refine g_iconst X (v := 0) dX7_cartsIn_0 (by decide) ?_
  refine g_istore_n X (lv' := [(3, .int 0), (0, .ref (ea (zE Z) a0)), (1, .int p1), (2, .int p2)]) dX7_cartsIn_1 rfl (by decide) rfl ?_
  refine g_iconst X (v := 0) dX7_cartsIn_2 (by decide) ?_
  refine g_istore X (lv' := [(4, .int 0), (3, .int 0), (0, .ref (ea (zE Z) a0)), (1, .int p1), (2, .int p2)]) dX7_cartsIn_3 (by decide) rfl ?_
  refine GW.sub (lv' := [(0, .ref (ea (zE Z) a0)), (1, .int p1), (2, .int p2), (3, .int 0), (4, .int 0)]) [2, 3, 4, 1, 0] rfl ?_
  obtain ⟨n, h⟩ := h
  exact w_X7_cartsIn_L5 X R h0  n p1 p2 0 0 I J h

/-! X7_allSnow.allSnow()I -/
def rmX7_allSnow : Room := { frames := 0, cells := 0, slots := 0, locals := 0 }
theorem yo_X7_allSnow : yX7_allSnow.cls = RX7 ∧ yX7_allSnow.cls ≠ "java/lang/invoke/MethodHandle" ∧ yX7_allSnow.cls ≠ "java/lang/invoke/VarHandle" ∧ (parseMethodDescriptor yX7_allSnow.desc).map (fun d => d.parameters.length) = some 0 := by decide +kernel
theorem kX7_allSnow_18 : Cond.fieldLink RX7 18 "SnowCourse$Standing" (TX7 2).2.1 (TX7 2).2.2.1 ∈ wsX7_allSnow := by decide +kernel
theorem iX7_allSnow_X7 : ∀ w ∈ u_ws RX7 TX7 5, w ∈ wsX7_allSnow := by decide +kernel
def vc_X7_allSnow_L13s (a0 : Nat) (Q : Int32 → MI → MJ → Prop)  (k13 : Int32 → Int32 → Int32 → MI → MJ → Prop) (v1 : Int32) (v3 : Int32) (v4 : Int32) (I : MI) (J : MJ) : Prop := ((v3 ≤ v4 → Q v1 I J) ∧ (¬ v3 ≤ v4 → vp_in v4 4 ∧ ∀ x3 : Int32, x3 = I (a0 + 3) (Int32.toNatClampNeg v4) → ∀ x4 : Int32, x4 = v1 + x3 → ∀ x5 : Int32, x5 = v4 + 1 → k13 x4 v3 x5 I J))
def vc_X7_allSnow_L13 (a0 : Nat) (Q : Int32 → MI → MJ → Prop)  (n : Nat) : Int32 → Int32 → Int32 → MI → MJ → Prop := Nat.rec (fun _ _ _ _ _ => False) (fun _ ih => vc_X7_allSnow_L13s a0 Q  ih) n
set_option maxRecDepth 100000 in
set_option maxHeartbeats 4000000 in
theorem w_X7_allSnow_L13s {Z : RT} {a0 : Nat} (X : Cx Z cX7_allSnow 6 RX7 wsX7_allSnow rmX7_allSnow (some .int)) {Q : Int32 → MI → MJ → Prop} (R : RI Z Q) (h0 : isSt a0)   {k13 : Int32 → Int32 → Int32 → MI → MJ → Prop} (hk13 : ∀ (v1 : Int32) (v3 : Int32) (v4 : Int32) (I : MI) (J : MJ), k13 v1 v3 v4 I J → GW Z 6 I J 13 [(1, .int v1), (2, .ref (ea (zE Z) (a0 + 3))), (3, .int v3), (4, .int v4)] []) (v1 : Int32) (v3 : Int32) (v4 : Int32) (I : MI) (J : MJ) (h : vc_X7_allSnow_L13s a0 Q  k13 v1 v3 v4 I J) : GW Z 6 I J 13 [(1, .int v1), (2, .ref (ea (zE Z) (a0 + 3))), (3, .int v3), (4, .int v4)] [] := by
  refine g_iload X dX7_allSnow_13 3 rfl ?_
  refine g_iload_n X dX7_allSnow_15 rfl 2 rfl ?_
  refine g_icmp_ge X (tgt := 36) dX7_allSnow_16 (by decide) (fun c1 => ?_) (fun c1 => ?_)
  · have h := h.1 c1
    refine g_iload_n X dX7_allSnow_36 rfl 0 rfl ?_
    exact g_iret X R dX7_allSnow_37 h
  · have h := h.2 c1
    refine g_aload_n X dX7_allSnow_19 rfl 1 rfl ?_
    refine g_iload X dX7_allSnow_20 3 rfl ?_
    obtain ⟨b2, h⟩ := h
    refine g_iald X (h0).lt3 (h0).w b2 dX7_allSnow_22 ?_
    refine g_topi (fun x3 ex3 => ?_)
    have h := h x3 ex3
    refine g_istore X (lv' := [(5, .int x3), (1, .int v1), (2, .ref (ea (zE Z) (a0 + 3))), (3, .int v3), (4, .int v4)]) dX7_allSnow_23 (by decide) rfl ?_
    refine g_iload_n X dX7_allSnow_25 rfl 1 rfl ?_
    refine g_iload X dX7_allSnow_26 0 rfl ?_
    refine g_iadd X dX7_allSnow_28 ?_
    refine g_topi (fun x4 ex4 => ?_)
    have h := h x4 ex4
    refine g_istore_n X (lv' := [(1, .int x4), (5, .int x3), (2, .ref (ea (zE Z) (a0 + 3))), (3, .int v3), (4, .int v4)]) dX7_allSnow_29 rfl (by decide) rfl ?_
    obtain ⟨x5, ex5⟩ : ∃ y : Int32, y = v4 + 1 := ⟨_, rfl⟩
    have h := h x5 ex5
    refine g_iinc X (q := 4) (v := x5) (lv' := [(4, .int x5), (1, .int x4), (5, .int x3), (2, .ref (ea (zE Z) (a0 + 3))), (3, .int v3)]) dX7_allSnow_30 rfl (by rw [ex5]; rfl) (by decide) rfl ?_
    refine g_goto X (tgt := 13) dX7_allSnow_33 (by decide) ?_
    refine GW.sub (lv' := [(1, .int x4), (2, .ref (ea (zE Z) (a0 + 3))), (3, .int v3), (4, .int x5)]) [1, 3, 4, 0] rfl ?_
    exact hk13 x4 v3 x5 I J h
theorem w_X7_allSnow_L13 {Z : RT} {a0 : Nat} (X : Cx Z cX7_allSnow 6 RX7 wsX7_allSnow rmX7_allSnow (some .int)) {Q : Int32 → MI → MJ → Prop} (R : RI Z Q) (h0 : isSt a0)   : ∀ (n : Nat) (v1 : Int32) (v3 : Int32) (v4 : Int32) (I : MI) (J : MJ) (h : vc_X7_allSnow_L13 a0 Q  n v1 v3 v4 I J), GW Z 6 I J 13 [(1, .int v1), (2, .ref (ea (zE Z) (a0 + 3))), (3, .int v3), (4, .int v4)] [] := by
  intro n
  induction n with
  | zero => intro v1 v3 v4 I J h; exact h.elim
  | succ n ih => intro v1 v3 v4 I J h; exact w_X7_allSnow_L13s X R h0  ih v1 v3 v4 I J h
def vc_X7_allSnow (a0 : Nat) (I : MI) (J : MJ) (Q : Int32 → MI → MJ → Prop) : Prop := (∃ n, vc_X7_allSnow_L13 a0 Q  n 0 4 0 I J)
set_option maxRecDepth 100000 in
set_option maxHeartbeats 4000000 in
theorem c_X7_allSnow (l : Launch) (E : ET) {a0 : Nat} (h0 : isSt a0) : CI l yX7_allSnow wsX7_allSnow rmX7_allSnow E [.ref (ea E a0)] (vc_X7_allSnow a0) := by
  refine CI.of (cc := cX7_allSnow) (maxL := 6) (own := RX7) (by decide) rfl rfl (Nat.le_of_ble_eq_true rfl) ?_
  intro Z I J Q hE hl X R h
  subst hE
  subst hl
  show GW Z 6 I J 0 [(0, .ref (ea (zE Z) a0))] []
  refine g_iconst X (v := 0) dX7_allSnow_0 (by decide) ?_
  refine g_istore_n X (lv' := [(1, .int 0), (0, .ref (ea (zE Z) a0))]) dX7_allSnow_1 rfl (by decide) rfl ?_
  refine g_aload_n X dX7_allSnow_2 rfl 1 rfl ?_
  refine g_getr X (C := RX7) (T := TX7) (N := 5) (ci := 5) (k := 2) iX7_allSnow_X7 rfl kX7_allSnow_18 (h0).lt0 (h0).o (by decide) rfl rfl dX7_allSnow_3 ?_
  refine g_astore_n X (lv' := [(2, .ref (ea (zE Z) (a0 + 3))), (1, .int 0), (0, .ref (ea (zE Z) a0))]) dX7_allSnow_6 rfl (by decide) rfl ?_
  refine g_aload_n X dX7_allSnow_7 rfl 0 rfl ?_
  refine g_alen X (h0).lt3 (h0).w (v := 4) (by decide) dX7_allSnow_8 ?_
  refine g_istore_n X (lv' := [(3, .int 4), (2, .ref (ea (zE Z) (a0 + 3))), (1, .int 0), (0, .ref (ea (zE Z) a0))]) dX7_allSnow_9 rfl (by decide) rfl ?_
  refine g_iconst X (v := 0) dX7_allSnow_10 (by decide) ?_
  refine g_istore X (lv' := [(4, .int 0), (3, .int 4), (2, .ref (ea (zE Z) (a0 + 3))), (1, .int 0), (0, .ref (ea (zE Z) a0))]) dX7_allSnow_11 (by decide) rfl ?_
  refine GW.sub (lv' := [(1, .int 0), (2, .ref (ea (zE Z) (a0 + 3))), (3, .int 4), (4, .int 0)]) [3, 2, 1, 0] rfl ?_
  obtain ⟨n, h⟩ := h
  exact w_X7_allSnow_L13 X R h0  n 0 4 0 I J h

/-! X7_allStock.allStock()I -/
def rmX7_allStock : Room := { frames := 0, cells := 0, slots := 0, locals := 0 }
theorem yo_X7_allStock : yX7_allStock.cls = RX7 ∧ yX7_allStock.cls ≠ "java/lang/invoke/MethodHandle" ∧ yX7_allStock.cls ≠ "java/lang/invoke/VarHandle" ∧ (parseMethodDescriptor yX7_allStock.desc).map (fun d => d.parameters.length) = some 0 := by decide +kernel
theorem kX7_allStock_21 : Cond.fieldLink RX7 21 "SnowCourse$Standing" (TX7 3).2.1 (TX7 3).2.2.1 ∈ wsX7_allStock := by decide +kernel
theorem iX7_allStock_X7 : ∀ w ∈ u_ws RX7 TX7 5, w ∈ wsX7_allStock := by decide +kernel
def vc_X7_allStock_L13s (a0 : Nat) (Q : Int32 → MI → MJ → Prop)  (k13 : Int32 → Int32 → Int32 → MI → MJ → Prop) (v1 : Int32) (v3 : Int32) (v4 : Int32) (I : MI) (J : MJ) : Prop := ((v3 ≤ v4 → Q v1 I J) ∧ (¬ v3 ≤ v4 → vp_in v4 7 ∧ ∀ x3 : Int32, x3 = I (a0 + 4) (Int32.toNatClampNeg v4) → ∀ x4 : Int32, x4 = v1 + x3 → ∀ x5 : Int32, x5 = v4 + 1 → k13 x4 v3 x5 I J))
def vc_X7_allStock_L13 (a0 : Nat) (Q : Int32 → MI → MJ → Prop)  (n : Nat) : Int32 → Int32 → Int32 → MI → MJ → Prop := Nat.rec (fun _ _ _ _ _ => False) (fun _ ih => vc_X7_allStock_L13s a0 Q  ih) n
set_option maxRecDepth 100000 in
set_option maxHeartbeats 4000000 in
theorem w_X7_allStock_L13s {Z : RT} {a0 : Nat} (X : Cx Z cX7_allStock 6 RX7 wsX7_allStock rmX7_allStock (some .int)) {Q : Int32 → MI → MJ → Prop} (R : RI Z Q) (h0 : isSt a0)   {k13 : Int32 → Int32 → Int32 → MI → MJ → Prop} (hk13 : ∀ (v1 : Int32) (v3 : Int32) (v4 : Int32) (I : MI) (J : MJ), k13 v1 v3 v4 I J → GW Z 6 I J 13 [(1, .int v1), (2, .ref (ea (zE Z) (a0 + 4))), (3, .int v3), (4, .int v4)] []) (v1 : Int32) (v3 : Int32) (v4 : Int32) (I : MI) (J : MJ) (h : vc_X7_allStock_L13s a0 Q  k13 v1 v3 v4 I J) : GW Z 6 I J 13 [(1, .int v1), (2, .ref (ea (zE Z) (a0 + 4))), (3, .int v3), (4, .int v4)] [] := by
  refine g_iload X dX7_allStock_13 3 rfl ?_
  refine g_iload_n X dX7_allStock_15 rfl 2 rfl ?_
  refine g_icmp_ge X (tgt := 36) dX7_allStock_16 (by decide) (fun c1 => ?_) (fun c1 => ?_)
  · have h := h.1 c1
    refine g_iload_n X dX7_allStock_36 rfl 0 rfl ?_
    exact g_iret X R dX7_allStock_37 h
  · have h := h.2 c1
    refine g_aload_n X dX7_allStock_19 rfl 1 rfl ?_
    refine g_iload X dX7_allStock_20 3 rfl ?_
    obtain ⟨b2, h⟩ := h
    refine g_iald X (h0).lt (h0).s b2 dX7_allStock_22 ?_
    refine g_topi (fun x3 ex3 => ?_)
    have h := h x3 ex3
    refine g_istore X (lv' := [(5, .int x3), (1, .int v1), (2, .ref (ea (zE Z) (a0 + 4))), (3, .int v3), (4, .int v4)]) dX7_allStock_23 (by decide) rfl ?_
    refine g_iload_n X dX7_allStock_25 rfl 1 rfl ?_
    refine g_iload X dX7_allStock_26 0 rfl ?_
    refine g_iadd X dX7_allStock_28 ?_
    refine g_topi (fun x4 ex4 => ?_)
    have h := h x4 ex4
    refine g_istore_n X (lv' := [(1, .int x4), (5, .int x3), (2, .ref (ea (zE Z) (a0 + 4))), (3, .int v3), (4, .int v4)]) dX7_allStock_29 rfl (by decide) rfl ?_
    obtain ⟨x5, ex5⟩ : ∃ y : Int32, y = v4 + 1 := ⟨_, rfl⟩
    have h := h x5 ex5
    refine g_iinc X (q := 4) (v := x5) (lv' := [(4, .int x5), (1, .int x4), (5, .int x3), (2, .ref (ea (zE Z) (a0 + 4))), (3, .int v3)]) dX7_allStock_30 rfl (by rw [ex5]; rfl) (by decide) rfl ?_
    refine g_goto X (tgt := 13) dX7_allStock_33 (by decide) ?_
    refine GW.sub (lv' := [(1, .int x4), (2, .ref (ea (zE Z) (a0 + 4))), (3, .int v3), (4, .int x5)]) [1, 3, 4, 0] rfl ?_
    exact hk13 x4 v3 x5 I J h
theorem w_X7_allStock_L13 {Z : RT} {a0 : Nat} (X : Cx Z cX7_allStock 6 RX7 wsX7_allStock rmX7_allStock (some .int)) {Q : Int32 → MI → MJ → Prop} (R : RI Z Q) (h0 : isSt a0)   : ∀ (n : Nat) (v1 : Int32) (v3 : Int32) (v4 : Int32) (I : MI) (J : MJ) (h : vc_X7_allStock_L13 a0 Q  n v1 v3 v4 I J), GW Z 6 I J 13 [(1, .int v1), (2, .ref (ea (zE Z) (a0 + 4))), (3, .int v3), (4, .int v4)] [] := by
  intro n
  induction n with
  | zero => intro v1 v3 v4 I J h; exact h.elim
  | succ n ih => intro v1 v3 v4 I J h; exact w_X7_allStock_L13s X R h0  ih v1 v3 v4 I J h
def vc_X7_allStock (a0 : Nat) (I : MI) (J : MJ) (Q : Int32 → MI → MJ → Prop) : Prop := (∃ n, vc_X7_allStock_L13 a0 Q  n 0 7 0 I J)
set_option maxRecDepth 100000 in
set_option maxHeartbeats 4000000 in
theorem c_X7_allStock (l : Launch) (E : ET) {a0 : Nat} (h0 : isSt a0) : CI l yX7_allStock wsX7_allStock rmX7_allStock E [.ref (ea E a0)] (vc_X7_allStock a0) := by
  refine CI.of (cc := cX7_allStock) (maxL := 6) (own := RX7) (by decide) rfl rfl (Nat.le_of_ble_eq_true rfl) ?_
  intro Z I J Q hE hl X R h
  subst hE
  subst hl
  show GW Z 6 I J 0 [(0, .ref (ea (zE Z) a0))] []
  refine g_iconst X (v := 0) dX7_allStock_0 (by decide) ?_
  refine g_istore_n X (lv' := [(1, .int 0), (0, .ref (ea (zE Z) a0))]) dX7_allStock_1 rfl (by decide) rfl ?_
  refine g_aload_n X dX7_allStock_2 rfl 1 rfl ?_
  refine g_getr X (C := RX7) (T := TX7) (N := 5) (ci := 5) (k := 3) iX7_allStock_X7 rfl kX7_allStock_21 (h0).lt0 (h0).o (by decide) rfl rfl dX7_allStock_3 ?_
  refine g_astore_n X (lv' := [(2, .ref (ea (zE Z) (a0 + 4))), (1, .int 0), (0, .ref (ea (zE Z) a0))]) dX7_allStock_6 rfl (by decide) rfl ?_
  refine g_aload_n X dX7_allStock_7 rfl 0 rfl ?_
  refine g_alen X (h0).lt (h0).s (v := 7) (by decide) dX7_allStock_8 ?_
  refine g_istore_n X (lv' := [(3, .int 7), (2, .ref (ea (zE Z) (a0 + 4))), (1, .int 0), (0, .ref (ea (zE Z) a0))]) dX7_allStock_9 rfl (by decide) rfl ?_
  refine g_iconst X (v := 0) dX7_allStock_10 (by decide) ?_
  refine g_istore X (lv' := [(4, .int 0), (3, .int 7), (2, .ref (ea (zE Z) (a0 + 4))), (1, .int 0), (0, .ref (ea (zE Z) a0))]) dX7_allStock_11 (by decide) rfl ?_
  refine GW.sub (lv' := [(1, .int 0), (2, .ref (ea (zE Z) (a0 + 4))), (3, .int 7), (4, .int 0)]) [3, 2, 1, 0] rfl ?_
  obtain ⟨n, h⟩ := h
  exact w_X7_allStock_L13 X R h0  n 0 7 0 I J h

/-! X0_begin.begin(LSnowCourse$Country;)V -/
def rmX0_begin : Room := { frames := 2, cells := 0, slots := 0, locals := 45 }
theorem yo_X0_begin : yX0_begin.cls = RX0 ∧ yX0_begin.cls ≠ "java/lang/invoke/MethodHandle" ∧ yX0_begin.cls ≠ "java/lang/invoke/VarHandle" ∧ (parseMethodDescriptor yX0_begin.desc).map (fun d => d.parameters.length) = some 1 := by decide +kernel
theorem kX0_begin_23 : Cond.fieldLink RX0 23 "SnowCourse$Chronicle" (TX0 3).2.1 (TX0 3).2.2.1 ∈ wsX0_begin := by decide +kernel
theorem iX0_begin_X0 : ∀ w ∈ u_ws RX0 TX0 6, w ∈ wsX0_begin := by decide +kernel
theorem kX0_begin_10 : Cond.fieldLink RX0 10 "SnowCourse$Chronicle" (TX0 0).2.1 (TX0 0).2.2.1 ∈ wsX0_begin := by decide +kernel
theorem kX0_begin_31 : Cond.fieldLink RX0 31 "SnowCourse$Chronicle" (TX0 5).2.1 (TX0 5).2.2.1 ∈ wsX0_begin := by decide +kernel
def vc_X0_begin_L15s  (Q : MI → MJ → Prop)  (k15 : Int32 → MI → MJ → Prop) (v2 : Int32) (I : MI) (J : MJ) : Prop := ((2 ≤ v2 → Q I J) ∧ (¬ 2 ≤ v2 → vp_in v2 2 ∧ ∀ I3 : MI, I3 = wI I 17 (Int32.toNatClampNeg v2) (vp_nar .boolean 0) → ∀ x4 : Int32, x4 = v2 + 1 → k15 x4 I3 J))
def vc_X0_begin_L15  (Q : MI → MJ → Prop)  (n : Nat) : Int32 → MI → MJ → Prop := Nat.rec (fun _ _ _ => False) (fun _ ih => vc_X0_begin_L15s  Q  ih) n
set_option maxRecDepth 100000 in
set_option maxHeartbeats 4000000 in
theorem w_X0_begin_L15s {Z : RT}  (X : Cx Z cX0_begin 3 RX0 wsX0_begin rmX0_begin none) {Q : MI → MJ → Prop} (R : RV Z Q)    {k15 : Int32 → MI → MJ → Prop} (hk15 : ∀ (v2 : Int32) (I : MI) (J : MJ), k15 v2 I J → GW Z 3 I J 15 [(0, .ref (ea (zE Z) 14)), (2, .int v2)] []) (v2 : Int32) (I : MI) (J : MJ) (h : vc_X0_begin_L15s  Q  k15 v2 I J) : GW Z 3 I J 15 [(0, .ref (ea (zE Z) 14)), (2, .int v2)] [] := by
  refine g_iload_n X dX0_begin_15 rfl 1 rfl ?_
  refine g_iconst X (v := 2) dX0_begin_16 (by decide) ?_
  refine g_icmp_ge X (tgt := 33) dX0_begin_17 (by decide) (fun c1 => ?_) (fun c1 => ?_)
  · have h := h.1 c1
    exact g_vret X R dX0_begin_33 h
  · have h := h.2 c1
    refine g_aload_n X dX0_begin_20 rfl 0 rfl ?_
    refine g_getr X (C := RX0) (T := TX0) (N := 6) (ci := 0) (k := 3) iX0_begin_X0 rfl kX0_begin_23 (Nat.le_of_ble_eq_true rfl) rfl (by decide) rfl rfl dX0_begin_21 ?_
    refine g_iload_n X dX0_begin_24 rfl 1 rfl ?_
    refine g_iconst X (v := 0) dX0_begin_25 (by decide) ?_
    obtain ⟨b2, h⟩ := h
    refine g_zast X (Nat.le_of_ble_eq_true rfl) rfl b2 dX0_begin_26 ?_
    refine g_nmI (fun I3 eI3 => ?_)
    have h := h I3 eI3
    obtain ⟨x4, ex4⟩ : ∃ y : Int32, y = v2 + 1 := ⟨_, rfl⟩
    have h := h x4 ex4
    refine g_iinc X (q := 1) (v := x4) (lv' := [(2, .int x4), (0, .ref (ea (zE Z) 14))]) dX0_begin_27 rfl (by rw [ex4]; rfl) (by decide) rfl ?_
    refine g_goto X (tgt := 15) dX0_begin_30 (by decide) ?_
    refine GW.sub (lv' := [(0, .ref (ea (zE Z) 14)), (2, .int x4)]) [1, 0] rfl ?_
    exact hk15 x4 I3 J h
theorem w_X0_begin_L15 {Z : RT}  (X : Cx Z cX0_begin 3 RX0 wsX0_begin rmX0_begin none) {Q : MI → MJ → Prop} (R : RV Z Q)    : ∀ (n : Nat) (v2 : Int32) (I : MI) (J : MJ) (h : vc_X0_begin_L15  Q  n v2 I J), GW Z 3 I J 15 [(0, .ref (ea (zE Z) 14)), (2, .int v2)] [] := by
  intro n
  induction n with
  | zero => intro v2 I J h; exact h.elim
  | succ n ih => intro v2 I J h; exact w_X0_begin_L15s X R   ih v2 I J h
def vc_X0_begin  (I : MI) (J : MJ) (Q : MI → MJ → Prop) : Prop := vc_X7_begin 32 I J (fun (I5 : MI) (J6 : MJ) => ∀ I7 : MI, I7 = wI I5 14 5 0 → (∃ n, vc_X0_begin_L15  Q  n 0 I7 J6))
set_option maxRecDepth 100000 in
set_option maxHeartbeats 4000000 in
theorem c_X0_begin (l : Launch) (E : ET)   : CV l yX0_begin wsX0_begin rmX0_begin E [.ref (ea E 14), .ref (ea E 5)] (vc_X0_begin ) := by
  refine CV.of (cc := cX0_begin) (maxL := 3) (own := RX0) (by decide) rfl rfl (Nat.le_of_ble_eq_true rfl) ?_
  intro Z I J Q hE hl X R h
  subst hE
  subst hl
  show GW Z 3 I J 0 [(0, .ref (ea (zE Z) 14)), (1, .ref (ea (zE Z) 5))] []
  refine g_aload_n X dX0_begin_0 rfl 0 rfl ?_
  refine g_getr X (C := RX0) (T := TX0) (N := 6) (ci := 0) (k := 0) iX0_begin_X0 rfl kX0_begin_10 (Nat.le_of_ble_eq_true rfl) rfl (by decide) rfl rfl dX0_begin_1 ?_
  refine g_aload_n X dX0_begin_4 rfl 1 rfl ?_
  refine g_callVV X (As := [.ref (ea (zE Z) 5)]) (rest := []) (T := TX7) (N := 5) (c_X7_begin (zl Z) (zE Z) isSt_now) gX0_begin_X7_begin yo_X7_begin rfl ⟨Nat.le_of_ble_eq_true rfl, Nat.le_of_ble_eq_true rfl⟩ (Nat.le_of_ble_eq_true rfl) rfl rfl rfl dX0_begin_5 h (fun  I5 J6 h => ?_)
  refine g_aload_n X dX0_begin_8 rfl 0 rfl ?_
  refine g_iconst X (v := 0) dX0_begin_9 (by decide) ?_
  refine g_puti X (C := RX0) (T := TX0) (N := 6) (ci := 0) (k := 5) (ty0 := tyX0) iX0_begin_X0 tyX0_ok nmX0 rfl kX0_begin_31 (Nat.le_of_ble_eq_true rfl) rfl (by decide) rfl rfl (by decide +kernel) rfl dX0_begin_10 ?_
  refine g_nmI (fun I7 eI7 => ?_)
  have h := h I7 eI7
  refine g_iconst X (v := 0) dX0_begin_13 (by decide) ?_
  refine g_istore_n X (lv' := [(2, .int 0), (0, .ref (ea (zE Z) 14)), (1, .ref (ea (zE Z) 5))]) dX0_begin_14 rfl (by decide) rfl ?_
  refine GW.sub (lv' := [(0, .ref (ea (zE Z) 14)), (2, .int 0)]) [1, 0] rfl ?_
  obtain ⟨n, h⟩ := h
  exact w_X0_begin_L15 X R   n 0 I7 J6 h

/-! X0_remember.remember()V -/
def rmX0_remember : Room := { frames := 2, cells := 0, slots := 0, locals := 51 }
theorem yo_X0_remember : yX0_remember.cls = RX0 ∧ yX0_remember.cls ≠ "java/lang/invoke/MethodHandle" ∧ yX0_remember.cls ≠ "java/lang/invoke/VarHandle" ∧ (parseMethodDescriptor yX0_remember.desc).map (fun d => d.parameters.length) = some 0 := by decide +kernel
theorem kX0_remember_16 : Cond.fieldLink RX0 16 "SnowCourse$Chronicle" (TX0 1).2.1 (TX0 1).2.2.1 ∈ wsX0_remember := by decide +kernel
theorem iX0_remember_X0 : ∀ w ∈ u_ws RX0 TX0 6, w ∈ wsX0_remember := by decide +kernel
theorem kX0_remember_35 : Cond.fieldLink RX0 35 "SnowCourse$Chronicle" (TX0 4).2.1 (TX0 4).2.2.1 ∈ wsX0_remember := by decide +kernel
theorem kX0_remember_10 : Cond.fieldLink RX0 10 "SnowCourse$Chronicle" (TX0 0).2.1 (TX0 0).2.2.1 ∈ wsX0_remember := by decide +kernel
theorem kX0_remember_31 : Cond.fieldLink RX0 31 "SnowCourse$Chronicle" (TX0 5).2.1 (TX0 5).2.2.1 ∈ wsX0_remember := by decide +kernel
theorem kX0_remember_m42 : Cond.methodLink RX0 42 Lib.Math.min.name ∈ wsX0_remember := by decide +kernel
theorem kX0_remember_msmin : Cond.static Lib.Math.min.name ∈ wsX0_remember := by decide +kernel
theorem kX0_remember_mi : Cond.initialized "java/lang/Math" ∈ wsX0_remember := by decide +kernel
theorem kX0_remember_mcmin : Cond.code Lib.Math.min.name Lib.Math.min.code 2 (some .int) ∈ wsX0_remember := by decide +kernel
def vc_X0_remember  (I : MI) (J : MJ) (Q : MI → MJ → Prop) : Prop := vp_in (I 14 4) 8 ∧ vc_X7_copyOf (37 + 5 * Int32.toNatClampNeg (I 14 4)) 32 I J (fun (I2 : MI) (J3 : MJ) => ∀ I4 : MI, I4 = wI I2 14 4 (((I2 14 4) + 1) - ((I2 14 4) + 1) / 8 * 8) → ∀ I5 : MI, I5 = wI I4 14 5 (if 8 < ((I4 14 5) + 1) then 8 else ((I4 14 5) + 1)) → Q I5 J3)
set_option maxRecDepth 100000 in
set_option maxHeartbeats 4000000 in
theorem c_X0_remember (l : Launch) (E : ET)   : CV l yX0_remember wsX0_remember rmX0_remember E [.ref (ea E 14)] (vc_X0_remember ) := by
  refine CV.of (cc := cX0_remember) (maxL := 1) (own := RX0) (by decide) rfl rfl (Nat.le_of_ble_eq_true rfl) ?_
  intro Z I J Q hE hl X R h
  subst hE
  subst hl
  show GW Z 1 I J 0 [(0, .ref (ea (zE Z) 14))] []
  refine g_aload_n X dX0_remember_0 rfl 0 rfl ?_
  refine g_getr X (C := RX0) (T := TX0) (N := 6) (ci := 0) (k := 1) iX0_remember_X0 rfl kX0_remember_16 (Nat.le_of_ble_eq_true rfl) rfl (by decide) rfl rfl dX0_remember_1 ?_
  refine g_aload_n X dX0_remember_4 rfl 0 rfl ?_
  refine g_geti X (C := RX0) (T := TX0) (N := 6) (ci := 0) (k := 4) iX0_remember_X0 rfl kX0_remember_35 (Nat.le_of_ble_eq_true rfl) rfl (by decide) rfl rfl dX0_remember_5 ?_
  obtain ⟨b1, h⟩ := h
  refine g_past X b1 dX0_remember_8 ?_
  refine g_aload_n X dX0_remember_9 rfl 0 rfl ?_
  refine g_getr X (C := RX0) (T := TX0) (N := 6) (ci := 0) (k := 0) iX0_remember_X0 rfl kX0_remember_10 (Nat.le_of_ble_eq_true rfl) rfl (by decide) rfl rfl dX0_remember_10 ?_
  refine g_callVV X (As := [.ref (ea (zE Z) 32)]) (rest := []) (T := TX7) (N := 5) (c_X7_copyOf (zl Z) (zE Z) (isSt_past b1) isSt_now) gX0_remember_X7_copyOf yo_X7_copyOf rfl ⟨Nat.le_of_ble_eq_true rfl, Nat.le_of_ble_eq_true rfl⟩ (isSt_past b1).lt0 (isSt_past b1).o rfl rfl dX0_remember_13 h (fun  I2 J3 h => ?_)
  refine g_aload_n X dX0_remember_16 rfl 0 rfl ?_
  refine g_aload_n X dX0_remember_17 rfl 0 rfl ?_
  refine g_geti X (C := RX0) (T := TX0) (N := 6) (ci := 0) (k := 4) iX0_remember_X0 rfl kX0_remember_35 (Nat.le_of_ble_eq_true rfl) rfl (by decide) rfl rfl dX0_remember_18 ?_
  refine g_iconst X (v := 1) dX0_remember_21 (by decide) ?_
  refine g_iadd X dX0_remember_22 ?_
  refine g_bipush X (v := 8) dX0_remember_23 (by decide) ?_
  refine g_irem X dX0_remember_25 (by decide) ?_
  refine g_puti X (C := RX0) (T := TX0) (N := 6) (ci := 0) (k := 4) (ty0 := tyX0) iX0_remember_X0 tyX0_ok nmX0 rfl kX0_remember_35 (Nat.le_of_ble_eq_true rfl) rfl (by decide) rfl rfl (by decide +kernel) rfl dX0_remember_26 ?_
  refine g_nmI (fun I4 eI4 => ?_)
  have h := h I4 eI4
  refine g_aload_n X dX0_remember_29 rfl 0 rfl ?_
  refine g_aload_n X dX0_remember_30 rfl 0 rfl ?_
  refine g_geti X (C := RX0) (T := TX0) (N := 6) (ci := 0) (k := 5) iX0_remember_X0 rfl kX0_remember_31 (Nat.le_of_ble_eq_true rfl) rfl (by decide) rfl rfl dX0_remember_31 ?_
  refine g_iconst X (v := 1) dX0_remember_34 (by decide) ?_
  refine g_iadd X dX0_remember_35 ?_
  refine g_bipush X (v := 8) dX0_remember_36 (by decide) ?_
  refine g_mmin X kX0_remember_m42 kX0_remember_msmin kX0_remember_mi kX0_remember_mcmin ⟨Nat.le_of_ble_eq_true rfl, Nat.le_of_ble_eq_true rfl⟩ dX0_remember_38 ?_
  refine g_puti X (C := RX0) (T := TX0) (N := 6) (ci := 0) (k := 5) (ty0 := tyX0) iX0_remember_X0 tyX0_ok nmX0 rfl kX0_remember_31 (Nat.le_of_ble_eq_true rfl) rfl (by decide) rfl rfl (by decide +kernel) rfl dX0_remember_41 ?_
  refine g_nmI (fun I5 eI5 => ?_)
  have h := h I5 eI5
  exact g_vret X R dX0_remember_44 h

/-! X0_recall.recall()Z -/
def rmX0_recall : Room := { frames := 2, cells := 0, slots := 0, locals := 51 }
theorem yo_X0_recall : yX0_recall.cls = RX0 ∧ yX0_recall.cls ≠ "java/lang/invoke/MethodHandle" ∧ yX0_recall.cls ≠ "java/lang/invoke/VarHandle" ∧ (parseMethodDescriptor yX0_recall.desc).map (fun d => d.parameters.length) = some 0 := by decide +kernel
theorem kX0_recall_31 : Cond.fieldLink RX0 31 "SnowCourse$Chronicle" (TX0 5).2.1 (TX0 5).2.2.1 ∈ wsX0_recall := by decide +kernel
theorem iX0_recall_X0 : ∀ w ∈ u_ws RX0 TX0 6, w ∈ wsX0_recall := by decide +kernel
theorem kX0_recall_35 : Cond.fieldLink RX0 35 "SnowCourse$Chronicle" (TX0 4).2.1 (TX0 4).2.2.1 ∈ wsX0_recall := by decide +kernel
theorem kX0_recall_10 : Cond.fieldLink RX0 10 "SnowCourse$Chronicle" (TX0 0).2.1 (TX0 0).2.2.1 ∈ wsX0_recall := by decide +kernel
theorem kX0_recall_16 : Cond.fieldLink RX0 16 "SnowCourse$Chronicle" (TX0 1).2.1 (TX0 1).2.2.1 ∈ wsX0_recall := by decide +kernel
def vc_X0_recall  (I : MI) (J : MJ) (Q : Int32 → MI → MJ → Prop) : Prop := ((¬ (I 14 5) = 0 → ∀ I2 : MI, I2 = wI I 14 4 ((((I 14 4) + 8) - 1) - (((I 14 4) + 8) - 1) / 8 * 8) → vp_in (I2 14 4) 8 ∧ vc_X7_copyOf 32 (37 + 5 * Int32.toNatClampNeg (I2 14 4)) I2 J (fun (I4 : MI) (J5 : MJ) => ∀ I6 : MI, I6 = wI I4 14 5 ((I4 14 5) - 1) → Q 1 I6 J5)) ∧ ((I 14 5) = 0 → Q 0 I J))
set_option maxRecDepth 100000 in
set_option maxHeartbeats 4000000 in
theorem c_X0_recall (l : Launch) (E : ET)   : CI l yX0_recall wsX0_recall rmX0_recall E [.ref (ea E 14)] (vc_X0_recall ) := by
  refine CI.of (cc := cX0_recall) (maxL := 1) (own := RX0) (by decide) rfl rfl (Nat.le_of_ble_eq_true rfl) ?_
  intro Z I J Q hE hl X R h
  subst hE
  subst hl
  show GW Z 1 I J 0 [(0, .ref (ea (zE Z) 14))] []
  refine g_aload_n X dX0_recall_0 rfl 0 rfl ?_
  refine g_geti X (C := RX0) (T := TX0) (N := 6) (ci := 0) (k := 5) iX0_recall_X0 rfl kX0_recall_31 (Nat.le_of_ble_eq_true rfl) rfl (by decide) rfl rfl dX0_recall_1 ?_
  refine g_if_ne X (tgt := 9) dX0_recall_4 (by decide) (fun c1 => ?_) (fun c1 => ?_)
  · have h := h.1 c1
    refine g_aload_n X dX0_recall_9 rfl 0 rfl ?_
    refine g_aload_n X dX0_recall_10 rfl 0 rfl ?_
    refine g_geti X (C := RX0) (T := TX0) (N := 6) (ci := 0) (k := 4) iX0_recall_X0 rfl kX0_recall_35 (Nat.le_of_ble_eq_true rfl) rfl (by decide) rfl rfl dX0_recall_11 ?_
    refine g_bipush X (v := 8) dX0_recall_14 (by decide) ?_
    refine g_iadd X dX0_recall_16 ?_
    refine g_iconst X (v := 1) dX0_recall_17 (by decide) ?_
    refine g_isub X dX0_recall_18 ?_
    refine g_bipush X (v := 8) dX0_recall_19 (by decide) ?_
    refine g_irem X dX0_recall_21 (by decide) ?_
    refine g_puti X (C := RX0) (T := TX0) (N := 6) (ci := 0) (k := 4) (ty0 := tyX0) iX0_recall_X0 tyX0_ok nmX0 rfl kX0_recall_35 (Nat.le_of_ble_eq_true rfl) rfl (by decide) rfl rfl (by decide +kernel) rfl dX0_recall_22 ?_
    refine g_nmI (fun I2 eI2 => ?_)
    have h := h I2 eI2
    refine g_aload_n X dX0_recall_25 rfl 0 rfl ?_
    refine g_getr X (C := RX0) (T := TX0) (N := 6) (ci := 0) (k := 0) iX0_recall_X0 rfl kX0_recall_10 (Nat.le_of_ble_eq_true rfl) rfl (by decide) rfl rfl dX0_recall_26 ?_
    refine g_aload_n X dX0_recall_29 rfl 0 rfl ?_
    refine g_getr X (C := RX0) (T := TX0) (N := 6) (ci := 0) (k := 1) iX0_recall_X0 rfl kX0_recall_16 (Nat.le_of_ble_eq_true rfl) rfl (by decide) rfl rfl dX0_recall_30 ?_
    refine g_aload_n X dX0_recall_33 rfl 0 rfl ?_
    refine g_geti X (C := RX0) (T := TX0) (N := 6) (ci := 0) (k := 4) iX0_recall_X0 rfl kX0_recall_35 (Nat.le_of_ble_eq_true rfl) rfl (by decide) rfl rfl dX0_recall_34 ?_
    obtain ⟨b3, h⟩ := h
    refine g_past X b3 dX0_recall_37 ?_
    refine g_callVV X (As := [.ref (ea (zE Z) (37 + 5 * Int32.toNatClampNeg (I2 14 4)))]) (rest := []) (T := TX7) (N := 5) (c_X7_copyOf (zl Z) (zE Z) isSt_now (isSt_past b3)) gX0_recall_X7_copyOf yo_X7_copyOf rfl ⟨Nat.le_of_ble_eq_true rfl, Nat.le_of_ble_eq_true rfl⟩ (Nat.le_of_ble_eq_true rfl) rfl rfl rfl dX0_recall_38 h (fun  I4 J5 h => ?_)
    refine g_aload_n X dX0_recall_41 rfl 0 rfl ?_
    refine g_dup X dX0_recall_42 rfl ?_
    refine g_geti X (C := RX0) (T := TX0) (N := 6) (ci := 0) (k := 5) iX0_recall_X0 rfl kX0_recall_31 (Nat.le_of_ble_eq_true rfl) rfl (by decide) rfl rfl dX0_recall_43 ?_
    refine g_iconst X (v := 1) dX0_recall_46 (by decide) ?_
    refine g_isub X dX0_recall_47 ?_
    refine g_puti X (C := RX0) (T := TX0) (N := 6) (ci := 0) (k := 5) (ty0 := tyX0) iX0_recall_X0 tyX0_ok nmX0 rfl kX0_recall_31 (Nat.le_of_ble_eq_true rfl) rfl (by decide) rfl rfl (by decide +kernel) rfl dX0_recall_48 ?_
    refine g_nmI (fun I6 eI6 => ?_)
    have h := h I6 eI6
    refine g_iconst X (v := 1) dX0_recall_51 (by decide) ?_
    exact g_zret X R (by decide) dX0_recall_52 h
  · have h := h.2 c1
    refine g_iconst X (v := 0) dX0_recall_7 (by decide) ?_
    exact g_zret X R (by decide) dX0_recall_8 h

/-! X0_preserve.preserve(I)V -/
def rmX0_preserve : Room := { frames := 2, cells := 0, slots := 0, locals := 51 }
theorem yo_X0_preserve : yX0_preserve.cls = RX0 ∧ yX0_preserve.cls ≠ "java/lang/invoke/MethodHandle" ∧ yX0_preserve.cls ≠ "java/lang/invoke/VarHandle" ∧ (parseMethodDescriptor yX0_preserve.desc).map (fun d => d.parameters.length) = some 1 := by decide +kernel
theorem kX0_preserve_20 : Cond.fieldLink RX0 20 "SnowCourse$Chronicle" (TX0 2).2.1 (TX0 2).2.2.1 ∈ wsX0_preserve := by decide +kernel
theorem iX0_preserve_X0 : ∀ w ∈ u_ws RX0 TX0 6, w ∈ wsX0_preserve := by decide +kernel
theorem kX0_preserve_10 : Cond.fieldLink RX0 10 "SnowCourse$Chronicle" (TX0 0).2.1 (TX0 0).2.2.1 ∈ wsX0_preserve := by decide +kernel
theorem kX0_preserve_23 : Cond.fieldLink RX0 23 "SnowCourse$Chronicle" (TX0 3).2.1 (TX0 3).2.2.1 ∈ wsX0_preserve := by decide +kernel
def vc_X0_preserve (p1 : Int32) (I : MI) (J : MJ) (Q : MI → MJ → Prop) : Prop := vp_in p1 2 ∧ vc_X7_copyOf (77 + 5 * Int32.toNatClampNeg p1) 32 I J (fun (I2 : MI) (J3 : MJ) => vp_in p1 2 ∧ ∀ I5 : MI, I5 = wI I2 17 (Int32.toNatClampNeg p1) (vp_nar .boolean 1) → Q I5 J3)
set_option maxRecDepth 100000 in
set_option maxHeartbeats 4000000 in
theorem c_X0_preserve (l : Launch) (E : ET)  (p1 : Int32) : CV l yX0_preserve wsX0_preserve rmX0_preserve E [.ref (ea E 14), .int p1] (vc_X0_preserve p1) := by
  refine CV.of (cc := cX0_preserve) (maxL := 2) (own := RX0) (by decide) rfl rfl (Nat.le_of_ble_eq_true rfl) ?_
  intro Z I J Q hE hl X R h
  subst hE
  subst hl
  show GW Z 2 I J 0 [(0, .ref (ea (zE Z) 14)), (1, .int p1)] []
  refine g_aload_n X dX0_preserve_0 rfl 0 rfl ?_
  refine g_getr X (C := RX0) (T := TX0) (N := 6) (ci := 0) (k := 2) iX0_preserve_X0 rfl kX0_preserve_20 (Nat.le_of_ble_eq_true rfl) rfl (by decide) rfl rfl dX0_preserve_1 ?_
  refine g_iload_n X dX0_preserve_4 rfl 1 rfl ?_
  obtain ⟨b1, h⟩ := h
  refine g_kept X b1 dX0_preserve_5 ?_
  refine g_aload_n X dX0_preserve_6 rfl 0 rfl ?_
  refine g_getr X (C := RX0) (T := TX0) (N := 6) (ci := 0) (k := 0) iX0_preserve_X0 rfl kX0_preserve_10 (Nat.le_of_ble_eq_true rfl) rfl (by decide) rfl rfl dX0_preserve_7 ?_
  refine g_callVV X (As := [.ref (ea (zE Z) 32)]) (rest := []) (T := TX7) (N := 5) (c_X7_copyOf (zl Z) (zE Z) (isSt_kept b1) isSt_now) gX0_preserve_X7_copyOf yo_X7_copyOf rfl ⟨Nat.le_of_ble_eq_true rfl, Nat.le_of_ble_eq_true rfl⟩ (isSt_kept b1).lt0 (isSt_kept b1).o rfl rfl dX0_preserve_10 h (fun  I2 J3 h => ?_)
  refine g_aload_n X dX0_preserve_13 rfl 0 rfl ?_
  refine g_getr X (C := RX0) (T := TX0) (N := 6) (ci := 0) (k := 3) iX0_preserve_X0 rfl kX0_preserve_23 (Nat.le_of_ble_eq_true rfl) rfl (by decide) rfl rfl dX0_preserve_14 ?_
  refine g_iload_n X dX0_preserve_17 rfl 1 rfl ?_
  refine g_iconst X (v := 1) dX0_preserve_18 (by decide) ?_
  obtain ⟨b4, h⟩ := h
  refine g_zast X (Nat.le_of_ble_eq_true rfl) rfl b4 dX0_preserve_19 ?_
  refine g_nmI (fun I5 eI5 => ?_)
  have h := h I5 eI5
  exact g_vret X R dX0_preserve_20 h

/-! X0_restore.restore(I)Z -/
def rmX0_restore : Room := { frames := 2, cells := 0, slots := 0, locals := 51 }
theorem yo_X0_restore : yX0_restore.cls = RX0 ∧ yX0_restore.cls ≠ "java/lang/invoke/MethodHandle" ∧ yX0_restore.cls ≠ "java/lang/invoke/VarHandle" ∧ (parseMethodDescriptor yX0_restore.desc).map (fun d => d.parameters.length) = some 1 := by decide +kernel
theorem kX0_restore_23 : Cond.fieldLink RX0 23 "SnowCourse$Chronicle" (TX0 3).2.1 (TX0 3).2.2.1 ∈ wsX0_restore := by decide +kernel
theorem iX0_restore_X0 : ∀ w ∈ u_ws RX0 TX0 6, w ∈ wsX0_restore := by decide +kernel
theorem kX0_restore_10 : Cond.fieldLink RX0 10 "SnowCourse$Chronicle" (TX0 0).2.1 (TX0 0).2.2.1 ∈ wsX0_restore := by decide +kernel
theorem kX0_restore_20 : Cond.fieldLink RX0 20 "SnowCourse$Chronicle" (TX0 2).2.1 (TX0 2).2.2.1 ∈ wsX0_restore := by decide +kernel
theorem kX0_restore_31 : Cond.fieldLink RX0 31 "SnowCourse$Chronicle" (TX0 5).2.1 (TX0 5).2.2.1 ∈ wsX0_restore := by decide +kernel
def vc_X0_restore (p1 : Int32) (I : MI) (J : MJ) (Q : Int32 → MI → MJ → Prop) : Prop := vp_in p1 2 ∧ ((¬ (I 17 (Int32.toNatClampNeg p1)) = 0 → vp_in p1 2 ∧ vc_X7_copyOf 32 (77 + 5 * Int32.toNatClampNeg p1) I J (fun (I4 : MI) (J5 : MJ) => ∀ I6 : MI, I6 = wI I4 14 5 0 → Q 1 I6 J5)) ∧ ((I 17 (Int32.toNatClampNeg p1)) = 0 → Q 0 I J))
set_option maxRecDepth 100000 in
set_option maxHeartbeats 4000000 in
theorem c_X0_restore (l : Launch) (E : ET)  (p1 : Int32) : CI l yX0_restore wsX0_restore rmX0_restore E [.ref (ea E 14), .int p1] (vc_X0_restore p1) := by
  refine CI.of (cc := cX0_restore) (maxL := 2) (own := RX0) (by decide) rfl rfl (Nat.le_of_ble_eq_true rfl) ?_
  intro Z I J Q hE hl X R h
  subst hE
  subst hl
  show GW Z 2 I J 0 [(0, .ref (ea (zE Z) 14)), (1, .int p1)] []
  refine g_aload_n X dX0_restore_0 rfl 0 rfl ?_
  refine g_getr X (C := RX0) (T := TX0) (N := 6) (ci := 0) (k := 3) iX0_restore_X0 rfl kX0_restore_23 (Nat.le_of_ble_eq_true rfl) rfl (by decide) rfl rfl dX0_restore_1 ?_
  refine g_iload_n X dX0_restore_4 rfl 1 rfl ?_
  obtain ⟨b1, h⟩ := h
  refine g_zald X (Nat.le_of_ble_eq_true rfl) rfl b1 dX0_restore_5 ?_
  refine g_if_ne X (tgt := 11) dX0_restore_6 (by decide) (fun c2 => ?_) (fun c2 => ?_)
  · have h := h.1 c2
    refine g_aload_n X dX0_restore_11 rfl 0 rfl ?_
    refine g_getr X (C := RX0) (T := TX0) (N := 6) (ci := 0) (k := 0) iX0_restore_X0 rfl kX0_restore_10 (Nat.le_of_ble_eq_true rfl) rfl (by decide) rfl rfl dX0_restore_12 ?_
    refine g_aload_n X dX0_restore_15 rfl 0 rfl ?_
    refine g_getr X (C := RX0) (T := TX0) (N := 6) (ci := 0) (k := 2) iX0_restore_X0 rfl kX0_restore_20 (Nat.le_of_ble_eq_true rfl) rfl (by decide) rfl rfl dX0_restore_16 ?_
    refine g_iload_n X dX0_restore_19 rfl 1 rfl ?_
    obtain ⟨b3, h⟩ := h
    refine g_kept X b3 dX0_restore_20 ?_
    refine g_callVV X (As := [.ref (ea (zE Z) (77 + 5 * Int32.toNatClampNeg p1))]) (rest := []) (T := TX7) (N := 5) (c_X7_copyOf (zl Z) (zE Z) isSt_now (isSt_kept b3)) gX0_restore_X7_copyOf yo_X7_copyOf rfl ⟨Nat.le_of_ble_eq_true rfl, Nat.le_of_ble_eq_true rfl⟩ (Nat.le_of_ble_eq_true rfl) rfl rfl rfl dX0_restore_21 h (fun  I4 J5 h => ?_)
    refine g_aload_n X dX0_restore_24 rfl 0 rfl ?_
    refine g_iconst X (v := 0) dX0_restore_25 (by decide) ?_
    refine g_puti X (C := RX0) (T := TX0) (N := 6) (ci := 0) (k := 5) (ty0 := tyX0) iX0_restore_X0 tyX0_ok nmX0 rfl kX0_restore_31 (Nat.le_of_ble_eq_true rfl) rfl (by decide) rfl rfl (by decide +kernel) rfl dX0_restore_26 ?_
    refine g_nmI (fun I6 eI6 => ?_)
    have h := h I6 eI6
    refine g_iconst X (v := 1) dX0_restore_29 (by decide) ?_
    exact g_zret X R (by decide) dX0_restore_30 h
  · have h := h.2 c2
    refine g_iconst X (v := 0) dX0_restore_9 (by decide) ?_
    exact g_zret X R (by decide) dX0_restore_10 h

/-! X8_append.append(I)Z -/
def rmX8_append : Room := { frames := 0, cells := 0, slots := 0, locals := 0 }
theorem yo_X8_append : yX8_append.cls = RX8 ∧ yX8_append.cls ≠ "java/lang/invoke/MethodHandle" ∧ yX8_append.cls ≠ "java/lang/invoke/VarHandle" ∧ (parseMethodDescriptor yX8_append.desc).map (fun d => d.parameters.length) = some 1 := by decide +kernel
theorem kX8_append_15 : Cond.fieldLink RX8 15 "SnowCourse$Takers" (TX8 1).2.1 (TX8 1).2.2.1 ∈ wsX8_append := by decide +kernel
theorem iX8_append_X8 : ∀ w ∈ u_ws RX8 TX8 2, w ∈ wsX8_append := by decide +kernel
theorem kX8_append_11 : Cond.fieldLink RX8 11 "SnowCourse$Takers" (TX8 0).2.1 (TX8 0).2.2.1 ∈ wsX8_append := by decide +kernel
def vc_X8_append (p1 : Int32) (I : MI) (J : MJ) (Q : Int32 → MI → MJ → Prop) : Prop := (((I 18 1) < 5 → vp_in (I 18 1) 5 ∧ ∀ I3 : MI, I3 = wI I 19 (Int32.toNatClampNeg (I 18 1)) p1 → ∀ I4 : MI, I4 = wI I3 18 1 ((I3 18 1) + 1) → Q 1 I4 J) ∧ (¬ (I 18 1) < 5 → Q 0 I J))
set_option maxRecDepth 100000 in
set_option maxHeartbeats 4000000 in
theorem c_X8_append (l : Launch) (E : ET)  (p1 : Int32) : CI l yX8_append wsX8_append rmX8_append E [.ref (ea E 18), .int p1] (vc_X8_append p1) := by
  refine CI.of (cc := cX8_append) (maxL := 2) (own := RX8) (by decide) rfl rfl (Nat.le_of_ble_eq_true rfl) ?_
  intro Z I J Q hE hl X R h
  subst hE
  subst hl
  show GW Z 2 I J 0 [(0, .ref (ea (zE Z) 18)), (1, .int p1)] []
  refine g_aload_n X dX8_append_0 rfl 0 rfl ?_
  refine g_geti X (C := RX8) (T := TX8) (N := 2) (ci := 6) (k := 1) iX8_append_X8 rfl kX8_append_15 (Nat.le_of_ble_eq_true rfl) rfl (by decide) rfl rfl dX8_append_1 ?_
  refine g_iconst X (v := 5) dX8_append_4 (by decide) ?_
  refine g_icmp_lt X (tgt := 10) dX8_append_5 (by decide) (fun c1 => ?_) (fun c1 => ?_)
  · have h := h.1 c1
    refine g_aload_n X dX8_append_10 rfl 0 rfl ?_
    refine g_getr X (C := RX8) (T := TX8) (N := 2) (ci := 6) (k := 0) iX8_append_X8 rfl kX8_append_11 (Nat.le_of_ble_eq_true rfl) rfl (by decide) rfl rfl dX8_append_11 ?_
    refine g_aload_n X dX8_append_14 rfl 0 rfl ?_
    refine g_geti X (C := RX8) (T := TX8) (N := 2) (ci := 6) (k := 1) iX8_append_X8 rfl kX8_append_15 (Nat.le_of_ble_eq_true rfl) rfl (by decide) rfl rfl dX8_append_15 ?_
    refine g_iload_n X dX8_append_18 rfl 1 rfl ?_
    obtain ⟨b2, h⟩ := h
    refine g_iast X (Nat.le_of_ble_eq_true rfl) rfl b2 dX8_append_19 ?_
    refine g_nmI (fun I3 eI3 => ?_)
    have h := h I3 eI3
    refine g_aload_n X dX8_append_20 rfl 0 rfl ?_
    refine g_dup X dX8_append_21 rfl ?_
    refine g_geti X (C := RX8) (T := TX8) (N := 2) (ci := 6) (k := 1) iX8_append_X8 rfl kX8_append_15 (Nat.le_of_ble_eq_true rfl) rfl (by decide) rfl rfl dX8_append_22 ?_
    refine g_iconst X (v := 1) dX8_append_25 (by decide) ?_
    refine g_iadd X dX8_append_26 ?_
    refine g_puti X (C := RX8) (T := TX8) (N := 2) (ci := 6) (k := 1) (ty0 := tyX8) iX8_append_X8 tyX8_ok nmX8 rfl kX8_append_15 (Nat.le_of_ble_eq_true rfl) rfl (by decide) rfl rfl (by decide +kernel) rfl dX8_append_27 ?_
    refine g_nmI (fun I4 eI4 => ?_)
    have h := h I4 eI4
    refine g_iconst X (v := 1) dX8_append_30 (by decide) ?_
    exact g_zret X R (by decide) dX8_append_31 h
  · have h := h.2 c1
    refine g_iconst X (v := 0) dX8_append_8 (by decide) ?_
    exact g_zret X R (by decide) dX8_append_9 h

/-! X8_restBy.restBy(II)I -/
def rmX8_restBy : Room := { frames := 2, cells := 0, slots := 0, locals := 42 }
theorem yo_X8_restBy : yX8_restBy.cls = RX8 ∧ yX8_restBy.cls ≠ "java/lang/invoke/MethodHandle" ∧ yX8_restBy.cls ≠ "java/lang/invoke/VarHandle" ∧ (parseMethodDescriptor yX8_restBy.desc).map (fun d => d.parameters.length) = some 2 := by decide +kernel
theorem kX8_restBy_15 : Cond.fieldLink RX8 15 "SnowCourse$Takers" (TX8 1).2.1 (TX8 1).2.2.1 ∈ wsX8_restBy := by decide +kernel
theorem iX8_restBy_X8 : ∀ w ∈ u_ws RX8 TX8 2, w ∈ wsX8_restBy := by decide +kernel
theorem kX8_restBy_11 : Cond.fieldLink RX8 11 "SnowCourse$Takers" (TX8 0).2.1 (TX8 0).2.2.1 ∈ wsX8_restBy := by decide +kernel
def vc_X8_restBy_L5s  (Q : Int32 → MI → MJ → Prop)  (k5 : Int32 → Int32 → Int32 → MI → MJ → Prop) (v1 : Int32) (v3 : Int32) (v4 : Int32) (I : MI) (J : MJ) : Prop := (((I 18 1) ≤ v4 → Q v3 I J) ∧ (¬ (I 18 1) ≤ v4 → ((((v1 >>> (v4 &&& 31)) &&& 1) = 0 → ∀ x3 : Int32, x3 = v4 + 1 → k5 v1 v3 x3 I J) ∧ (¬ ((v1 >>> (v4 &&& 31)) &&& 1) = 0 → vc_X3_opened v3 I J (fun (r6 : Int32) (I4 : MI) (J5 : MJ) => vp_in v4 5 ∧ ∀ x8 : Int32, x8 = r6 - (I4 19 (Int32.toNatClampNeg v4)) → ((0 ≤ x8 → ∀ x10 : Int32, x10 = v4 + 1 → k5 v1 x8 x10 I4 J5) ∧ (¬ 0 ≤ x8 → Q (-1) I4 J5)))))))
def vc_X8_restBy_L5  (Q : Int32 → MI → MJ → Prop)  (n : Nat) : Int32 → Int32 → Int32 → MI → MJ → Prop := Nat.rec (fun _ _ _ _ _ => False) (fun _ ih => vc_X8_restBy_L5s  Q  ih) n
set_option maxRecDepth 100000 in
set_option maxHeartbeats 4000000 in
theorem w_X8_restBy_L5s {Z : RT}  (X : Cx Z cX8_restBy 5 RX8 wsX8_restBy rmX8_restBy (some .int)) {Q : Int32 → MI → MJ → Prop} (R : RI Z Q)    {k5 : Int32 → Int32 → Int32 → MI → MJ → Prop} (hk5 : ∀ (v1 : Int32) (v3 : Int32) (v4 : Int32) (I : MI) (J : MJ), k5 v1 v3 v4 I J → GW Z 5 I J 5 [(0, .ref (ea (zE Z) 18)), (1, .int v1), (3, .int v3), (4, .int v4)] []) (v1 : Int32) (v3 : Int32) (v4 : Int32) (I : MI) (J : MJ) (h : vc_X8_restBy_L5s  Q  k5 v1 v3 v4 I J) : GW Z 5 I J 5 [(0, .ref (ea (zE Z) 18)), (1, .int v1), (3, .int v3), (4, .int v4)] [] := by
  refine g_iload X dX8_restBy_5 3 rfl ?_
  refine g_aload_n X dX8_restBy_7 rfl 0 rfl ?_
  refine g_geti X (C := RX8) (T := TX8) (N := 2) (ci := 6) (k := 1) iX8_restBy_X8 rfl kX8_restBy_15 (Nat.le_of_ble_eq_true rfl) rfl (by decide) rfl rfl dX8_restBy_8 ?_
  refine g_icmp_ge X (tgt := 48) dX8_restBy_11 (by decide) (fun c1 => ?_) (fun c1 => ?_)
  · have h := h.1 c1
    refine g_iload_n X dX8_restBy_48 rfl 2 rfl ?_
    exact g_iret X R dX8_restBy_49 h
  · have h := h.2 c1
    refine g_iload_n X dX8_restBy_14 rfl 1 rfl ?_
    refine g_iload X dX8_restBy_15 3 rfl ?_
    refine g_ishr X dX8_restBy_17 ?_
    refine g_iconst X (v := 1) dX8_restBy_18 (by decide) ?_
    refine g_iand X dX8_restBy_19 ?_
    refine g_if_eq X (tgt := 42) dX8_restBy_20 (by decide) (fun c2 => ?_) (fun c2 => ?_)
    · have h := h.1 c2
      obtain ⟨x3, ex3⟩ : ∃ y : Int32, y = v4 + 1 := ⟨_, rfl⟩
      have h := h x3 ex3
      refine g_iinc X (q := 3) (v := x3) (lv' := [(4, .int x3), (0, .ref (ea (zE Z) 18)), (1, .int v1), (3, .int v3)]) dX8_restBy_42 rfl (by rw [ex3]; rfl) (by decide) rfl ?_
      refine g_goto X (tgt := 5) dX8_restBy_45 (by decide) ?_
      refine GW.sub (lv' := [(0, .ref (ea (zE Z) 18)), (1, .int v1), (3, .int v3), (4, .int x3)]) [1, 2, 3, 0] rfl ?_
      exact hk5 v1 v3 x3 I J h
    · have h := h.2 c2
      refine g_iload_n X dX8_restBy_23 rfl 2 rfl ?_
      refine g_callSI X (As := [.int v3]) (rest := []) (c_X3_opened (zl Z) (zE Z) v3) gX8_restBy_X3_opened yo_X3_opened.2 rfl ⟨Nat.le_of_ble_eq_true rfl, Nat.le_of_ble_eq_true rfl⟩ rfl dX8_restBy_24 h (fun r6 I4 J5 h => ?_)
      refine g_aload_n X dX8_restBy_27 rfl 0 rfl ?_
      refine g_getr X (C := RX8) (T := TX8) (N := 2) (ci := 6) (k := 0) iX8_restBy_X8 rfl kX8_restBy_11 (Nat.le_of_ble_eq_true rfl) rfl (by decide) rfl rfl dX8_restBy_28 ?_
      refine g_iload X dX8_restBy_31 3 rfl ?_
      obtain ⟨b7, h⟩ := h
      refine g_iald X (Nat.le_of_ble_eq_true rfl) rfl b7 dX8_restBy_33 ?_
      refine g_isub X dX8_restBy_34 ?_
      refine g_topi (fun x8 ex8 => ?_)
      have h := h x8 ex8
      refine g_istore_n X (lv' := [(3, .int x8), (0, .ref (ea (zE Z) 18)), (1, .int v1), (4, .int v4)]) dX8_restBy_35 rfl (by decide) rfl ?_
      refine g_iload_n X dX8_restBy_36 rfl 0 rfl ?_
      refine g_if_ge X (tgt := 42) dX8_restBy_37 (by decide) (fun c9 => ?_) (fun c9 => ?_)
      · have h := h.1 c9
        obtain ⟨x10, ex10⟩ : ∃ y : Int32, y = v4 + 1 := ⟨_, rfl⟩
        have h := h x10 ex10
        refine g_iinc X (q := 3) (v := x10) (lv' := [(4, .int x10), (3, .int x8), (0, .ref (ea (zE Z) 18)), (1, .int v1)]) dX8_restBy_42 rfl (by rw [ex10]; rfl) (by decide) rfl ?_
        refine g_goto X (tgt := 5) dX8_restBy_45 (by decide) ?_
        refine GW.sub (lv' := [(0, .ref (ea (zE Z) 18)), (1, .int v1), (3, .int x8), (4, .int x10)]) [2, 3, 1, 0] rfl ?_
        exact hk5 v1 x8 x10 I4 J5 h
      · have h := h.2 c9
        refine g_iconst X (v := (-1)) dX8_restBy_40 (by decide) ?_
        exact g_iret X R dX8_restBy_41 h
theorem w_X8_restBy_L5 {Z : RT}  (X : Cx Z cX8_restBy 5 RX8 wsX8_restBy rmX8_restBy (some .int)) {Q : Int32 → MI → MJ → Prop} (R : RI Z Q)    : ∀ (n : Nat) (v1 : Int32) (v3 : Int32) (v4 : Int32) (I : MI) (J : MJ) (h : vc_X8_restBy_L5  Q  n v1 v3 v4 I J), GW Z 5 I J 5 [(0, .ref (ea (zE Z) 18)), (1, .int v1), (3, .int v3), (4, .int v4)] [] := by
  intro n
  induction n with
  | zero => intro v1 v3 v4 I J h; exact h.elim
  | succ n ih => intro v1 v3 v4 I J h; exact w_X8_restBy_L5s X R   ih v1 v3 v4 I J h
def vc_X8_restBy (p1 : Int32) (p2 : Int32) (I : MI) (J : MJ) (Q : Int32 → MI → MJ → Prop) : Prop := (∃ n, vc_X8_restBy_L5  Q  n p1 p2 0 I J)
set_option maxRecDepth 100000 in
set_option maxHeartbeats 4000000 in
theorem c_X8_restBy (l : Launch) (E : ET)  (p1 : Int32) (p2 : Int32) : CI l yX8_restBy wsX8_restBy rmX8_restBy E [.ref (ea E 18), .int p1, .int p2] (vc_X8_restBy p1 p2) := by
  refine CI.of (cc := cX8_restBy) (maxL := 5) (own := RX8) (by decide) rfl rfl (Nat.le_of_ble_eq_true rfl) ?_
  intro Z I J Q hE hl X R h
  subst hE
  subst hl
  show GW Z 5 I J 0 [(0, .ref (ea (zE Z) 18)), (1, .int p1), (2, .int p2)] []
  refine g_iload_n X dX8_restBy_0 rfl 2 rfl ?_
  refine g_istore_n X (lv' := [(3, .int p2), (0, .ref (ea (zE Z) 18)), (1, .int p1), (2, .int p2)]) dX8_restBy_1 rfl (by decide) rfl ?_
  refine g_iconst X (v := 0) dX8_restBy_2 (by decide) ?_
  refine g_istore X (lv' := [(4, .int 0), (3, .int p2), (0, .ref (ea (zE Z) 18)), (1, .int p1), (2, .int p2)]) dX8_restBy_3 (by decide) rfl ?_
  refine GW.sub (lv' := [(0, .ref (ea (zE Z) 18)), (1, .int p1), (3, .int p2), (4, .int 0)]) [2, 3, 1, 0] rfl ?_
  obtain ⟨n, h⟩ := h
  exact w_X8_restBy_L5 X R   n p1 p2 0 I J h

/-! X8_setsLeaving.setsLeaving(II)I -/
def rmX8_setsLeaving : Room := { frames := 3, cells := 0, slots := 0, locals := 66 }
theorem yo_X8_setsLeaving : yX8_setsLeaving.cls = RX8 ∧ yX8_setsLeaving.cls ≠ "java/lang/invoke/MethodHandle" ∧ yX8_setsLeaving.cls ≠ "java/lang/invoke/VarHandle" ∧ (parseMethodDescriptor yX8_setsLeaving.desc).map (fun d => d.parameters.length) = some 2 := by decide +kernel
theorem kX8_setsLeaving_15 : Cond.fieldLink RX8 15 "SnowCourse$Takers" (TX8 1).2.1 (TX8 1).2.2.1 ∈ wsX8_setsLeaving := by decide +kernel
theorem iX8_setsLeaving_X8 : ∀ w ∈ u_ws RX8 TX8 2, w ∈ wsX8_setsLeaving := by decide +kernel
def vc_X8_setsLeaving_L5s  (Q : Int32 → MI → MJ → Prop)  (k5 : Int32 → Int32 → Int32 → Int32 → MI → MJ → Prop) (v1 : Int32) (v2 : Int32) (v3 : Int32) (v4 : Int32) (I : MI) (J : MJ) : Prop := (((1 <<< ((I 18 1) &&& 31)) ≤ v4 → Q v3 I J) ∧ (¬ (1 <<< ((I 18 1) &&& 31)) ≤ v4 → vc_X8_restBy v4 v1 I J (fun (r4 : Int32) (I2 : MI) (J3 : MJ) => ((¬ r4 = v2 → ∀ x6 : Int32, x6 = v4 + 1 → k5 v1 v2 v3 x6 I2 J3) ∧ (r4 = v2 → ∀ x7 : Int32, x7 = v3 + 1 → ∀ x8 : Int32, x8 = v4 + 1 → k5 v1 v2 x7 x8 I2 J3)))))
def vc_X8_setsLeaving_L5  (Q : Int32 → MI → MJ → Prop)  (n : Nat) : Int32 → Int32 → Int32 → Int32 → MI → MJ → Prop := Nat.rec (fun _ _ _ _ _ _ => False) (fun _ ih => vc_X8_setsLeaving_L5s  Q  ih) n
set_option maxRecDepth 100000 in
set_option maxHeartbeats 4000000 in
theorem w_X8_setsLeaving_L5s {Z : RT}  (X : Cx Z cX8_setsLeaving 5 RX8 wsX8_setsLeaving rmX8_setsLeaving (some .int)) {Q : Int32 → MI → MJ → Prop} (R : RI Z Q)    {k5 : Int32 → Int32 → Int32 → Int32 → MI → MJ → Prop} (hk5 : ∀ (v1 : Int32) (v2 : Int32) (v3 : Int32) (v4 : Int32) (I : MI) (J : MJ), k5 v1 v2 v3 v4 I J → GW Z 5 I J 5 [(0, .ref (ea (zE Z) 18)), (1, .int v1), (2, .int v2), (3, .int v3), (4, .int v4)] []) (v1 : Int32) (v2 : Int32) (v3 : Int32) (v4 : Int32) (I : MI) (J : MJ) (h : vc_X8_setsLeaving_L5s  Q  k5 v1 v2 v3 v4 I J) : GW Z 5 I J 5 [(0, .ref (ea (zE Z) 18)), (1, .int v1), (2, .int v2), (3, .int v3), (4, .int v4)] [] := by
  refine g_iload X dX8_setsLeaving_5 4 rfl ?_
  refine g_iconst X (v := 1) dX8_setsLeaving_7 (by decide) ?_
  refine g_aload_n X dX8_setsLeaving_8 rfl 0 rfl ?_
  refine g_geti X (C := RX8) (T := TX8) (N := 2) (ci := 6) (k := 1) iX8_setsLeaving_X8 rfl kX8_setsLeaving_15 (Nat.le_of_ble_eq_true rfl) rfl (by decide) rfl rfl dX8_setsLeaving_9 ?_
  refine g_ishl X dX8_setsLeaving_12 ?_
  refine g_icmp_ge X (tgt := 36) dX8_setsLeaving_13 (by decide) (fun c1 => ?_) (fun c1 => ?_)
  · have h := h.1 c1
    refine g_iload_n X dX8_setsLeaving_36 rfl 3 rfl ?_
    exact g_iret X R dX8_setsLeaving_37 h
  · have h := h.2 c1
    refine g_aload_n X dX8_setsLeaving_16 rfl 0 rfl ?_
    refine g_iload X dX8_setsLeaving_17 4 rfl ?_
    refine g_iload_n X dX8_setsLeaving_19 rfl 1 rfl ?_
    refine g_callVI X (As := [.int v4, .int v1]) (rest := []) (T := TX8) (N := 2) (c_X8_restBy (zl Z) (zE Z) v4 v1) gX8_setsLeaving_X8_restBy yo_X8_restBy rfl ⟨Nat.le_of_ble_eq_true rfl, Nat.le_of_ble_eq_true rfl⟩ (Nat.le_of_ble_eq_true rfl) rfl rfl rfl dX8_setsLeaving_20 h (fun r4 I2 J3 h => ?_)
    refine g_iload_n X dX8_setsLeaving_23 rfl 2 rfl ?_
    refine g_icmp_ne X (tgt := 30) dX8_setsLeaving_24 (by decide) (fun c5 => ?_) (fun c5 => ?_)
    · have h := h.1 c5
      obtain ⟨x6, ex6⟩ : ∃ y : Int32, y = v4 + 1 := ⟨_, rfl⟩
      have h := h x6 ex6
      refine g_iinc X (q := 4) (v := x6) (lv' := [(4, .int x6), (0, .ref (ea (zE Z) 18)), (1, .int v1), (2, .int v2), (3, .int v3)]) dX8_setsLeaving_30 rfl (by rw [ex6]; rfl) (by decide) rfl ?_
      refine g_goto X (tgt := 5) dX8_setsLeaving_33 (by decide) ?_
      refine GW.sub (lv' := [(0, .ref (ea (zE Z) 18)), (1, .int v1), (2, .int v2), (3, .int v3), (4, .int x6)]) [1, 2, 3, 4, 0] rfl ?_
      exact hk5 v1 v2 v3 x6 I2 J3 h
    · have h := h.2 c5
      obtain ⟨x7, ex7⟩ : ∃ y : Int32, y = v3 + 1 := ⟨_, rfl⟩
      have h := h x7 ex7
      refine g_iinc X (q := 3) (v := x7) (lv' := [(3, .int x7), (0, .ref (ea (zE Z) 18)), (1, .int v1), (2, .int v2), (4, .int v4)]) dX8_setsLeaving_27 rfl (by rw [ex7]; rfl) (by decide) rfl ?_
      obtain ⟨x8, ex8⟩ : ∃ y : Int32, y = v4 + 1 := ⟨_, rfl⟩
      have h := h x8 ex8
      refine g_iinc X (q := 4) (v := x8) (lv' := [(4, .int x8), (3, .int x7), (0, .ref (ea (zE Z) 18)), (1, .int v1), (2, .int v2)]) dX8_setsLeaving_30 rfl (by rw [ex8]; rfl) (by decide) rfl ?_
      refine g_goto X (tgt := 5) dX8_setsLeaving_33 (by decide) ?_
      refine GW.sub (lv' := [(0, .ref (ea (zE Z) 18)), (1, .int v1), (2, .int v2), (3, .int x7), (4, .int x8)]) [2, 3, 4, 1, 0] rfl ?_
      exact hk5 v1 v2 x7 x8 I2 J3 h
theorem w_X8_setsLeaving_L5 {Z : RT}  (X : Cx Z cX8_setsLeaving 5 RX8 wsX8_setsLeaving rmX8_setsLeaving (some .int)) {Q : Int32 → MI → MJ → Prop} (R : RI Z Q)    : ∀ (n : Nat) (v1 : Int32) (v2 : Int32) (v3 : Int32) (v4 : Int32) (I : MI) (J : MJ) (h : vc_X8_setsLeaving_L5  Q  n v1 v2 v3 v4 I J), GW Z 5 I J 5 [(0, .ref (ea (zE Z) 18)), (1, .int v1), (2, .int v2), (3, .int v3), (4, .int v4)] [] := by
  intro n
  induction n with
  | zero => intro v1 v2 v3 v4 I J h; exact h.elim
  | succ n ih => intro v1 v2 v3 v4 I J h; exact w_X8_setsLeaving_L5s X R   ih v1 v2 v3 v4 I J h
def vc_X8_setsLeaving (p1 : Int32) (p2 : Int32) (I : MI) (J : MJ) (Q : Int32 → MI → MJ → Prop) : Prop := (∃ n, vc_X8_setsLeaving_L5  Q  n p1 p2 0 0 I J)
set_option maxRecDepth 100000 in
set_option maxHeartbeats 4000000 in
theorem c_X8_setsLeaving (l : Launch) (E : ET)  (p1 : Int32) (p2 : Int32) : CI l yX8_setsLeaving wsX8_setsLeaving rmX8_setsLeaving E [.ref (ea E 18), .int p1, .int p2] (vc_X8_setsLeaving p1 p2) := by
  refine CI.of (cc := cX8_setsLeaving) (maxL := 5) (own := RX8) (by decide) rfl rfl (Nat.le_of_ble_eq_true rfl) ?_
  intro Z I J Q hE hl X R h
  subst hE
  subst hl
  show GW Z 5 I J 0 [(0, .ref (ea (zE Z) 18)), (1, .int p1), (2, .int p2)] []
  refine g_iconst X (v := 0) dX8_setsLeaving_0 (by decide) ?_
  refine g_istore_n X (lv' := [(3, .int 0), (0, .ref (ea (zE Z) 18)), (1, .int p1), (2, .int p2)]) dX8_setsLeaving_1 rfl (by decide) rfl ?_
  refine g_iconst X (v := 0) dX8_setsLeaving_2 (by decide) ?_
  refine g_istore X (lv' := [(4, .int 0), (3, .int 0), (0, .ref (ea (zE Z) 18)), (1, .int p1), (2, .int p2)]) dX8_setsLeaving_3 (by decide) rfl ?_
  refine GW.sub (lv' := [(0, .ref (ea (zE Z) 18)), (1, .int p1), (2, .int p2), (3, .int 0), (4, .int 0)]) [2, 3, 4, 1, 0] rfl ?_
  obtain ⟨n, h⟩ := h
  exact w_X8_setsLeaving_L5 X R   n p1 p2 0 0 I J h

/-! X8_leastLeaving.leastLeaving(II)I -/
def rmX8_leastLeaving : Room := { frames := 3, cells := 0, slots := 0, locals := 66 }
theorem yo_X8_leastLeaving : yX8_leastLeaving.cls = RX8 ∧ yX8_leastLeaving.cls ≠ "java/lang/invoke/MethodHandle" ∧ yX8_leastLeaving.cls ≠ "java/lang/invoke/VarHandle" ∧ (parseMethodDescriptor yX8_leastLeaving.desc).map (fun d => d.parameters.length) = some 2 := by decide +kernel
theorem kX8_leastLeaving_15 : Cond.fieldLink RX8 15 "SnowCourse$Takers" (TX8 1).2.1 (TX8 1).2.2.1 ∈ wsX8_leastLeaving := by decide +kernel
theorem iX8_leastLeaving_X8 : ∀ w ∈ u_ws RX8 TX8 2, w ∈ wsX8_leastLeaving := by decide +kernel
def vc_X8_leastLeaving_L2s  (Q : Int32 → MI → MJ → Prop)  (k2 : Int32 → Int32 → Int32 → MI → MJ → Prop) (v1 : Int32) (v2 : Int32) (v3 : Int32) (I : MI) (J : MJ) : Prop := (((1 <<< ((I 18 1) &&& 31)) ≤ v3 → Q (-1) I J) ∧ (¬ (1 <<< ((I 18 1) &&& 31)) ≤ v3 → vc_X8_restBy v3 v1 I J (fun (r4 : Int32) (I2 : MI) (J3 : MJ) => ((¬ r4 = v2 → ∀ x6 : Int32, x6 = v3 + 1 → k2 v1 v2 x6 I2 J3) ∧ (r4 = v2 → Q v3 I2 J3)))))
def vc_X8_leastLeaving_L2  (Q : Int32 → MI → MJ → Prop)  (n : Nat) : Int32 → Int32 → Int32 → MI → MJ → Prop := Nat.rec (fun _ _ _ _ _ => False) (fun _ ih => vc_X8_leastLeaving_L2s  Q  ih) n
set_option maxRecDepth 100000 in
set_option maxHeartbeats 4000000 in
theorem w_X8_leastLeaving_L2s {Z : RT}  (X : Cx Z cX8_leastLeaving 4 RX8 wsX8_leastLeaving rmX8_leastLeaving (some .int)) {Q : Int32 → MI → MJ → Prop} (R : RI Z Q)    {k2 : Int32 → Int32 → Int32 → MI → MJ → Prop} (hk2 : ∀ (v1 : Int32) (v2 : Int32) (v3 : Int32) (I : MI) (J : MJ), k2 v1 v2 v3 I J → GW Z 4 I J 2 [(0, .ref (ea (zE Z) 18)), (1, .int v1), (2, .int v2), (3, .int v3)] []) (v1 : Int32) (v2 : Int32) (v3 : Int32) (I : MI) (J : MJ) (h : vc_X8_leastLeaving_L2s  Q  k2 v1 v2 v3 I J) : GW Z 4 I J 2 [(0, .ref (ea (zE Z) 18)), (1, .int v1), (2, .int v2), (3, .int v3)] [] := by
  refine g_iload_n X dX8_leastLeaving_2 rfl 3 rfl ?_
  refine g_iconst X (v := 1) dX8_leastLeaving_3 (by decide) ?_
  refine g_aload_n X dX8_leastLeaving_4 rfl 0 rfl ?_
  refine g_geti X (C := RX8) (T := TX8) (N := 2) (ci := 6) (k := 1) iX8_leastLeaving_X8 rfl kX8_leastLeaving_15 (Nat.le_of_ble_eq_true rfl) rfl (by decide) rfl rfl dX8_leastLeaving_5 ?_
  refine g_ishl X dX8_leastLeaving_8 ?_
  refine g_icmp_ge X (tgt := 30) dX8_leastLeaving_9 (by decide) (fun c1 => ?_) (fun c1 => ?_)
  · have h := h.1 c1
    refine g_iconst X (v := (-1)) dX8_leastLeaving_30 (by decide) ?_
    exact g_iret X R dX8_leastLeaving_31 h
  · have h := h.2 c1
    refine g_aload_n X dX8_leastLeaving_12 rfl 0 rfl ?_
    refine g_iload_n X dX8_leastLeaving_13 rfl 3 rfl ?_
    refine g_iload_n X dX8_leastLeaving_14 rfl 1 rfl ?_
    refine g_callVI X (As := [.int v3, .int v1]) (rest := []) (T := TX8) (N := 2) (c_X8_restBy (zl Z) (zE Z) v3 v1) gX8_leastLeaving_X8_restBy yo_X8_restBy rfl ⟨Nat.le_of_ble_eq_true rfl, Nat.le_of_ble_eq_true rfl⟩ (Nat.le_of_ble_eq_true rfl) rfl rfl rfl dX8_leastLeaving_15 h (fun r4 I2 J3 h => ?_)
    refine g_iload_n X dX8_leastLeaving_18 rfl 2 rfl ?_
    refine g_icmp_ne X (tgt := 24) dX8_leastLeaving_19 (by decide) (fun c5 => ?_) (fun c5 => ?_)
    · have h := h.1 c5
      obtain ⟨x6, ex6⟩ : ∃ y : Int32, y = v3 + 1 := ⟨_, rfl⟩
      have h := h x6 ex6
      refine g_iinc X (q := 3) (v := x6) (lv' := [(3, .int x6), (0, .ref (ea (zE Z) 18)), (1, .int v1), (2, .int v2)]) dX8_leastLeaving_24 rfl (by rw [ex6]; rfl) (by decide) rfl ?_
      refine g_goto X (tgt := 2) dX8_leastLeaving_27 (by decide) ?_
      refine GW.sub (lv' := [(0, .ref (ea (zE Z) 18)), (1, .int v1), (2, .int v2), (3, .int x6)]) [1, 2, 3, 0] rfl ?_
      exact hk2 v1 v2 x6 I2 J3 h
    · have h := h.2 c5
      refine g_iload_n X dX8_leastLeaving_22 rfl 3 rfl ?_
      exact g_iret X R dX8_leastLeaving_23 h
theorem w_X8_leastLeaving_L2 {Z : RT}  (X : Cx Z cX8_leastLeaving 4 RX8 wsX8_leastLeaving rmX8_leastLeaving (some .int)) {Q : Int32 → MI → MJ → Prop} (R : RI Z Q)    : ∀ (n : Nat) (v1 : Int32) (v2 : Int32) (v3 : Int32) (I : MI) (J : MJ) (h : vc_X8_leastLeaving_L2  Q  n v1 v2 v3 I J), GW Z 4 I J 2 [(0, .ref (ea (zE Z) 18)), (1, .int v1), (2, .int v2), (3, .int v3)] [] := by
  intro n
  induction n with
  | zero => intro v1 v2 v3 I J h; exact h.elim
  | succ n ih => intro v1 v2 v3 I J h; exact w_X8_leastLeaving_L2s X R   ih v1 v2 v3 I J h
def vc_X8_leastLeaving (p1 : Int32) (p2 : Int32) (I : MI) (J : MJ) (Q : Int32 → MI → MJ → Prop) : Prop := (∃ n, vc_X8_leastLeaving_L2  Q  n p1 p2 0 I J)
set_option maxRecDepth 100000 in
set_option maxHeartbeats 4000000 in
theorem c_X8_leastLeaving (l : Launch) (E : ET)  (p1 : Int32) (p2 : Int32) : CI l yX8_leastLeaving wsX8_leastLeaving rmX8_leastLeaving E [.ref (ea E 18), .int p1, .int p2] (vc_X8_leastLeaving p1 p2) := by
  refine CI.of (cc := cX8_leastLeaving) (maxL := 4) (own := RX8) (by decide) rfl rfl (Nat.le_of_ble_eq_true rfl) ?_
  intro Z I J Q hE hl X R h
  subst hE
  subst hl
  show GW Z 4 I J 0 [(0, .ref (ea (zE Z) 18)), (1, .int p1), (2, .int p2)] []
  refine g_iconst X (v := 0) dX8_leastLeaving_0 (by decide) ?_
  refine g_istore_n X (lv' := [(3, .int 0), (0, .ref (ea (zE Z) 18)), (1, .int p1), (2, .int p2)]) dX8_leastLeaving_1 rfl (by decide) rfl ?_
  refine GW.sub (lv' := [(0, .ref (ea (zE Z) 18)), (1, .int p1), (2, .int p2), (3, .int 0)]) [1, 2, 3, 0] rfl ?_
  obtain ⟨n, h⟩ := h
  exact w_X8_leastLeaving_L2 X R   n p1 p2 0 I J h
