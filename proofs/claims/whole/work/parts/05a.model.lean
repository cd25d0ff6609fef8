/-! X11_in.in(III)Z -/
def rmX11_in : Room := { frames := 0, cells := 0, slots := 0, locals := 0 }
theorem yo_X11_in : yX11_in.cls = RX11 ∧ yX11_in.cls ≠ "java/lang/invoke/MethodHandle" ∧ yX11_in.cls ≠ "java/lang/invoke/VarHandle" ∧ (parseMethodDescriptor yX11_in.desc).map (fun d => d.parameters.length) = some 3 := by decide +kernel
def vc_X11_in (p0 : Int32) (p1 : Int32) (p2 : Int32) (I : MI) (J : MJ) (Q : Int32 → MI → MJ → Prop) : Prop := ((p0 < p1 → Q 0 I J) ∧ (¬ p0 < p1 → ((p2 < p0 → Q 0 I J) ∧ (¬ p2 < p0 → Q 1 I J))))
set_option maxRecDepth 100000 in
set_option maxHeartbeats 4000000 in
theorem c_X11_in (l : Launch) (E : ET)  (p0 : Int32) (p1 : Int32) (p2 : Int32) : CI l yX11_in wsX11_in rmX11_in E [.int p0, .int p1, .int p2] (vc_X11_in p0 p1 p2) := by
  refine CI.of (cc := cX11_in) (maxL := 3) (own := RX11) (by decide) rfl rfl (Nat.le_of_ble_eq_true rfl) ?_
  intro Z I J Q hE hl X R h
  subst hE
  subst hl
  show GW Z 3 I J 0 [(0, .int p0), (1, .int p1), (2, .int p2)] []
  refine g_iload_n X dX11_in_0 rfl 0 rfl ?_
  refine g_iload_n X dX11_in_1 rfl 1 rfl ?_
  refine g_icmp_lt X (tgt := 14) dX11_in_2 (by decide) (fun c1 => ?_) (fun c1 => ?_)
  · have h := h.1 c1
    refine g_iconst X (v := 0) dX11_in_14 (by decide) ?_
    exact g_zret X R (by decide) dX11_in_15 h
  · have h := h.2 c1
    refine g_iload_n X dX11_in_5 rfl 0 rfl ?_
    refine g_iload_n X dX11_in_6 rfl 2 rfl ?_
    refine g_icmp_gt X (tgt := 14) dX11_in_7 (by decide) (fun c2 => ?_) (fun c2 => ?_)
    · have h := h.1 c2
      refine g_iconst X (v := 0) dX11_in_14 (by decide) ?_
      exact g_zret X R (by decide) dX11_in_15 h
    · have h := h.2 c2
      refine g_iconst X (v := 1) dX11_in_10 (by decide) ?_
      refine g_goto X (tgt := 15) dX11_in_11 (by decide) ?_
      exact g_zret X R (by decide) dX11_in_15 h

/-! X11_has.has(II)Z -/
def rmX11_has : Room := { frames := 0, cells := 0, slots := 0, locals := 0 }
theorem yo_X11_has : yX11_has.cls = RX11 ∧ yX11_has.cls ≠ "java/lang/invoke/MethodHandle" ∧ yX11_has.cls ≠ "java/lang/invoke/VarHandle" ∧ (parseMethodDescriptor yX11_has.desc).map (fun d => d.parameters.length) = some 2 := by decide +kernel
def vc_X11_has (p0 : Int32) (p1 : Int32) (I : MI) (J : MJ) (Q : Int32 → MI → MJ → Prop) : Prop := ((¬ ((p0 >>> (p1 &&& 31)) &&& 1) = 1 → Q 0 I J) ∧ (((p0 >>> (p1 &&& 31)) &&& 1) = 1 → Q 1 I J))
set_option maxRecDepth 100000 in
set_option maxHeartbeats 4000000 in
theorem c_X11_has (l : Launch) (E : ET)  (p0 : Int32) (p1 : Int32) : CI l yX11_has wsX11_has rmX11_has E [.int p0, .int p1] (vc_X11_has p0 p1) := by
  refine CI.of (cc := cX11_has) (maxL := 2) (own := RX11) (by decide) rfl rfl (Nat.le_of_ble_eq_true rfl) ?_
  intro Z I J Q hE hl X R h
  subst hE
  subst hl
  show GW Z 2 I J 0 [(0, .int p0), (1, .int p1)] []
  refine g_iload_n X dX11_has_0 rfl 0 rfl ?_
  refine g_iload_n X dX11_has_1 rfl 1 rfl ?_
  refine g_ishr X dX11_has_2 ?_
  refine g_iconst X (v := 1) dX11_has_3 (by decide) ?_
  refine g_iand X dX11_has_4 ?_
  refine g_iconst X (v := 1) dX11_has_5 (by decide) ?_
  refine g_icmp_ne X (tgt := 13) dX11_has_6 (by decide) (fun c1 => ?_) (fun c1 => ?_)
  · have h := h.1 c1
    refine g_iconst X (v := 0) dX11_has_13 (by decide) ?_
    exact g_zret X R (by decide) dX11_has_14 h
  · have h := h.2 c1
    refine g_iconst X (v := 1) dX11_has_9 (by decide) ?_
    refine g_goto X (tgt := 14) dX11_has_10 (by decide) ?_
    exact g_zret X R (by decide) dX11_has_14 h

/-! X11_begin.begin()V -/
def rmX11_begin : Room := { frames := 0, cells := 0, slots := 0, locals := 0 }
theorem yo_X11_begin : yX11_begin.cls = RX11 ∧ yX11_begin.cls ≠ "java/lang/invoke/MethodHandle" ∧ yX11_begin.cls ≠ "java/lang/invoke/VarHandle" ∧ (parseMethodDescriptor yX11_begin.desc).map (fun d => d.parameters.length) = some 0 := by decide +kernel
theorem kX11_begin_78 : Cond.fieldLink RX11 78 "SnowCourseModel" (TX11 4).2.1 (TX11 4).2.2.1 ∈ wsX11_begin := by decide +kernel
theorem iX11_begin_X11 : ∀ w ∈ u_ws RX11 TX11 39, w ∈ wsX11_begin := by decide +kernel
theorem kX11_begin_31 : Cond.fieldLink RX11 31 "SnowCourseModel" (TX11 22).2.1 (TX11 22).2.2.1 ∈ wsX11_begin := by decide +kernel
theorem kX11_begin_82 : Cond.fieldLink RX11 82 "SnowCourseModel" (TX11 24).2.1 (TX11 24).2.2.1 ∈ wsX11_begin := by decide +kernel
theorem kX11_begin_85 : Cond.fieldLink RX11 85 "SnowCourseModel" (TX11 26).2.1 (TX11 26).2.2.1 ∈ wsX11_begin := by decide +kernel
theorem kX11_begin_88 : Cond.fieldLink RX11 88 "SnowCourseModel" (TX11 28).2.1 (TX11 28).2.2.1 ∈ wsX11_begin := by decide +kernel
theorem kX11_begin_25 : Cond.fieldLink RX11 25 "SnowCourseModel" (TX11 20).2.1 (TX11 20).2.2.1 ∈ wsX11_begin := by decide +kernel
theorem kX11_begin_16 : Cond.fieldLink RX11 16 "SnowCourseModel" (TX11 5).2.1 (TX11 5).2.2.1 ∈ wsX11_begin := by decide +kernel
def vc_X11_begin_L23s  (Q : MI → MJ → Prop)  (k23 : Int32 → MI → MJ → Prop) (v1 : Int32) (I : MI) (J : MJ) : Prop := (((I 87 4) ≤ v1 → vp_in 0 2 ∧ ∀ I3 : MI, I3 = wI I 95 (Int32.toNatClampNeg 0) (vp_nar .boolean 0) → vp_in 1 2 ∧ ∀ I5 : MI, I5 = wI I3 95 (Int32.toNatClampNeg 1) (vp_nar .boolean 0) → ∀ I6 : MI, I6 = wI I5 87 24 0 → ∀ I7 : MI, I7 = wI I6 87 26 0 → ∀ I8 : MI, I8 = wI I7 87 28 0 → Q I8 J) ∧ (¬ (I 87 4) ≤ v1 → vp_in ((3 * v1) + 1) 12 ∧ vp_in v1 20 ∧ ∀ I11 : MI, I11 = wI I 93 (Int32.toNatClampNeg v1) (I 90 (Int32.toNatClampNeg ((3 * v1) + 1))) → ∀ x12 : Int32, x12 = v1 + 1 → k23 x12 I11 J))
def vc_X11_begin_L23  (Q : MI → MJ → Prop)  (n : Nat) : Int32 → MI → MJ → Prop := Nat.rec (fun _ _ _ => False) (fun _ ih => vc_X11_begin_L23s  Q  ih) n
set_option maxRecDepth 100000 in
set_option maxHeartbeats 4000000 in
theorem w_X11_begin_L23s {Z : RT}  (X : Cx Z cX11_begin 2 RX11 wsX11_begin rmX11_begin none) {Q : MI → MJ → Prop} (R : RV Z Q)    {k23 : Int32 → MI → MJ → Prop} (hk23 : ∀ (v1 : Int32) (I : MI) (J : MJ), k23 v1 I J → GW Z 2 I J 23 [(0, .ref (ea (zE Z) 87)), (1, .int v1)] []) (v1 : Int32) (I : MI) (J : MJ) (h : vc_X11_begin_L23s  Q  k23 v1 I J) : GW Z 2 I J 23 [(0, .ref (ea (zE Z) 87)), (1, .int v1)] [] := by
  refine g_iload_n X dX11_begin_23 rfl 1 rfl ?_
  refine g_aload_n X dX11_begin_24 rfl 0 rfl ?_
  refine g_geti X (C := RX11) (T := TX11) (N := 39) (ci := 9) (k := 4) iX11_begin_X11 rfl kX11_begin_78 (Nat.le_of_ble_eq_true rfl) rfl (by decide) rfl rfl dX11_begin_25 ?_
  refine g_icmp_ge X (tgt := 53) dX11_begin_28 (by decide) (fun c1 => ?_) (fun c1 => ?_)
  · have h := h.1 c1
    refine g_aload_n X dX11_begin_53 rfl 0 rfl ?_
    refine g_getr X (C := RX11) (T := TX11) (N := 39) (ci := 9) (k := 22) iX11_begin_X11 rfl kX11_begin_31 (Nat.le_of_ble_eq_true rfl) rfl (by decide) rfl rfl dX11_begin_54 ?_
    refine g_iconst X (v := 0) dX11_begin_57 (by decide) ?_
    refine g_iconst X (v := 0) dX11_begin_58 (by decide) ?_
    obtain ⟨b2, h⟩ := h
    refine g_zast X (Nat.le_of_ble_eq_true rfl) rfl b2 dX11_begin_59 ?_
    refine g_nmI (fun I3 eI3 => ?_)
    have h := h I3 eI3
    refine g_aload_n X dX11_begin_60 rfl 0 rfl ?_
    refine g_getr X (C := RX11) (T := TX11) (N := 39) (ci := 9) (k := 22) iX11_begin_X11 rfl kX11_begin_31 (Nat.le_of_ble_eq_true rfl) rfl (by decide) rfl rfl dX11_begin_61 ?_
    refine g_iconst X (v := 1) dX11_begin_64 (by decide) ?_
    refine g_iconst X (v := 0) dX11_begin_65 (by decide) ?_
    obtain ⟨b4, h⟩ := h
    refine g_zast X (Nat.le_of_ble_eq_true rfl) rfl b4 dX11_begin_66 ?_
    refine g_nmI (fun I5 eI5 => ?_)
    have h := h I5 eI5
    refine g_aload_n X dX11_begin_67 rfl 0 rfl ?_
    refine g_iconst X (v := 0) dX11_begin_68 (by decide) ?_
    refine g_puti X (C := RX11) (T := TX11) (N := 39) (ci := 9) (k := 24) (ty0 := tyX11) iX11_begin_X11 tyX11_ok nmX11 rfl kX11_begin_82 (Nat.le_of_ble_eq_true rfl) rfl (by decide) rfl rfl (by decide +kernel) rfl dX11_begin_69 ?_
    refine g_nmI (fun I6 eI6 => ?_)
    have h := h I6 eI6
    refine g_aload_n X dX11_begin_72 rfl 0 rfl ?_
    refine g_iconst X (v := 0) dX11_begin_73 (by decide) ?_
    refine g_puti X (C := RX11) (T := TX11) (N := 39) (ci := 9) (k := 26) (ty0 := tyX11) iX11_begin_X11 tyX11_ok nmX11 rfl kX11_begin_85 (Nat.le_of_ble_eq_true rfl) rfl (by decide) rfl rfl (by decide +kernel) rfl dX11_begin_74 ?_
    refine g_nmI (fun I7 eI7 => ?_)
    have h := h I7 eI7
    refine g_aload_n X dX11_begin_77 rfl 0 rfl ?_
    refine g_iconst X (v := 0) dX11_begin_78 (by decide) ?_
    refine g_puti X (C := RX11) (T := TX11) (N := 39) (ci := 9) (k := 28) (ty0 := tyX11) iX11_begin_X11 tyX11_ok nmX11 rfl kX11_begin_88 (Nat.le_of_ble_eq_true rfl) rfl (by decide) rfl rfl (by decide +kernel) rfl dX11_begin_79 ?_
    refine g_nmI (fun I8 eI8 => ?_)
    have h := h I8 eI8
    exact g_vret X R dX11_begin_82 h
  · have h := h.2 c1
    refine g_aload_n X dX11_begin_31 rfl 0 rfl ?_
    refine g_getr X (C := RX11) (T := TX11) (N := 39) (ci := 9) (k := 20) iX11_begin_X11 rfl kX11_begin_25 (Nat.le_of_ble_eq_true rfl) rfl (by decide) rfl rfl dX11_begin_32 ?_
    refine g_iload_n X dX11_begin_35 rfl 1 rfl ?_
    refine g_aload_n X dX11_begin_36 rfl 0 rfl ?_
    refine g_getr X (C := RX11) (T := TX11) (N := 39) (ci := 9) (k := 5) iX11_begin_X11 rfl kX11_begin_16 (Nat.le_of_ble_eq_true rfl) rfl (by decide) rfl rfl dX11_begin_37 ?_
    refine g_iconst X (v := 3) dX11_begin_40 (by decide) ?_
    refine g_iload_n X dX11_begin_41 rfl 1 rfl ?_
    refine g_imul X dX11_begin_42 ?_
    refine g_iconst X (v := 1) dX11_begin_43 (by decide) ?_
    refine g_iadd X dX11_begin_44 ?_
    obtain ⟨b9, h⟩ := h
    refine g_iald X (Nat.le_of_ble_eq_true rfl) rfl b9 dX11_begin_45 ?_
    obtain ⟨b10, h⟩ := h
    refine g_iast X (Nat.le_of_ble_eq_true rfl) rfl b10 dX11_begin_46 ?_
    refine g_nmI (fun I11 eI11 => ?_)
    have h := h I11 eI11
    obtain ⟨x12, ex12⟩ : ∃ y : Int32, y = v1 + 1 := ⟨_, rfl⟩
    have h := h x12 ex12
    refine g_iinc X (q := 1) (v := x12) (lv' := [(1, .int x12), (0, .ref (ea (zE Z) 87))]) dX11_begin_47 rfl (by rw [ex12]; rfl) (by decide) rfl ?_
    refine g_goto X (tgt := 23) dX11_begin_50 (by decide) ?_
    refine GW.sub (lv' := [(0, .ref (ea (zE Z) 87)), (1, .int x12)]) [1, 0] rfl ?_
    exact hk23 x12 I11 J h
theorem w_X11_begin_L23 {Z : RT}  (X : Cx Z cX11_begin 2 RX11 wsX11_begin rmX11_begin none) {Q : MI → MJ → Prop} (R : RV Z Q)    : ∀ (n : Nat) (v1 : Int32) (I : MI) (J : MJ) (h : vc_X11_begin_L23  Q  n v1 I J), GW Z 2 I J 23 [(0, .ref (ea (zE Z) 87)), (1, .int v1)] [] := by
  intro n
  induction n with
  | zero => intro v1 I J h; exact h.elim
  | succ n ih => intro v1 I J h; exact w_X11_begin_L23s X R   ih v1 I J h
def vc_X11_begin_L2s  (Q : MI → MJ → Prop)  (k2 : Int32 → MI → MJ → Prop) (v1 : Int32) (I : MI) (J : MJ) : Prop := ((20 ≤ v1 → (∃ n, vc_X11_begin_L23  Q  n 0 I J)) ∧ (¬ 20 ≤ v1 → vp_in v1 20 ∧ ∀ I15 : MI, I15 = wI I 93 (Int32.toNatClampNeg v1) 0 → ∀ x16 : Int32, x16 = v1 + 1 → k2 x16 I15 J))
def vc_X11_begin_L2  (Q : MI → MJ → Prop)  (n : Nat) : Int32 → MI → MJ → Prop := Nat.rec (fun _ _ _ => False) (fun _ ih => vc_X11_begin_L2s  Q  ih) n
set_option maxRecDepth 100000 in
set_option maxHeartbeats 4000000 in
theorem w_X11_begin_L2s {Z : RT}  (X : Cx Z cX11_begin 2 RX11 wsX11_begin rmX11_begin none) {Q : MI → MJ → Prop} (R : RV Z Q)    {k2 : Int32 → MI → MJ → Prop} (hk2 : ∀ (v1 : Int32) (I : MI) (J : MJ), k2 v1 I J → GW Z 2 I J 2 [(0, .ref (ea (zE Z) 87)), (1, .int v1)] []) (v1 : Int32) (I : MI) (J : MJ) (h : vc_X11_begin_L2s  Q  k2 v1 I J) : GW Z 2 I J 2 [(0, .ref (ea (zE Z) 87)), (1, .int v1)] [] := by
  refine g_iload_n X dX11_begin_2 rfl 1 rfl ?_
  refine g_bipush X (v := 20) dX11_begin_3 (by decide) ?_
  refine g_icmp_ge X (tgt := 21) dX11_begin_5 (by decide) (fun c13 => ?_) (fun c13 => ?_)
  · have h := h.1 c13
    refine g_iconst X (v := 0) dX11_begin_21 (by decide) ?_
    refine g_istore_n X (lv' := [(1, .int 0), (0, .ref (ea (zE Z) 87))]) dX11_begin_22 rfl (by decide) rfl ?_
    refine GW.sub (lv' := [(0, .ref (ea (zE Z) 87)), (1, .int 0)]) [1, 0] rfl ?_
    obtain ⟨n, h⟩ := h
    exact w_X11_begin_L23 X R   n 0 I J h
  · have h := h.2 c13
    refine g_aload_n X dX11_begin_8 rfl 0 rfl ?_
    refine g_getr X (C := RX11) (T := TX11) (N := 39) (ci := 9) (k := 20) iX11_begin_X11 rfl kX11_begin_25 (Nat.le_of_ble_eq_true rfl) rfl (by decide) rfl rfl dX11_begin_9 ?_
    refine g_iload_n X dX11_begin_12 rfl 1 rfl ?_
    refine g_iconst X (v := 0) dX11_begin_13 (by decide) ?_
    obtain ⟨b14, h⟩ := h
    refine g_iast X (Nat.le_of_ble_eq_true rfl) rfl b14 dX11_begin_14 ?_
    refine g_nmI (fun I15 eI15 => ?_)
    have h := h I15 eI15
    obtain ⟨x16, ex16⟩ : ∃ y : Int32, y = v1 + 1 := ⟨_, rfl⟩
    have h := h x16 ex16
    refine g_iinc X (q := 1) (v := x16) (lv' := [(1, .int x16), (0, .ref (ea (zE Z) 87))]) dX11_begin_15 rfl (by rw [ex16]; rfl) (by decide) rfl ?_
    refine g_goto X (tgt := 2) dX11_begin_18 (by decide) ?_
    refine GW.sub (lv' := [(0, .ref (ea (zE Z) 87)), (1, .int x16)]) [1, 0] rfl ?_
    exact hk2 x16 I15 J h
theorem w_X11_begin_L2 {Z : RT}  (X : Cx Z cX11_begin 2 RX11 wsX11_begin rmX11_begin none) {Q : MI → MJ → Prop} (R : RV Z Q)    : ∀ (n : Nat) (v1 : Int32) (I : MI) (J : MJ) (h : vc_X11_begin_L2  Q  n v1 I J), GW Z 2 I J 2 [(0, .ref (ea (zE Z) 87)), (1, .int v1)] [] := by
  intro n
  induction n with
  | zero => intro v1 I J h; exact h.elim
  | succ n ih => intro v1 I J h; exact w_X11_begin_L2s X R   ih v1 I J h
def vc_X11_begin  (I : MI) (J : MJ) (Q : MI → MJ → Prop) : Prop := (∃ n, vc_X11_begin_L2  Q  n 0 I J)
set_option maxRecDepth 100000 in
set_option maxHeartbeats 4000000 in
theorem c_X11_begin (l : Launch) (E : ET)   : CV l yX11_begin wsX11_begin rmX11_begin E [.ref (ea E 87)] (vc_X11_begin ) := by
  refine CV.of (cc := cX11_begin) (maxL := 2) (own := RX11) (by decide) rfl rfl (Nat.le_of_ble_eq_true rfl) ?_
  intro Z I J Q hE hl X R h
  subst hE
  subst hl
  show GW Z 2 I J 0 [(0, .ref (ea (zE Z) 87))] []
  refine g_iconst X (v := 0) dX11_begin_0 (by decide) ?_
  refine g_istore_n X (lv' := [(1, .int 0), (0, .ref (ea (zE Z) 87))]) dX11_begin_1 rfl (by decide) rfl ?_
  refine GW.sub (lv' := [(0, .ref (ea (zE Z) 87)), (1, .int 0)]) [1, 0] rfl ?_
  obtain ⟨n, h⟩ := h
  exact w_X11_begin_L2 X R   n 0 I J h

/-! X11_isPlace.isPlace(I)Z -/
def rmX11_isPlace : Room := { frames := 1, cells := 0, slots := 0, locals := 22 }
theorem yo_X11_isPlace : yX11_isPlace.cls = RX11 ∧ yX11_isPlace.cls ≠ "java/lang/invoke/MethodHandle" ∧ yX11_isPlace.cls ≠ "java/lang/invoke/VarHandle" ∧ (parseMethodDescriptor yX11_isPlace.desc).map (fun d => d.parameters.length) = some 1 := by decide +kernel
theorem kX11_isPlace_91 : Cond.fieldLink RX11 91 "SnowCourseModel" (TX11 0).2.1 (TX11 0).2.2.1 ∈ wsX11_isPlace := by decide +kernel
theorem iX11_isPlace_X11 : ∀ w ∈ u_ws RX11 TX11 39, w ∈ wsX11_isPlace := by decide +kernel
def vc_X11_isPlace (p1 : Int32) (I : MI) (J : MJ) (Q : Int32 → MI → MJ → Prop) : Prop := vc_X11_in p1 0 ((I 87 0) - 1) I J (fun (r3 : Int32) (I1 : MI) (J2 : MJ) => ((r3 = 0 ∨ r3 = 1) ∧ Q r3 I1 J2))
set_option maxRecDepth 100000 in
set_option maxHeartbeats 4000000 in
theorem c_X11_isPlace (l : Launch) (E : ET)  (p1 : Int32) : CI l yX11_isPlace wsX11_isPlace rmX11_isPlace E [.ref (ea E 87), .int p1] (vc_X11_isPlace p1) := by
  refine CI.of (cc := cX11_isPlace) (maxL := 2) (own := RX11) (by decide) rfl rfl (Nat.le_of_ble_eq_true rfl) ?_
  intro Z I J Q hE hl X R h
  subst hE
  subst hl
  show GW Z 2 I J 0 [(0, .ref (ea (zE Z) 87)), (1, .int p1)] []
  refine g_iload_n X dX11_isPlace_0 rfl 1 rfl ?_
  refine g_iconst X (v := 0) dX11_isPlace_1 (by decide) ?_
  refine g_aload_n X dX11_isPlace_2 rfl 0 rfl ?_
  refine g_geti X (C := RX11) (T := TX11) (N := 39) (ci := 9) (k := 0) iX11_isPlace_X11 rfl kX11_isPlace_91 (Nat.le_of_ble_eq_true rfl) rfl (by decide) rfl rfl dX11_isPlace_3 ?_
  refine g_iconst X (v := 1) dX11_isPlace_6 (by decide) ?_
  refine g_isub X dX11_isPlace_7 ?_
  refine g_callSI X (As := [.int p1, .int 0, .int ((I 87 0) - 1)]) (rest := []) (c_X11_in (zl Z) (zE Z) p1 0 ((I 87 0) - 1)) gX11_isPlace_X11_in yo_X11_in.2 rfl ⟨Nat.le_of_ble_eq_true rfl, Nat.le_of_ble_eq_true rfl⟩ rfl dX11_isPlace_8 h (fun r3 I1 J2 h => ?_)
  exact g_zret X R h.1 dX11_isPlace_11 h.2

/-! X11_isRoad.isRoad(I)Z -/
def rmX11_isRoad : Room := { frames := 1, cells := 0, slots := 0, locals := 22 }
theorem yo_X11_isRoad : yX11_isRoad.cls = RX11 ∧ yX11_isRoad.cls ≠ "java/lang/invoke/MethodHandle" ∧ yX11_isRoad.cls ≠ "java/lang/invoke/VarHandle" ∧ (parseMethodDescriptor yX11_isRoad.desc).map (fun d => d.parameters.length) = some 1 := by decide +kernel
theorem kX11_isRoad_98 : Cond.fieldLink RX11 98 "SnowCourseModel" (TX11 2).2.1 (TX11 2).2.2.1 ∈ wsX11_isRoad := by decide +kernel
theorem iX11_isRoad_X11 : ∀ w ∈ u_ws RX11 TX11 39, w ∈ wsX11_isRoad := by decide +kernel
def vc_X11_isRoad (p1 : Int32) (I : MI) (J : MJ) (Q : Int32 → MI → MJ → Prop) : Prop := vc_X11_in p1 0 ((I 87 2) - 1) I J (fun (r3 : Int32) (I1 : MI) (J2 : MJ) => ((r3 = 0 ∨ r3 = 1) ∧ Q r3 I1 J2))
set_option maxRecDepth 100000 in
set_option maxHeartbeats 4000000 in
theorem c_X11_isRoad (l : Launch) (E : ET)  (p1 : Int32) : CI l yX11_isRoad wsX11_isRoad rmX11_isRoad E [.ref (ea E 87), .int p1] (vc_X11_isRoad p1) := by
  refine CI.of (cc := cX11_isRoad) (maxL := 2) (own := RX11) (by decide) rfl rfl (Nat.le_of_ble_eq_true rfl) ?_
  intro Z I J Q hE hl X R h
  subst hE
  subst hl
  show GW Z 2 I J 0 [(0, .ref (ea (zE Z) 87)), (1, .int p1)] []
  refine g_iload_n X dX11_isRoad_0 rfl 1 rfl ?_
  refine g_iconst X (v := 0) dX11_isRoad_1 (by decide) ?_
  refine g_aload_n X dX11_isRoad_2 rfl 0 rfl ?_
  refine g_geti X (C := RX11) (T := TX11) (N := 39) (ci := 9) (k := 2) iX11_isRoad_X11 rfl kX11_isRoad_98 (Nat.le_of_ble_eq_true rfl) rfl (by decide) rfl rfl dX11_isRoad_3 ?_
  refine g_iconst X (v := 1) dX11_isRoad_6 (by decide) ?_
  refine g_isub X dX11_isRoad_7 ?_
  refine g_callSI X (As := [.int p1, .int 0, .int ((I 87 2) - 1)]) (rest := []) (c_X11_in (zl Z) (zE Z) p1 0 ((I 87 2) - 1)) gX11_isRoad_X11_in yo_X11_in.2 rfl ⟨Nat.le_of_ble_eq_true rfl, Nat.le_of_ble_eq_true rfl⟩ rfl dX11_isRoad_8 h (fun r3 I1 J2 h => ?_)
  exact g_zret X R h.1 dX11_isRoad_11 h.2

/-! X11_isCart.isCart(I)Z -/
def rmX11_isCart : Room := { frames := 1, cells := 0, slots := 0, locals := 22 }
theorem yo_X11_isCart : yX11_isCart.cls = RX11 ∧ yX11_isCart.cls ≠ "java/lang/invoke/MethodHandle" ∧ yX11_isCart.cls ≠ "java/lang/invoke/VarHandle" ∧ (parseMethodDescriptor yX11_isCart.desc).map (fun d => d.parameters.length) = some 1 := by decide +kernel
theorem kX11_isCart_78 : Cond.fieldLink RX11 78 "SnowCourseModel" (TX11 4).2.1 (TX11 4).2.2.1 ∈ wsX11_isCart := by decide +kernel
theorem iX11_isCart_X11 : ∀ w ∈ u_ws RX11 TX11 39, w ∈ wsX11_isCart := by decide +kernel
def vc_X11_isCart (p1 : Int32) (I : MI) (J : MJ) (Q : Int32 → MI → MJ → Prop) : Prop := vc_X11_in p1 0 ((I 87 4) - 1) I J (fun (r3 : Int32) (I1 : MI) (J2 : MJ) => ((r3 = 0 ∨ r3 = 1) ∧ Q r3 I1 J2))
set_option maxRecDepth 100000 in
set_option maxHeartbeats 4000000 in
theorem c_X11_isCart (l : Launch) (E : ET)  (p1 : Int32) : CI l yX11_isCart wsX11_isCart rmX11_isCart E [.ref (ea E 87), .int p1] (vc_X11_isCart p1) := by
  refine CI.of (cc := cX11_isCart) (maxL := 2) (own := RX11) (by decide) rfl rfl (Nat.le_of_ble_eq_true rfl) ?_
  intro Z I J Q hE hl X R h
  subst hE
  subst hl
  show GW Z 2 I J 0 [(0, .ref (ea (zE Z) 87)), (1, .int p1)] []
  refine g_iload_n X dX11_isCart_0 rfl 1 rfl ?_
  refine g_iconst X (v := 0) dX11_isCart_1 (by decide) ?_
  refine g_aload_n X dX11_isCart_2 rfl 0 rfl ?_
  refine g_geti X (C := RX11) (T := TX11) (N := 39) (ci := 9) (k := 4) iX11_isCart_X11 rfl kX11_isCart_78 (Nat.le_of_ble_eq_true rfl) rfl (by decide) rfl rfl dX11_isCart_3 ?_
  refine g_iconst X (v := 1) dX11_isCart_6 (by decide) ?_
  refine g_isub X dX11_isCart_7 ?_
  refine g_callSI X (As := [.int p1, .int 0, .int ((I 87 4) - 1)]) (rest := []) (c_X11_in (zl Z) (zE Z) p1 0 ((I 87 4) - 1)) gX11_isCart_X11_in yo_X11_in.2 rfl ⟨Nat.le_of_ble_eq_true rfl, Nat.le_of_ble_eq_true rfl⟩ rfl dX11_isCart_8 h (fun r3 I1 J2 h => ?_)
  exact g_zret X R h.1 dX11_isCart_11 h.2

/-! X11_write.write(I)I -/
def rmX11_write : Room := { frames := 1, cells := 0, slots := 0, locals := 22 }
theorem yo_X11_write : yX11_write.cls = RX11 ∧ yX11_write.cls ≠ "java/lang/invoke/MethodHandle" ∧ yX11_write.cls ≠ "java/lang/invoke/VarHandle" ∧ (parseMethodDescriptor yX11_write.desc).map (fun d => d.parameters.length) = some 1 := by decide +kernel
theorem kX11_write_101 : Cond.fieldLink RX11 101 "SnowCourseModel" (TX11 7).2.1 (TX11 7).2.2.1 ∈ wsX11_write := by decide +kernel
theorem iX11_write_X11 : ∀ w ∈ u_ws RX11 TX11 39, w ∈ wsX11_write := by decide +kernel
theorem kX11_write_19 : Cond.fieldLink RX11 19 "SnowCourseModel" (TX11 8).2.1 (TX11 8).2.2.1 ∈ wsX11_write := by decide +kernel
def vc_X11_write (p1 : Int32) (I : MI) (J : MJ) (Q : Int32 → MI → MJ → Prop) : Prop := vc_X11_in p1 0 255 I J (fun (r3 : Int32) (I1 : MI) (J2 : MJ) => ((¬ r3 = 0 → ((¬ (I1 87 7) = 160 → vp_in (I1 87 7) 160 ∧ ∀ I7 : MI, I7 = wI I1 91 (Int32.toNatClampNeg (I1 87 7)) p1 → ∀ I8 : MI, I8 = wI I7 87 7 ((I7 87 7) + 1) → Q (I8 87 7) I8 J2) ∧ ((I1 87 7) = 160 → Q (-5) I1 J2))) ∧ (r3 = 0 → Q (-3) I1 J2)))
set_option maxRecDepth 100000 in
set_option maxHeartbeats 4000000 in
theorem c_X11_write (l : Launch) (E : ET)  (p1 : Int32) : CI l yX11_write wsX11_write rmX11_write E [.ref (ea E 87), .int p1] (vc_X11_write p1) := by
  refine CI.of (cc := cX11_write) (maxL := 2) (own := RX11) (by decide) rfl rfl (Nat.le_of_ble_eq_true rfl) ?_
  intro Z I J Q hE hl X R h
  subst hE
  subst hl
  show GW Z 2 I J 0 [(0, .ref (ea (zE Z) 87)), (1, .int p1)] []
  refine g_iload_n X dX11_write_0 rfl 1 rfl ?_
  refine g_iconst X (v := 0) dX11_write_1 (by decide) ?_
  refine g_sipush X (v := 255) dX11_write_2 (by decide) ?_
  refine g_callSI X (As := [.int p1, .int 0, .int 255]) (rest := []) (c_X11_in (zl Z) (zE Z) p1 0 255) gX11_write_X11_in yo_X11_in.2 rfl ⟨Nat.le_of_ble_eq_true rfl, Nat.le_of_ble_eq_true rfl⟩ rfl dX11_write_5 h (fun r3 I1 J2 h => ?_)
  refine g_if_ne X (tgt := 14) dX11_write_8 (by decide) (fun c4 => ?_) (fun c4 => ?_)
  · have h := h.1 c4
    refine g_aload_n X dX11_write_14 rfl 0 rfl ?_
    refine g_geti X (C := RX11) (T := TX11) (N := 39) (ci := 9) (k := 7) iX11_write_X11 rfl kX11_write_101 (Nat.le_of_ble_eq_true rfl) rfl (by decide) rfl rfl dX11_write_15 ?_
    refine g_sipush X (v := 160) dX11_write_18 (by decide) ?_
    refine g_icmp_ne X (tgt := 27) dX11_write_21 (by decide) (fun c5 => ?_) (fun c5 => ?_)
    · have h := h.1 c5
      refine g_aload_n X dX11_write_27 rfl 0 rfl ?_
      refine g_getr X (C := RX11) (T := TX11) (N := 39) (ci := 9) (k := 8) iX11_write_X11 rfl kX11_write_19 (Nat.le_of_ble_eq_true rfl) rfl (by decide) rfl rfl dX11_write_28 ?_
      refine g_aload_n X dX11_write_31 rfl 0 rfl ?_
      refine g_geti X (C := RX11) (T := TX11) (N := 39) (ci := 9) (k := 7) iX11_write_X11 rfl kX11_write_101 (Nat.le_of_ble_eq_true rfl) rfl (by decide) rfl rfl dX11_write_32 ?_
      refine g_iload_n X dX11_write_35 rfl 1 rfl ?_
      obtain ⟨b6, h⟩ := h
      refine g_iast X (Nat.le_of_ble_eq_true rfl) rfl b6 dX11_write_36 ?_
      refine g_nmI (fun I7 eI7 => ?_)
      have h := h I7 eI7
      refine g_aload_n X dX11_write_37 rfl 0 rfl ?_
      refine g_dup X dX11_write_38 rfl ?_
      refine g_geti X (C := RX11) (T := TX11) (N := 39) (ci := 9) (k := 7) iX11_write_X11 rfl kX11_write_101 (Nat.le_of_ble_eq_true rfl) rfl (by decide) rfl rfl dX11_write_39 ?_
      refine g_iconst X (v := 1) dX11_write_42 (by decide) ?_
      refine g_iadd X dX11_write_43 ?_
      refine g_puti X (C := RX11) (T := TX11) (N := 39) (ci := 9) (k := 7) (ty0 := tyX11) iX11_write_X11 tyX11_ok nmX11 rfl kX11_write_101 (Nat.le_of_ble_eq_true rfl) rfl (by decide) rfl rfl (by decide +kernel) rfl dX11_write_44 ?_
      refine g_nmI (fun I8 eI8 => ?_)
      have h := h I8 eI8
      refine g_aload_n X dX11_write_47 rfl 0 rfl ?_
      refine g_geti X (C := RX11) (T := TX11) (N := 39) (ci := 9) (k := 7) iX11_write_X11 rfl kX11_write_101 (Nat.le_of_ble_eq_true rfl) rfl (by decide) rfl rfl dX11_write_48 ?_
      exact g_iret X R dX11_write_51 h
    · have h := h.2 c5
      refine g_bipush X (v := (-5)) dX11_write_24 (by decide) ?_
      exact g_iret X R dX11_write_26 h
  · have h := h.2 c4
    refine g_bipush X (v := (-3)) dX11_write_11 (by decide) ?_
    exact g_iret X R dX11_write_13 h

/-! X11_erase.erase()I -/
def rmX11_erase : Room := { frames := 0, cells := 0, slots := 0, locals := 0 }
theorem yo_X11_erase : yX11_erase.cls = RX11 ∧ yX11_erase.cls ≠ "java/lang/invoke/MethodHandle" ∧ yX11_erase.cls ≠ "java/lang/invoke/VarHandle" ∧ (parseMethodDescriptor yX11_erase.desc).map (fun d => d.parameters.length) = some 0 := by decide +kernel
theorem kX11_erase_101 : Cond.fieldLink RX11 101 "SnowCourseModel" (TX11 7).2.1 (TX11 7).2.2.1 ∈ wsX11_erase := by decide +kernel
theorem iX11_erase_X11 : ∀ w ∈ u_ws RX11 TX11 39, w ∈ wsX11_erase := by decide +kernel
def vc_X11_erase  (I : MI) (J : MJ) (Q : Int32 → MI → MJ → Prop) : Prop := ∀ x1 : Int32, x1 = I 87 7 → ∀ I2 : MI, I2 = wI I 87 7 0 → Q x1 I2 J
set_option maxRecDepth 100000 in
set_option maxHeartbeats 4000000 in
theorem c_X11_erase (l : Launch) (E : ET)   : CI l yX11_erase wsX11_erase rmX11_erase E [.ref (ea E 87)] (vc_X11_erase ) := by
  refine CI.of (cc := cX11_erase) (maxL := 2) (own := RX11) (by decide) rfl rfl (Nat.le_of_ble_eq_true rfl) ?_
  intro Z I J Q hE hl X R h
  subst hE
  subst hl
  show GW Z 2 I J 0 [(0, .ref (ea (zE Z) 87))] []
  refine g_aload_n X dX11_erase_0 rfl 0 rfl ?_
  refine g_geti X (C := RX11) (T := TX11) (N := 39) (ci := 9) (k := 7) iX11_erase_X11 rfl kX11_erase_101 (Nat.le_of_ble_eq_true rfl) rfl (by decide) rfl rfl dX11_erase_1 ?_
  refine g_topi (fun x1 ex1 => ?_)
  have h := h x1 ex1
  refine g_istore_n X (lv' := [(1, .int x1), (0, .ref (ea (zE Z) 87))]) dX11_erase_4 rfl (by decide) rfl ?_
  refine g_aload_n X dX11_erase_5 rfl 1 rfl ?_
  refine g_iconst X (v := 0) dX11_erase_6 (by decide) ?_
  refine g_puti X (C := RX11) (T := TX11) (N := 39) (ci := 9) (k := 7) (ty0 := tyX11) iX11_erase_X11 tyX11_ok nmX11 rfl kX11_erase_101 (Nat.le_of_ble_eq_true rfl) rfl (by decide) rfl rfl (by decide +kernel) rfl dX11_erase_7 ?_
  refine g_nmI (fun I2 eI2 => ?_)
  have h := h I2 eI2
  refine g_iload_n X dX11_erase_10 rfl 0 rfl ?_
  exact g_iret X R dX11_erase_11 h

/-! X11_nextToken.nextToken()V -/
def rmX11_nextToken : Room := { frames := 1, cells := 0, slots := 0, locals := 22 }
theorem yo_X11_nextToken : yX11_nextToken.cls = RX11 ∧ yX11_nextToken.cls ≠ "java/lang/invoke/MethodHandle" ∧ yX11_nextToken.cls ≠ "java/lang/invoke/VarHandle" ∧ (parseMethodDescriptor yX11_nextToken.desc).map (fun d => d.parameters.length) = some 0 := by decide +kernel
theorem kX11_nextToken_118 : Cond.fieldLink RX11 118 "SnowCourseModel" (TX11 11).2.1 (TX11 11).2.2.1 ∈ wsX11_nextToken := by decide +kernel
theorem iX11_nextToken_X11 : ∀ w ∈ u_ws RX11 TX11 39, w ∈ wsX11_nextToken := by decide +kernel
theorem kX11_nextToken_104 : Cond.fieldLink RX11 104 "SnowCourseModel" (TX11 9).2.1 (TX11 9).2.2.1 ∈ wsX11_nextToken := by decide +kernel
theorem kX11_nextToken_107 : Cond.fieldLink RX11 107 "SnowCourseModel" (TX11 10).2.1 (TX11 10).2.2.1 ∈ wsX11_nextToken := by decide +kernel
theorem kX11_nextToken_c126 : Cond.constantLong RX11 126 (-4) ∈ wsX11_nextToken := by decide +kernel
theorem kX11_nextToken_101 : Cond.fieldLink RX11 101 "SnowCourseModel" (TX11 7).2.1 (TX11 7).2.2.1 ∈ wsX11_nextToken := by decide +kernel
theorem kX11_nextToken_19 : Cond.fieldLink RX11 19 "SnowCourseModel" (TX11 8).2.1 (TX11 8).2.2.1 ∈ wsX11_nextToken := by decide +kernel
theorem kX11_nextToken_c122 : Cond.constantLong RX11 122 (27) ∈ wsX11_nextToken := by decide +kernel
theorem kX11_nextToken_c124 : Cond.constantLong RX11 124 (96) ∈ wsX11_nextToken := by decide +kernel
theorem kX11_nextToken_113 : Cond.fieldLink RX11 113 "SnowCourseModel" (TX11 13).2.1 (TX11 13).2.2.1 ∈ wsX11_nextToken := by decide +kernel
theorem kX11_nextToken_110 : Cond.fieldLink RX11 110 "SnowCourseModel" (TX11 12).2.1 (TX11 12).2.2.1 ∈ wsX11_nextToken := by decide +kernel
theorem kX11_nextToken_c128 : Cond.constantLong RX11 128 (-1) ∈ wsX11_nextToken := by decide +kernel
theorem kX11_nextToken_c130 : Cond.constantLong RX11 130 (-3) ∈ wsX11_nextToken := by decide +kernel
theorem kX11_nextToken_c116 : Cond.constantLong RX11 116 (-2) ∈ wsX11_nextToken := by decide +kernel
def vc_X11_nextToken_B175  (Q : MI → MJ → Prop) (k101 : MI → MJ → Prop) (s1 : Int64) (I : MI) (J : MJ) : Prop := ∀ J1 : MJ, J1 = wJ J 87 11 s1 → ∀ I2 : MI, I2 = wI I 87 9 ((I 87 9) + 1) → k101 I2 J1
set_option maxRecDepth 100000 in
set_option maxHeartbeats 4000000 in
theorem w_X11_nextToken_B175 {Z : RT}  (X : Cx Z cX11_nextToken 1 RX11 wsX11_nextToken rmX11_nextToken none) {Q : MI → MJ → Prop} (R : RV Z Q)  {k101 : MI → MJ → Prop} (hk101 : ∀  (I : MI) (J : MJ), k101  I J → GW Z 1 I J 101 [(0, .ref (ea (zE Z) 87))] []) (s1 : Int64) (I : MI) (J : MJ) (h : vc_X11_nextToken_B175  Q k101 s1 I J) : GW Z 1 I J 175 [(0, .ref (ea (zE Z) 87))] [.long s1, .ref (ea (zE Z) 87)] := by
  refine g_putl X (C := RX11) (T := TX11) (N := 39) (ci := 9) (k := 11) (ty0 := tyX11) iX11_nextToken_X11 tyX11_ok nmX11 rfl kX11_nextToken_118 (Nat.le_of_ble_eq_true rfl) rfl (by decide) rfl rfl (by decide +kernel) rfl dX11_nextToken_175 ?_
  refine g_nmJ (fun J1 eJ1 => ?_)
  have h := h J1 eJ1
  refine g_aload_n X dX11_nextToken_178 rfl 0 rfl ?_
  refine g_dup X dX11_nextToken_179 rfl ?_
  refine g_geti X (C := RX11) (T := TX11) (N := 39) (ci := 9) (k := 9) iX11_nextToken_X11 rfl kX11_nextToken_104 (Nat.le_of_ble_eq_true rfl) rfl (by decide) rfl rfl dX11_nextToken_180 ?_
  refine g_iconst X (v := 1) dX11_nextToken_183 (by decide) ?_
  refine g_iadd X dX11_nextToken_184 ?_
  refine g_puti X (C := RX11) (T := TX11) (N := 39) (ci := 9) (k := 9) (ty0 := tyX11) iX11_nextToken_X11 tyX11_ok nmX11 rfl kX11_nextToken_104 (Nat.le_of_ble_eq_true rfl) rfl (by decide) rfl rfl (by decide +kernel) rfl dX11_nextToken_185 ?_
  refine g_nmI (fun I2 eI2 => ?_)
  have h := h I2 eI2
  refine g_goto X (tgt := 101) dX11_nextToken_188 (by decide) ?_
  refine GW.sub (lv' := [(0, .ref (ea (zE Z) 87))]) [0] rfl ?_
  exact hk101 I2 J1 h
def vc_X11_nextToken_B216  (Q : MI → MJ → Prop)  (s1 : Int64) (I : MI) (J : MJ) : Prop := ∀ J3 : MJ, J3 = wJ J 87 11 s1 → Q I J3
set_option maxRecDepth 100000 in
set_option maxHeartbeats 4000000 in
theorem w_X11_nextToken_B216 {Z : RT}  (X : Cx Z cX11_nextToken 1 RX11 wsX11_nextToken rmX11_nextToken none) {Q : MI → MJ → Prop} (R : RV Z Q)    (s1 : Int64) (I : MI) (J : MJ) (h : vc_X11_nextToken_B216  Q  s1 I J) : GW Z 1 I J 216 [] [.long s1, .ref (ea (zE Z) 87)] := by
  refine g_putl X (C := RX11) (T := TX11) (N := 39) (ci := 9) (k := 11) (ty0 := tyX11) iX11_nextToken_X11 tyX11_ok nmX11 rfl kX11_nextToken_118 (Nat.le_of_ble_eq_true rfl) rfl (by decide) rfl rfl (by decide +kernel) rfl dX11_nextToken_216 ?_
  refine g_nmJ (fun J3 eJ3 => ?_)
  have h := h J3 eJ3
  refine g_goto X (tgt := 394) dX11_nextToken_219 (by decide) ?_
  exact g_vret X R dX11_nextToken_394 h
def vc_X11_nextToken_B191  (Q : MI → MJ → Prop)   (I : MI) (J : MJ) : Prop := ((((I 87 9) - (I 87 10)) ≤ 9 → vc_X11_nextToken_B216  Q  (J 87 11) I J) ∧ (¬ ((I 87 9) - (I 87 10)) ≤ 9 → vc_X11_nextToken_B216  Q  (-4) I J))
set_option maxRecDepth 100000 in
set_option maxHeartbeats 4000000 in
theorem w_X11_nextToken_B191 {Z : RT}  (X : Cx Z cX11_nextToken 1 RX11 wsX11_nextToken rmX11_nextToken none) {Q : MI → MJ → Prop} (R : RV Z Q)     (I : MI) (J : MJ) (h : vc_X11_nextToken_B191  Q   I J) : GW Z 1 I J 191 [(0, .ref (ea (zE Z) 87))] [] := by
  refine g_aload_n X dX11_nextToken_191 rfl 0 rfl ?_
  refine g_aload_n X dX11_nextToken_192 rfl 0 rfl ?_
  refine g_geti X (C := RX11) (T := TX11) (N := 39) (ci := 9) (k := 9) iX11_nextToken_X11 rfl kX11_nextToken_104 (Nat.le_of_ble_eq_true rfl) rfl (by decide) rfl rfl dX11_nextToken_193 ?_
  refine g_aload_n X dX11_nextToken_196 rfl 0 rfl ?_
  refine g_geti X (C := RX11) (T := TX11) (N := 39) (ci := 9) (k := 10) iX11_nextToken_X11 rfl kX11_nextToken_107 (Nat.le_of_ble_eq_true rfl) rfl (by decide) rfl rfl dX11_nextToken_197 ?_
  refine g_isub X dX11_nextToken_200 ?_
  refine g_bipush X (v := 9) dX11_nextToken_201 (by decide) ?_
  refine g_icmp_le X (tgt := 212) dX11_nextToken_203 (by decide) (fun c4 => ?_) (fun c4 => ?_)
  · have h := h.1 c4
    refine g_aload_n X dX11_nextToken_212 rfl 0 rfl ?_
    refine g_getl X (C := RX11) (T := TX11) (N := 39) (ci := 9) (k := 11) iX11_nextToken_X11 rfl kX11_nextToken_118 (Nat.le_of_ble_eq_true rfl) rfl (by decide) rfl rfl dX11_nextToken_213 ?_
    refine GW.sub (lv' := []) [] rfl ?_
    exact w_X11_nextToken_B216 X R   (J 87 11) I J h
  · have h := h.2 c4
    refine g_ldc2 X dX11_nextToken_206 kX11_nextToken_c126 ?_
    refine g_goto X (tgt := 216) dX11_nextToken_209 (by decide) ?_
    refine GW.sub (lv' := []) [] rfl ?_
    exact w_X11_nextToken_B216 X R   (-4) I J h
def vc_X11_nextToken_L101s  (Q : MI → MJ → Prop)  (k101 : MI → MJ → Prop)  (I : MI) (J : MJ) : Prop := (((I 87 7) ≤ (I 87 9) → vc_X11_nextToken_B191  Q  I J) ∧ (¬ (I 87 7) ≤ (I 87 9) → vp_in (I 87 9) 160 ∧ vc_X11_in (I 91 (Int32.toNatClampNeg (I 87 9))) 97 122 I J (fun (r9 : Int32) (I7 : MI) (J8 : MJ) => ((r9 = 0 → vc_X11_nextToken_B191  Q  I7 J8) ∧ (¬ r9 = 0 → ((9 ≤ ((I7 87 9) - (I7 87 10)) → vc_X11_nextToken_B175  Q k101 (-4) I7 J8) ∧ (¬ 9 ≤ ((I7 87 9) - (I7 87 10)) → vp_in (I7 87 9) 160 ∧ vc_X11_nextToken_B175  Q k101 (((27 * (J8 87 11)) + (Int32.toInt64 (I7 91 (Int32.toNatClampNeg (I7 87 9))))) - 96) I7 J8)))))))
def vc_X11_nextToken_L101  (Q : MI → MJ → Prop)  (n : Nat) : MI → MJ → Prop := Nat.rec (fun  _ _ => False) (fun _ ih => vc_X11_nextToken_L101s  Q  ih) n
set_option maxRecDepth 100000 in
set_option maxHeartbeats 4000000 in
theorem w_X11_nextToken_L101s {Z : RT}  (X : Cx Z cX11_nextToken 1 RX11 wsX11_nextToken rmX11_nextToken none) {Q : MI → MJ → Prop} (R : RV Z Q)    {k101 : MI → MJ → Prop} (hk101 : ∀  (I : MI) (J : MJ), k101  I J → GW Z 1 I J 101 [(0, .ref (ea (zE Z) 87))] [])  (I : MI) (J : MJ) (h : vc_X11_nextToken_L101s  Q  k101  I J) : GW Z 1 I J 101 [(0, .ref (ea (zE Z) 87))] [] := by
  refine g_aload_n X dX11_nextToken_101 rfl 0 rfl ?_
  refine g_geti X (C := RX11) (T := TX11) (N := 39) (ci := 9) (k := 9) iX11_nextToken_X11 rfl kX11_nextToken_104 (Nat.le_of_ble_eq_true rfl) rfl (by decide) rfl rfl dX11_nextToken_102 ?_
  refine g_aload_n X dX11_nextToken_105 rfl 0 rfl ?_
  refine g_geti X (C := RX11) (T := TX11) (N := 39) (ci := 9) (k := 7) iX11_nextToken_X11 rfl kX11_nextToken_101 (Nat.le_of_ble_eq_true rfl) rfl (by decide) rfl rfl dX11_nextToken_106 ?_
  refine g_icmp_ge X (tgt := 191) dX11_nextToken_109 (by decide) (fun c5 => ?_) (fun c5 => ?_)
  · have h := h.1 c5
    refine GW.sub (lv' := [(0, .ref (ea (zE Z) 87))]) [0] rfl ?_
    exact w_X11_nextToken_B191 X R   I J h
  · have h := h.2 c5
    refine g_aload_n X dX11_nextToken_112 rfl 0 rfl ?_
    refine g_getr X (C := RX11) (T := TX11) (N := 39) (ci := 9) (k := 8) iX11_nextToken_X11 rfl kX11_nextToken_19 (Nat.le_of_ble_eq_true rfl) rfl (by decide) rfl rfl dX11_nextToken_113 ?_
    refine g_aload_n X dX11_nextToken_116 rfl 0 rfl ?_
    refine g_geti X (C := RX11) (T := TX11) (N := 39) (ci := 9) (k := 9) iX11_nextToken_X11 rfl kX11_nextToken_104 (Nat.le_of_ble_eq_true rfl) rfl (by decide) rfl rfl dX11_nextToken_117 ?_
    obtain ⟨b6, h⟩ := h
    refine g_iald X (Nat.le_of_ble_eq_true rfl) rfl b6 dX11_nextToken_120 ?_
    refine g_bipush X (v := 97) dX11_nextToken_121 (by decide) ?_
    refine g_bipush X (v := 122) dX11_nextToken_123 (by decide) ?_
    refine g_callSI X (As := [.int (I 91 (Int32.toNatClampNeg (I 87 9))), .int 97, .int 122]) (rest := []) (c_X11_in (zl Z) (zE Z) (I 91 (Int32.toNatClampNeg (I 87 9))) 97 122) gX11_nextToken_X11_in yo_X11_in.2 rfl ⟨Nat.le_of_ble_eq_true rfl, Nat.le_of_ble_eq_true rfl⟩ rfl dX11_nextToken_125 h (fun r9 I7 J8 h => ?_)
    refine g_if_eq X (tgt := 191) dX11_nextToken_128 (by decide) (fun c10 => ?_) (fun c10 => ?_)
    · have h := h.1 c10
      refine GW.sub (lv' := [(0, .ref (ea (zE Z) 87))]) [0] rfl ?_
      exact w_X11_nextToken_B191 X R   I7 J8 h
    · have h := h.2 c10
      refine g_aload_n X dX11_nextToken_131 rfl 0 rfl ?_
      refine g_aload_n X dX11_nextToken_132 rfl 0 rfl ?_
      refine g_geti X (C := RX11) (T := TX11) (N := 39) (ci := 9) (k := 9) iX11_nextToken_X11 rfl kX11_nextToken_104 (Nat.le_of_ble_eq_true rfl) rfl (by decide) rfl rfl dX11_nextToken_133 ?_
      refine g_aload_n X dX11_nextToken_136 rfl 0 rfl ?_
      refine g_geti X (C := RX11) (T := TX11) (N := 39) (ci := 9) (k := 10) iX11_nextToken_X11 rfl kX11_nextToken_107 (Nat.le_of_ble_eq_true rfl) rfl (by decide) rfl rfl dX11_nextToken_137 ?_
      refine g_isub X dX11_nextToken_140 ?_
      refine g_bipush X (v := 9) dX11_nextToken_141 (by decide) ?_
      refine g_icmp_ge X (tgt := 172) dX11_nextToken_143 (by decide) (fun c11 => ?_) (fun c11 => ?_)
      · have h := h.1 c11
        refine g_ldc2 X dX11_nextToken_172 kX11_nextToken_c126 ?_
        refine GW.sub (lv' := [(0, .ref (ea (zE Z) 87))]) [0] rfl ?_
        exact w_X11_nextToken_B175 X R  hk101 (-4) I7 J8 h
      · have h := h.2 c11
        refine g_ldc2 X dX11_nextToken_146 kX11_nextToken_c122 ?_
        refine g_aload_n X dX11_nextToken_149 rfl 0 rfl ?_
        refine g_getl X (C := RX11) (T := TX11) (N := 39) (ci := 9) (k := 11) iX11_nextToken_X11 rfl kX11_nextToken_118 (Nat.le_of_ble_eq_true rfl) rfl (by decide) rfl rfl dX11_nextToken_150 ?_
        refine g_lmul X dX11_nextToken_153 ?_
        refine g_aload_n X dX11_nextToken_154 rfl 0 rfl ?_
        refine g_getr X (C := RX11) (T := TX11) (N := 39) (ci := 9) (k := 8) iX11_nextToken_X11 rfl kX11_nextToken_19 (Nat.le_of_ble_eq_true rfl) rfl (by decide) rfl rfl dX11_nextToken_155 ?_
        refine g_aload_n X dX11_nextToken_158 rfl 0 rfl ?_
        refine g_geti X (C := RX11) (T := TX11) (N := 39) (ci := 9) (k := 9) iX11_nextToken_X11 rfl kX11_nextToken_104 (Nat.le_of_ble_eq_true rfl) rfl (by decide) rfl rfl dX11_nextToken_159 ?_
        obtain ⟨b12, h⟩ := h
        refine g_iald X (Nat.le_of_ble_eq_true rfl) rfl b12 dX11_nextToken_162 ?_
        refine g_i2l X dX11_nextToken_163 ?_
        refine g_ladd X dX11_nextToken_164 ?_
        refine g_ldc2 X dX11_nextToken_165 kX11_nextToken_c124 ?_
        refine g_lsub X dX11_nextToken_168 ?_
        refine g_goto X (tgt := 175) dX11_nextToken_169 (by decide) ?_
        refine GW.sub (lv' := [(0, .ref (ea (zE Z) 87))]) [0] rfl ?_
        exact w_X11_nextToken_B175 X R  hk101 (((27 * (J8 87 11)) + (Int32.toInt64 (I7 91 (Int32.toNatClampNeg (I7 87 9))))) - 96) I7 J8 h
theorem w_X11_nextToken_L101 {Z : RT}  (X : Cx Z cX11_nextToken 1 RX11 wsX11_nextToken rmX11_nextToken none) {Q : MI → MJ → Prop} (R : RV Z Q)    : ∀ (n : Nat)  (I : MI) (J : MJ) (h : vc_X11_nextToken_L101  Q  n  I J), GW Z 1 I J 101 [(0, .ref (ea (zE Z) 87))] [] := by
  intro n
  induction n with
  | zero => intro  I J h; exact h.elim
  | succ n ih => intro  I J h; exact w_X11_nextToken_L101s X R   ih  I J h
def vc_X11_nextToken_B307  (Q : MI → MJ → Prop) (k241 : MI → MJ → Prop) (s1 : Int32) (I : MI) (J : MJ) : Prop := ∀ I13 : MI, I13 = wI I 87 13 s1 → ∀ I14 : MI, I14 = wI I13 87 12 ((I13 87 12) + 1) → ∀ I15 : MI, I15 = wI I14 87 9 ((I14 87 9) + 1) → k241 I15 J
set_option maxRecDepth 100000 in
set_option maxHeartbeats 4000000 in
theorem w_X11_nextToken_B307 {Z : RT}  (X : Cx Z cX11_nextToken 1 RX11 wsX11_nextToken rmX11_nextToken none) {Q : MI → MJ → Prop} (R : RV Z Q)  {k241 : MI → MJ → Prop} (hk241 : ∀  (I : MI) (J : MJ), k241  I J → GW Z 1 I J 241 [(0, .ref (ea (zE Z) 87))] []) (s1 : Int32) (I : MI) (J : MJ) (h : vc_X11_nextToken_B307  Q k241 s1 I J) : GW Z 1 I J 307 [(0, .ref (ea (zE Z) 87))] [.int s1, .ref (ea (zE Z) 87)] := by
  refine g_puti X (C := RX11) (T := TX11) (N := 39) (ci := 9) (k := 13) (ty0 := tyX11) iX11_nextToken_X11 tyX11_ok nmX11 rfl kX11_nextToken_113 (Nat.le_of_ble_eq_true rfl) rfl (by decide) rfl rfl (by decide +kernel) rfl dX11_nextToken_307 ?_
  refine g_nmI (fun I13 eI13 => ?_)
  have h := h I13 eI13
  refine g_aload_n X dX11_nextToken_310 rfl 0 rfl ?_
  refine g_dup X dX11_nextToken_311 rfl ?_
  refine g_geti X (C := RX11) (T := TX11) (N := 39) (ci := 9) (k := 12) iX11_nextToken_X11 rfl kX11_nextToken_110 (Nat.le_of_ble_eq_true rfl) rfl (by decide) rfl rfl dX11_nextToken_312 ?_
  refine g_iconst X (v := 1) dX11_nextToken_315 (by decide) ?_
  refine g_iadd X dX11_nextToken_316 ?_
  refine g_puti X (C := RX11) (T := TX11) (N := 39) (ci := 9) (k := 12) (ty0 := tyX11) iX11_nextToken_X11 tyX11_ok nmX11 rfl kX11_nextToken_110 (Nat.le_of_ble_eq_true rfl) rfl (by decide) rfl rfl (by decide +kernel) rfl dX11_nextToken_317 ?_
  refine g_nmI (fun I14 eI14 => ?_)
  have h := h I14 eI14
  refine g_aload_n X dX11_nextToken_320 rfl 0 rfl ?_
  refine g_dup X dX11_nextToken_321 rfl ?_
  refine g_geti X (C := RX11) (T := TX11) (N := 39) (ci := 9) (k := 9) iX11_nextToken_X11 rfl kX11_nextToken_104 (Nat.le_of_ble_eq_true rfl) rfl (by decide) rfl rfl dX11_nextToken_322 ?_
  refine g_iconst X (v := 1) dX11_nextToken_325 (by decide) ?_
  refine g_iadd X dX11_nextToken_326 ?_
  refine g_puti X (C := RX11) (T := TX11) (N := 39) (ci := 9) (k := 9) (ty0 := tyX11) iX11_nextToken_X11 tyX11_ok nmX11 rfl kX11_nextToken_104 (Nat.le_of_ble_eq_true rfl) rfl (by decide) rfl rfl (by decide +kernel) rfl dX11_nextToken_327 ?_
  refine g_nmI (fun I15 eI15 => ?_)
  have h := h I15 eI15
  refine g_goto X (tgt := 241) dX11_nextToken_330 (by decide) ?_
  refine GW.sub (lv' := [(0, .ref (ea (zE Z) 87))]) [0] rfl ?_
  exact hk241 I15 J h
def vc_X11_nextToken_B351  (Q : MI → MJ → Prop)  (s1 : Int64) (I : MI) (J : MJ) : Prop := ∀ J16 : MJ, J16 = wJ J 87 11 s1 → Q I J16
set_option maxRecDepth 100000 in
set_option maxHeartbeats 4000000 in
theorem w_X11_nextToken_B351 {Z : RT}  (X : Cx Z cX11_nextToken 1 RX11 wsX11_nextToken rmX11_nextToken none) {Q : MI → MJ → Prop} (R : RV Z Q)    (s1 : Int64) (I : MI) (J : MJ) (h : vc_X11_nextToken_B351  Q  s1 I J) : GW Z 1 I J 351 [] [.long s1, .ref (ea (zE Z) 87)] := by
  refine g_putl X (C := RX11) (T := TX11) (N := 39) (ci := 9) (k := 11) (ty0 := tyX11) iX11_nextToken_X11 tyX11_ok nmX11 rfl kX11_nextToken_118 (Nat.le_of_ble_eq_true rfl) rfl (by decide) rfl rfl (by decide +kernel) rfl dX11_nextToken_351 ?_
  refine g_nmJ (fun J16 eJ16 => ?_)
  have h := h J16 eJ16
  refine g_goto X (tgt := 394) dX11_nextToken_354 (by decide) ?_
  exact g_vret X R dX11_nextToken_394 h
def vc_X11_nextToken_B333  (Q : MI → MJ → Prop)   (I : MI) (J : MJ) : Prop := (((I 87 12) ≤ 2 → vc_X11_nextToken_B351  Q  (-1) I J) ∧ (¬ (I 87 12) ≤ 2 → vc_X11_nextToken_B351  Q  (-4) I J))
set_option maxRecDepth 100000 in
set_option maxHeartbeats 4000000 in
theorem w_X11_nextToken_B333 {Z : RT}  (X : Cx Z cX11_nextToken 1 RX11 wsX11_nextToken rmX11_nextToken none) {Q : MI → MJ → Prop} (R : RV Z Q)     (I : MI) (J : MJ) (h : vc_X11_nextToken_B333  Q   I J) : GW Z 1 I J 333 [(0, .ref (ea (zE Z) 87))] [] := by
  refine g_aload_n X dX11_nextToken_333 rfl 0 rfl ?_
  refine g_aload_n X dX11_nextToken_334 rfl 0 rfl ?_
  refine g_geti X (C := RX11) (T := TX11) (N := 39) (ci := 9) (k := 12) iX11_nextToken_X11 rfl kX11_nextToken_110 (Nat.le_of_ble_eq_true rfl) rfl (by decide) rfl rfl dX11_nextToken_335 ?_
  refine g_iconst X (v := 2) dX11_nextToken_338 (by decide) ?_
  refine g_icmp_le X (tgt := 348) dX11_nextToken_339 (by decide) (fun c17 => ?_) (fun c17 => ?_)
  · have h := h.1 c17
    refine g_ldc2 X dX11_nextToken_348 kX11_nextToken_c128 ?_
    refine GW.sub (lv' := []) [] rfl ?_
    exact w_X11_nextToken_B351 X R   (-1) I J h
  · have h := h.2 c17
    refine g_ldc2 X dX11_nextToken_342 kX11_nextToken_c126 ?_
    refine g_goto X (tgt := 351) dX11_nextToken_345 (by decide) ?_
    refine GW.sub (lv' := []) [] rfl ?_
    exact w_X11_nextToken_B351 X R   (-4) I J h
def vc_X11_nextToken_L241s  (Q : MI → MJ → Prop)  (k241 : MI → MJ → Prop)  (I : MI) (J : MJ) : Prop := (((I 87 7) ≤ (I 87 9) → vc_X11_nextToken_B333  Q  I J) ∧ (¬ (I 87 7) ≤ (I 87 9) → vp_in (I 87 9) 160 ∧ vc_X11_in (I 91 (Int32.toNatClampNeg (I 87 9))) 48 57 I J (fun (r22 : Int32) (I20 : MI) (J21 : MJ) => ((r22 = 0 → vc_X11_nextToken_B333  Q  I20 J21) ∧ (¬ r22 = 0 → ((2 ≤ (I20 87 12) → vc_X11_nextToken_B307  Q k241 (I20 87 13) I20 J21) ∧ (¬ 2 ≤ (I20 87 12) → vp_in (I20 87 9) 160 ∧ vc_X11_nextToken_B307  Q k241 (((10 * (I20 87 13)) + (I20 91 (Int32.toNatClampNeg (I20 87 9)))) - 48) I20 J21)))))))
def vc_X11_nextToken_L241  (Q : MI → MJ → Prop)  (n : Nat) : MI → MJ → Prop := Nat.rec (fun  _ _ => False) (fun _ ih => vc_X11_nextToken_L241s  Q  ih) n
set_option maxRecDepth 100000 in
set_option maxHeartbeats 4000000 in
theorem w_X11_nextToken_L241s {Z : RT}  (X : Cx Z cX11_nextToken 1 RX11 wsX11_nextToken rmX11_nextToken none) {Q : MI → MJ → Prop} (R : RV Z Q)    {k241 : MI → MJ → Prop} (hk241 : ∀  (I : MI) (J : MJ), k241  I J → GW Z 1 I J 241 [(0, .ref (ea (zE Z) 87))] [])  (I : MI) (J : MJ) (h : vc_X11_nextToken_L241s  Q  k241  I J) : GW Z 1 I J 241 [(0, .ref (ea (zE Z) 87))] [] := by
  refine g_aload_n X dX11_nextToken_241 rfl 0 rfl ?_
  refine g_geti X (C := RX11) (T := TX11) (N := 39) (ci := 9) (k := 9) iX11_nextToken_X11 rfl kX11_nextToken_104 (Nat.le_of_ble_eq_true rfl) rfl (by decide) rfl rfl dX11_nextToken_242 ?_
  refine g_aload_n X dX11_nextToken_245 rfl 0 rfl ?_
  refine g_geti X (C := RX11) (T := TX11) (N := 39) (ci := 9) (k := 7) iX11_nextToken_X11 rfl kX11_nextToken_101 (Nat.le_of_ble_eq_true rfl) rfl (by decide) rfl rfl dX11_nextToken_246 ?_
  refine g_icmp_ge X (tgt := 333) dX11_nextToken_249 (by decide) (fun c18 => ?_) (fun c18 => ?_)
  · have h := h.1 c18
    refine GW.sub (lv' := [(0, .ref (ea (zE Z) 87))]) [0] rfl ?_
    exact w_X11_nextToken_B333 X R   I J h
  · have h := h.2 c18
    refine g_aload_n X dX11_nextToken_252 rfl 0 rfl ?_
    refine g_getr X (C := RX11) (T := TX11) (N := 39) (ci := 9) (k := 8) iX11_nextToken_X11 rfl kX11_nextToken_19 (Nat.le_of_ble_eq_true rfl) rfl (by decide) rfl rfl dX11_nextToken_253 ?_
    refine g_aload_n X dX11_nextToken_256 rfl 0 rfl ?_
    refine g_geti X (C := RX11) (T := TX11) (N := 39) (ci := 9) (k := 9) iX11_nextToken_X11 rfl kX11_nextToken_104 (Nat.le_of_ble_eq_true rfl) rfl (by decide) rfl rfl dX11_nextToken_257 ?_
    obtain ⟨b19, h⟩ := h
    refine g_iald X (Nat.le_of_ble_eq_true rfl) rfl b19 dX11_nextToken_260 ?_
    refine g_bipush X (v := 48) dX11_nextToken_261 (by decide) ?_
    refine g_bipush X (v := 57) dX11_nextToken_263 (by decide) ?_
    refine g_callSI X (As := [.int (I 91 (Int32.toNatClampNeg (I 87 9))), .int 48, .int 57]) (rest := []) (c_X11_in (zl Z) (zE Z) (I 91 (Int32.toNatClampNeg (I 87 9))) 48 57) gX11_nextToken_X11_in yo_X11_in.2 rfl ⟨Nat.le_of_ble_eq_true rfl, Nat.le_of_ble_eq_true rfl⟩ rfl dX11_nextToken_265 h (fun r22 I20 J21 h => ?_)
    refine g_if_eq X (tgt := 333) dX11_nextToken_268 (by decide) (fun c23 => ?_) (fun c23 => ?_)
    · have h := h.1 c23
      refine GW.sub (lv' := [(0, .ref (ea (zE Z) 87))]) [0] rfl ?_
      exact w_X11_nextToken_B333 X R   I20 J21 h
    · have h := h.2 c23
      refine g_aload_n X dX11_nextToken_271 rfl 0 rfl ?_
      refine g_aload_n X dX11_nextToken_272 rfl 0 rfl ?_
      refine g_geti X (C := RX11) (T := TX11) (N := 39) (ci := 9) (k := 12) iX11_nextToken_X11 rfl kX11_nextToken_110 (Nat.le_of_ble_eq_true rfl) rfl (by decide) rfl rfl dX11_nextToken_273 ?_
      refine g_iconst X (v := 2) dX11_nextToken_276 (by decide) ?_
      refine g_icmp_ge X (tgt := 303) dX11_nextToken_277 (by decide) (fun c24 => ?_) (fun c24 => ?_)
      · have h := h.1 c24
        refine g_aload_n X dX11_nextToken_303 rfl 0 rfl ?_
        refine g_geti X (C := RX11) (T := TX11) (N := 39) (ci := 9) (k := 13) iX11_nextToken_X11 rfl kX11_nextToken_113 (Nat.le_of_ble_eq_true rfl) rfl (by decide) rfl rfl dX11_nextToken_304 ?_
        refine GW.sub (lv' := [(0, .ref (ea (zE Z) 87))]) [0] rfl ?_
        exact w_X11_nextToken_B307 X R  hk241 (I20 87 13) I20 J21 h
      · have h := h.2 c24
        refine g_bipush X (v := 10) dX11_nextToken_280 (by decide) ?_
        refine g_aload_n X dX11_nextToken_282 rfl 0 rfl ?_
        refine g_geti X (C := RX11) (T := TX11) (N := 39) (ci := 9) (k := 13) iX11_nextToken_X11 rfl kX11_nextToken_113 (Nat.le_of_ble_eq_true rfl) rfl (by decide) rfl rfl dX11_nextToken_283 ?_
        refine g_imul X dX11_nextToken_286 ?_
        refine g_aload_n X dX11_nextToken_287 rfl 0 rfl ?_
        refine g_getr X (C := RX11) (T := TX11) (N := 39) (ci := 9) (k := 8) iX11_nextToken_X11 rfl kX11_nextToken_19 (Nat.le_of_ble_eq_true rfl) rfl (by decide) rfl rfl dX11_nextToken_288 ?_
        refine g_aload_n X dX11_nextToken_291 rfl 0 rfl ?_
        refine g_geti X (C := RX11) (T := TX11) (N := 39) (ci := 9) (k := 9) iX11_nextToken_X11 rfl kX11_nextToken_104 (Nat.le_of_ble_eq_true rfl) rfl (by decide) rfl rfl dX11_nextToken_292 ?_
        obtain ⟨b25, h⟩ := h
        refine g_iald X (Nat.le_of_ble_eq_true rfl) rfl b25 dX11_nextToken_295 ?_
        refine g_iadd X dX11_nextToken_296 ?_
        refine g_bipush X (v := 48) dX11_nextToken_297 (by decide) ?_
        refine g_isub X dX11_nextToken_299 ?_
        refine g_goto X (tgt := 307) dX11_nextToken_300 (by decide) ?_
        refine GW.sub (lv' := [(0, .ref (ea (zE Z) 87))]) [0] rfl ?_
        exact w_X11_nextToken_B307 X R  hk241 (((10 * (I20 87 13)) + (I20 91 (Int32.toNatClampNeg (I20 87 9)))) - 48) I20 J21 h
theorem w_X11_nextToken_L241 {Z : RT}  (X : Cx Z cX11_nextToken 1 RX11 wsX11_nextToken rmX11_nextToken none) {Q : MI → MJ → Prop} (R : RV Z Q)    : ∀ (n : Nat)  (I : MI) (J : MJ) (h : vc_X11_nextToken_L241  Q  n  I J), GW Z 1 I J 241 [(0, .ref (ea (zE Z) 87))] [] := by
  intro n
  induction n with
  | zero => intro  I J h; exact h.elim
  | succ n ih => intro  I J h; exact w_X11_nextToken_L241s X R   ih  I J h
def vc_X11_nextToken_B381  (Q : MI → MJ → Prop)  (s1 : Int64) (I : MI) (J : MJ) : Prop := ∀ J26 : MJ, J26 = wJ J 87 11 s1 → ∀ I27 : MI, I27 = wI I 87 9 ((I 87 9) + 1) → Q I27 J26
set_option maxRecDepth 100000 in
set_option maxHeartbeats 4000000 in
theorem w_X11_nextToken_B381 {Z : RT}  (X : Cx Z cX11_nextToken 1 RX11 wsX11_nextToken rmX11_nextToken none) {Q : MI → MJ → Prop} (R : RV Z Q)    (s1 : Int64) (I : MI) (J : MJ) (h : vc_X11_nextToken_B381  Q  s1 I J) : GW Z 1 I J 381 [(0, .ref (ea (zE Z) 87))] [.long s1, .ref (ea (zE Z) 87)] := by
  refine g_putl X (C := RX11) (T := TX11) (N := 39) (ci := 9) (k := 11) (ty0 := tyX11) iX11_nextToken_X11 tyX11_ok nmX11 rfl kX11_nextToken_118 (Nat.le_of_ble_eq_true rfl) rfl (by decide) rfl rfl (by decide +kernel) rfl dX11_nextToken_381 ?_
  refine g_nmJ (fun J26 eJ26 => ?_)
  have h := h J26 eJ26
  refine g_aload_n X dX11_nextToken_384 rfl 0 rfl ?_
  refine g_dup X dX11_nextToken_385 rfl ?_
  refine g_geti X (C := RX11) (T := TX11) (N := 39) (ci := 9) (k := 9) iX11_nextToken_X11 rfl kX11_nextToken_104 (Nat.le_of_ble_eq_true rfl) rfl (by decide) rfl rfl dX11_nextToken_386 ?_
  refine g_iconst X (v := 1) dX11_nextToken_389 (by decide) ?_
  refine g_iadd X dX11_nextToken_390 ?_
  refine g_puti X (C := RX11) (T := TX11) (N := 39) (ci := 9) (k := 9) (ty0 := tyX11) iX11_nextToken_X11 tyX11_ok nmX11 rfl kX11_nextToken_104 (Nat.le_of_ble_eq_true rfl) rfl (by decide) rfl rfl (by decide +kernel) rfl dX11_nextToken_391 ?_
  refine g_nmI (fun I27 eI27 => ?_)
  have h := h I27 eI27
  exact g_vret X R dX11_nextToken_394 h
def vc_X11_nextToken_B38  (Q : MI → MJ → Prop)   (I : MI) (J : MJ) : Prop := ∀ I28 : MI, I28 = wI I 87 10 (I 87 9) → ∀ I29 : MI, I29 = wI I28 87 12 0 → ∀ I30 : MI, I30 = wI I29 87 13 0 → ((¬ (I30 87 9) = (I30 87 7) → vp_in (I30 87 9) 160 ∧ vc_X11_in (I30 91 (Int32.toNatClampNeg (I30 87 9))) 97 122 I30 J (fun (r35 : Int32) (I33 : MI) (J34 : MJ) => ((r35 = 0 → vp_in (I33 87 9) 160 ∧ vc_X11_in (I33 91 (Int32.toNatClampNeg (I33 87 9))) 48 57 I33 J34 (fun (r40 : Int32) (I38 : MI) (J39 : MJ) => ((r40 = 0 → vp_in (I38 87 9) 160 ∧ ((¬ (I38 91 (Int32.toNatClampNeg (I38 87 9))) = 59 → vc_X11_nextToken_B381  Q  (-4) I38 J39) ∧ ((I38 91 (Int32.toNatClampNeg (I38 87 9))) = 59 → vc_X11_nextToken_B381  Q  (-3) I38 J39))) ∧ (¬ r40 = 0 → (∃ n, vc_X11_nextToken_L241  Q  n I38 J39))))) ∧ (¬ r35 = 0 → ∀ J44 : MJ, J44 = wJ J34 87 11 0 → (∃ n, vc_X11_nextToken_L101  Q  n I33 J44))))) ∧ ((I30 87 9) = (I30 87 7) → ∀ J45 : MJ, J45 = wJ J 87 11 (-2) → Q I30 J45))
set_option maxRecDepth 100000 in
set_option maxHeartbeats 4000000 in
theorem w_X11_nextToken_B38 {Z : RT}  (X : Cx Z cX11_nextToken 1 RX11 wsX11_nextToken rmX11_nextToken none) {Q : MI → MJ → Prop} (R : RV Z Q)     (I : MI) (J : MJ) (h : vc_X11_nextToken_B38  Q   I J) : GW Z 1 I J 38 [(0, .ref (ea (zE Z) 87))] [] := by
  refine g_aload_n X dX11_nextToken_38 rfl 0 rfl ?_
  refine g_aload_n X dX11_nextToken_39 rfl 0 rfl ?_
  refine g_geti X (C := RX11) (T := TX11) (N := 39) (ci := 9) (k := 9) iX11_nextToken_X11 rfl kX11_nextToken_104 (Nat.le_of_ble_eq_true rfl) rfl (by decide) rfl rfl dX11_nextToken_40 ?_
  refine g_puti X (C := RX11) (T := TX11) (N := 39) (ci := 9) (k := 10) (ty0 := tyX11) iX11_nextToken_X11 tyX11_ok nmX11 rfl kX11_nextToken_107 (Nat.le_of_ble_eq_true rfl) rfl (by decide) rfl rfl (by decide +kernel) rfl dX11_nextToken_43 ?_
  refine g_nmI (fun I28 eI28 => ?_)
  have h := h I28 eI28
  refine g_aload_n X dX11_nextToken_46 rfl 0 rfl ?_
  refine g_iconst X (v := 0) dX11_nextToken_47 (by decide) ?_
  refine g_puti X (C := RX11) (T := TX11) (N := 39) (ci := 9) (k := 12) (ty0 := tyX11) iX11_nextToken_X11 tyX11_ok nmX11 rfl kX11_nextToken_110 (Nat.le_of_ble_eq_true rfl) rfl (by decide) rfl rfl (by decide +kernel) rfl dX11_nextToken_48 ?_
  refine g_nmI (fun I29 eI29 => ?_)
  have h := h I29 eI29
  refine g_aload_n X dX11_nextToken_51 rfl 0 rfl ?_
  refine g_iconst X (v := 0) dX11_nextToken_52 (by decide) ?_
  refine g_puti X (C := RX11) (T := TX11) (N := 39) (ci := 9) (k := 13) (ty0 := tyX11) iX11_nextToken_X11 tyX11_ok nmX11 rfl kX11_nextToken_113 (Nat.le_of_ble_eq_true rfl) rfl (by decide) rfl rfl (by decide +kernel) rfl dX11_nextToken_53 ?_
  refine g_nmI (fun I30 eI30 => ?_)
  have h := h I30 eI30
  refine g_aload_n X dX11_nextToken_56 rfl 0 rfl ?_
  refine g_geti X (C := RX11) (T := TX11) (N := 39) (ci := 9) (k := 9) iX11_nextToken_X11 rfl kX11_nextToken_104 (Nat.le_of_ble_eq_true rfl) rfl (by decide) rfl rfl dX11_nextToken_57 ?_
  refine g_aload_n X dX11_nextToken_60 rfl 0 rfl ?_
  refine g_geti X (C := RX11) (T := TX11) (N := 39) (ci := 9) (k := 7) iX11_nextToken_X11 rfl kX11_nextToken_101 (Nat.le_of_ble_eq_true rfl) rfl (by decide) rfl rfl dX11_nextToken_61 ?_
  refine g_icmp_ne X (tgt := 77) dX11_nextToken_64 (by decide) (fun c31 => ?_) (fun c31 => ?_)
  · have h := h.1 c31
    refine g_aload_n X dX11_nextToken_77 rfl 0 rfl ?_
    refine g_getr X (C := RX11) (T := TX11) (N := 39) (ci := 9) (k := 8) iX11_nextToken_X11 rfl kX11_nextToken_19 (Nat.le_of_ble_eq_true rfl) rfl (by decide) rfl rfl dX11_nextToken_78 ?_
    refine g_aload_n X dX11_nextToken_81 rfl 0 rfl ?_
    refine g_geti X (C := RX11) (T := TX11) (N := 39) (ci := 9) (k := 9) iX11_nextToken_X11 rfl kX11_nextToken_104 (Nat.le_of_ble_eq_true rfl) rfl (by decide) rfl rfl dX11_nextToken_82 ?_
    obtain ⟨b32, h⟩ := h
    refine g_iald X (Nat.le_of_ble_eq_true rfl) rfl b32 dX11_nextToken_85 ?_
    refine g_bipush X (v := 97) dX11_nextToken_86 (by decide) ?_
    refine g_bipush X (v := 122) dX11_nextToken_88 (by decide) ?_
    refine g_callSI X (As := [.int (I30 91 (Int32.toNatClampNeg (I30 87 9))), .int 97, .int 122]) (rest := []) (c_X11_in (zl Z) (zE Z) (I30 91 (Int32.toNatClampNeg (I30 87 9))) 97 122) gX11_nextToken_X11_in yo_X11_in.2 rfl ⟨Nat.le_of_ble_eq_true rfl, Nat.le_of_ble_eq_true rfl⟩ rfl dX11_nextToken_90 h (fun r35 I33 J34 h => ?_)
    refine g_if_eq X (tgt := 222) dX11_nextToken_93 (by decide) (fun c36 => ?_) (fun c36 => ?_)
    · have h := h.1 c36
      refine g_aload_n X dX11_nextToken_222 rfl 0 rfl ?_
      refine g_getr X (C := RX11) (T := TX11) (N := 39) (ci := 9) (k := 8) iX11_nextToken_X11 rfl kX11_nextToken_19 (Nat.le_of_ble_eq_true rfl) rfl (by decide) rfl rfl dX11_nextToken_223 ?_
      refine g_aload_n X dX11_nextToken_226 rfl 0 rfl ?_
      refine g_geti X (C := RX11) (T := TX11) (N := 39) (ci := 9) (k := 9) iX11_nextToken_X11 rfl kX11_nextToken_104 (Nat.le_of_ble_eq_true rfl) rfl (by decide) rfl rfl dX11_nextToken_227 ?_
      obtain ⟨b37, h⟩ := h
      refine g_iald X (Nat.le_of_ble_eq_true rfl) rfl b37 dX11_nextToken_230 ?_
      refine g_bipush X (v := 48) dX11_nextToken_231 (by decide) ?_
      refine g_bipush X (v := 57) dX11_nextToken_233 (by decide) ?_
      refine g_callSI X (As := [.int (I33 91 (Int32.toNatClampNeg (I33 87 9))), .int 48, .int 57]) (rest := []) (c_X11_in (zl Z) (zE Z) (I33 91 (Int32.toNatClampNeg (I33 87 9))) 48 57) gX11_nextToken_X11_in yo_X11_in.2 rfl ⟨Nat.le_of_ble_eq_true rfl, Nat.le_of_ble_eq_true rfl⟩ rfl dX11_nextToken_235 h (fun r40 I38 J39 h => ?_)
      refine g_if_eq X (tgt := 357) dX11_nextToken_238 (by decide) (fun c41 => ?_) (fun c41 => ?_)
      · have h := h.1 c41
        refine g_aload_n X dX11_nextToken_357 rfl 0 rfl ?_
        refine g_aload_n X dX11_nextToken_358 rfl 0 rfl ?_
        refine g_getr X (C := RX11) (T := TX11) (N := 39) (ci := 9) (k := 8) iX11_nextToken_X11 rfl kX11_nextToken_19 (Nat.le_of_ble_eq_true rfl) rfl (by decide) rfl rfl dX11_nextToken_359 ?_
        refine g_aload_n X dX11_nextToken_362 rfl 0 rfl ?_
        refine g_geti X (C := RX11) (T := TX11) (N := 39) (ci := 9) (k := 9) iX11_nextToken_X11 rfl kX11_nextToken_104 (Nat.le_of_ble_eq_true rfl) rfl (by decide) rfl rfl dX11_nextToken_363 ?_
        obtain ⟨b42, h⟩ := h
        refine g_iald X (Nat.le_of_ble_eq_true rfl) rfl b42 dX11_nextToken_366 ?_
        refine g_bipush X (v := 59) dX11_nextToken_367 (by decide) ?_
        refine g_icmp_ne X (tgt := 378) dX11_nextToken_369 (by decide) (fun c43 => ?_) (fun c43 => ?_)
        · have h := h.1 c43
          refine g_ldc2 X dX11_nextToken_378 kX11_nextToken_c126 ?_
          refine GW.sub (lv' := [(0, .ref (ea (zE Z) 87))]) [0] rfl ?_
          exact w_X11_nextToken_B381 X R   (-4) I38 J39 h
        · have h := h.2 c43
          refine g_ldc2 X dX11_nextToken_372 kX11_nextToken_c130 ?_
          refine g_goto X (tgt := 381) dX11_nextToken_375 (by decide) ?_
          refine GW.sub (lv' := [(0, .ref (ea (zE Z) 87))]) [0] rfl ?_
          exact w_X11_nextToken_B381 X R   (-3) I38 J39 h
      · have h := h.2 c41
        refine GW.sub (lv' := [(0, .ref (ea (zE Z) 87))]) [0] rfl ?_
        obtain ⟨n, h⟩ := h
        exact w_X11_nextToken_L241 X R   n I38 J39 h
    · have h := h.2 c36
      refine g_aload_n X dX11_nextToken_96 rfl 0 rfl ?_
      refine g_lconst X (v := 0) dX11_nextToken_97 (by decide) ?_
      refine g_putl X (C := RX11) (T := TX11) (N := 39) (ci := 9) (k := 11) (ty0 := tyX11) iX11_nextToken_X11 tyX11_ok nmX11 rfl kX11_nextToken_118 (Nat.le_of_ble_eq_true rfl) rfl (by decide) rfl rfl (by decide +kernel) rfl dX11_nextToken_98 ?_
      refine g_nmJ (fun J44 eJ44 => ?_)
      have h := h J44 eJ44
      refine GW.sub (lv' := [(0, .ref (ea (zE Z) 87))]) [0] rfl ?_
      obtain ⟨n, h⟩ := h
      exact w_X11_nextToken_L101 X R   n I33 J44 h
  · have h := h.2 c31
    refine g_aload_n X dX11_nextToken_67 rfl 0 rfl ?_
    refine g_ldc2 X dX11_nextToken_68 kX11_nextToken_c116 ?_
    refine g_putl X (C := RX11) (T := TX11) (N := 39) (ci := 9) (k := 11) (ty0 := tyX11) iX11_nextToken_X11 tyX11_ok nmX11 rfl kX11_nextToken_118 (Nat.le_of_ble_eq_true rfl) rfl (by decide) rfl rfl (by decide +kernel) rfl dX11_nextToken_71 ?_
    refine g_nmJ (fun J45 eJ45 => ?_)
    have h := h J45 eJ45
    refine g_goto X (tgt := 394) dX11_nextToken_74 (by decide) ?_
    exact g_vret X R dX11_nextToken_394 h
def vc_X11_nextToken_L0s  (Q : MI → MJ → Prop)  (k0 : MI → MJ → Prop)  (I : MI) (J : MJ) : Prop := (((I 87 7) ≤ (I 87 9) → vc_X11_nextToken_B38  Q  I J) ∧ (¬ (I 87 7) ≤ (I 87 9) → vp_in (I 87 9) 160 ∧ ((¬ (I 91 (Int32.toNatClampNeg (I 87 9))) = 32 → vc_X11_nextToken_B38  Q  I J) ∧ ((I 91 (Int32.toNatClampNeg (I 87 9))) = 32 → ∀ I49 : MI, I49 = wI I 87 9 ((I 87 9) + 1) → k0 I49 J))))
def vc_X11_nextToken_L0  (Q : MI → MJ → Prop)  (n : Nat) : MI → MJ → Prop := Nat.rec (fun  _ _ => False) (fun _ ih => vc_X11_nextToken_L0s  Q  ih) n
set_option maxRecDepth 100000 in
set_option maxHeartbeats 4000000 in
theorem w_X11_nextToken_L0s {Z : RT}  (X : Cx Z cX11_nextToken 1 RX11 wsX11_nextToken rmX11_nextToken none) {Q : MI → MJ → Prop} (R : RV Z Q)    {k0 : MI → MJ → Prop} (hk0 : ∀  (I : MI) (J : MJ), k0  I J → GW Z 1 I J 0 [(0, .ref (ea (zE Z) 87))] [])  (I : MI) (J : MJ) (h : vc_X11_nextToken_L0s  Q  k0  I J) : GW Z 1 I J 0 [(0, .ref (ea (zE Z) 87))] [] := by
  refine g_aload_n X dX11_nextToken_0 rfl 0 rfl ?_
  refine g_geti X (C := RX11) (T := TX11) (N := 39) (ci := 9) (k := 9) iX11_nextToken_X11 rfl kX11_nextToken_104 (Nat.le_of_ble_eq_true rfl) rfl (by decide) rfl rfl dX11_nextToken_1 ?_
  refine g_aload_n X dX11_nextToken_4 rfl 0 rfl ?_
  refine g_geti X (C := RX11) (T := TX11) (N := 39) (ci := 9) (k := 7) iX11_nextToken_X11 rfl kX11_nextToken_101 (Nat.le_of_ble_eq_true rfl) rfl (by decide) rfl rfl dX11_nextToken_5 ?_
  refine g_icmp_ge X (tgt := 38) dX11_nextToken_8 (by decide) (fun c46 => ?_) (fun c46 => ?_)
  · have h := h.1 c46
    refine GW.sub (lv' := [(0, .ref (ea (zE Z) 87))]) [0] rfl ?_
    exact w_X11_nextToken_B38 X R   I J h
  · have h := h.2 c46
    refine g_aload_n X dX11_nextToken_11 rfl 0 rfl ?_
    refine g_getr X (C := RX11) (T := TX11) (N := 39) (ci := 9) (k := 8) iX11_nextToken_X11 rfl kX11_nextToken_19 (Nat.le_of_ble_eq_true rfl) rfl (by decide) rfl rfl dX11_nextToken_12 ?_
    refine g_aload_n X dX11_nextToken_15 rfl 0 rfl ?_
    refine g_geti X (C := RX11) (T := TX11) (N := 39) (ci := 9) (k := 9) iX11_nextToken_X11 rfl kX11_nextToken_104 (Nat.le_of_ble_eq_true rfl) rfl (by decide) rfl rfl dX11_nextToken_16 ?_
    obtain ⟨b47, h⟩ := h
    refine g_iald X (Nat.le_of_ble_eq_true rfl) rfl b47 dX11_nextToken_19 ?_
    refine g_bipush X (v := 32) dX11_nextToken_20 (by decide) ?_
    refine g_icmp_ne X (tgt := 38) dX11_nextToken_22 (by decide) (fun c48 => ?_) (fun c48 => ?_)
    · have h := h.1 c48
      refine GW.sub (lv' := [(0, .ref (ea (zE Z) 87))]) [0] rfl ?_
      exact w_X11_nextToken_B38 X R   I J h
    · have h := h.2 c48
      refine g_aload_n X dX11_nextToken_25 rfl 0 rfl ?_
      refine g_dup X dX11_nextToken_26 rfl ?_
      refine g_geti X (C := RX11) (T := TX11) (N := 39) (ci := 9) (k := 9) iX11_nextToken_X11 rfl kX11_nextToken_104 (Nat.le_of_ble_eq_true rfl) rfl (by decide) rfl rfl dX11_nextToken_27 ?_
      refine g_iconst X (v := 1) dX11_nextToken_30 (by decide) ?_
      refine g_iadd X dX11_nextToken_31 ?_
      refine g_puti X (C := RX11) (T := TX11) (N := 39) (ci := 9) (k := 9) (ty0 := tyX11) iX11_nextToken_X11 tyX11_ok nmX11 rfl kX11_nextToken_104 (Nat.le_of_ble_eq_true rfl) rfl (by decide) rfl rfl (by decide +kernel) rfl dX11_nextToken_32 ?_
      refine g_nmI (fun I49 eI49 => ?_)
      have h := h I49 eI49
      refine g_goto X (tgt := 0) dX11_nextToken_35 (by decide) ?_
      refine GW.sub (lv' := [(0, .ref (ea (zE Z) 87))]) [0] rfl ?_
      exact hk0 I49 J h
theorem w_X11_nextToken_L0 {Z : RT}  (X : Cx Z cX11_nextToken 1 RX11 wsX11_nextToken rmX11_nextToken none) {Q : MI → MJ → Prop} (R : RV Z Q)    : ∀ (n : Nat)  (I : MI) (J : MJ) (h : vc_X11_nextToken_L0  Q  n  I J), GW Z 1 I J 0 [(0, .ref (ea (zE Z) 87))] [] := by
  intro n
  induction n with
  | zero => intro  I J h; exact h.elim
  | succ n ih => intro  I J h; exact w_X11_nextToken_L0s X R   ih  I J h
def vc_X11_nextToken  (I : MI) (J : MJ) (Q : MI → MJ → Prop) : Prop := (∃ n, vc_X11_nextToken_L0  Q  n I J)
set_option maxRecDepth 100000 in
set_option maxHeartbeats 4000000 in
theorem c_X11_nextToken (l : Launch) (E : ET)   : CV l yX11_nextToken wsX11_nextToken rmX11_nextToken E [.ref (ea E 87)] (vc_X11_nextToken ) := by
  refine CV.of (cc := cX11_nextToken) (maxL := 1) (own := RX11) (by decide) rfl rfl (Nat.le_of_ble_eq_true rfl) ?_
  intro Z I J Q hE hl X R h
  subst hE
  subst hl
  show GW Z 1 I J 0 [(0, .ref (ea (zE Z) 87))] []
  refine GW.sub (lv' := [(0, .ref (ea (zE Z) 87))]) [0] rfl ?_
  obtain ⟨n, h⟩ := h
  exact w_X11_nextToken_L0 X R   n I J h

/-! X11_fails.fails()Z -/
def rmX11_fails : Room := { frames := 0, cells := 0, slots := 0, locals := 0 }
theorem yo_X11_fails : yX11_fails.cls = RX11 ∧ yX11_fails.cls ≠ "java/lang/invoke/MethodHandle" ∧ yX11_fails.cls ≠ "java/lang/invoke/VarHandle" ∧ (parseMethodDescriptor yX11_fails.desc).map (fun d => d.parameters.length) = some 0 := by decide +kernel
theorem kX11_fails_107 : Cond.fieldLink RX11 107 "SnowCourseModel" (TX11 10).2.1 (TX11 10).2.2.1 ∈ wsX11_fails := by decide +kernel
theorem iX11_fails_X11 : ∀ w ∈ u_ws RX11 TX11 39, w ∈ wsX11_fails := by decide +kernel
theorem kX11_fails_132 : Cond.fieldLink RX11 132 "SnowCourseModel" (TX11 14).2.1 (TX11 14).2.2.1 ∈ wsX11_fails := by decide +kernel
def vc_X11_fails  (I : MI) (J : MJ) (Q : Int32 → MI → MJ → Prop) : Prop := ∀ I1 : MI, I1 = wI I 87 14 (I 87 10) → Q 0 I1 J
set_option maxRecDepth 100000 in
set_option maxHeartbeats 4000000 in
theorem c_X11_fails (l : Launch) (E : ET)   : CI l yX11_fails wsX11_fails rmX11_fails E [.ref (ea E 87)] (vc_X11_fails ) := by
  refine CI.of (cc := cX11_fails) (maxL := 1) (own := RX11) (by decide) rfl rfl (Nat.le_of_ble_eq_true rfl) ?_
  intro Z I J Q hE hl X R h
  subst hE
  subst hl
  show GW Z 1 I J 0 [(0, .ref (ea (zE Z) 87))] []
  refine g_aload_n X dX11_fails_0 rfl 0 rfl ?_
  refine g_aload_n X dX11_fails_1 rfl 0 rfl ?_
  refine g_geti X (C := RX11) (T := TX11) (N := 39) (ci := 9) (k := 10) iX11_fails_X11 rfl kX11_fails_107 (Nat.le_of_ble_eq_true rfl) rfl (by decide) rfl rfl dX11_fails_2 ?_
  refine g_puti X (C := RX11) (T := TX11) (N := 39) (ci := 9) (k := 14) (ty0 := tyX11) iX11_fails_X11 tyX11_ok nmX11 rfl kX11_fails_132 (Nat.le_of_ble_eq_true rfl) rfl (by decide) rfl rfl (by decide +kernel) rfl dX11_fails_5 ?_
  refine g_nmI (fun I1 eI1 => ?_)
  have h := h I1 eI1
  refine g_iconst X (v := 0) dX11_fails_8 (by decide) ?_
  exact g_zret X R (by decide) dX11_fails_9 h

/-! X11_isNumber.isNumber(III)Z -/
def rmX11_isNumber : Room := { frames := 2, cells := 0, slots := 0, locals := 42 }
theorem yo_X11_isNumber : yX11_isNumber.cls = RX11 ∧ yX11_isNumber.cls ≠ "java/lang/invoke/MethodHandle" ∧ yX11_isNumber.cls ≠ "java/lang/invoke/VarHandle" ∧ (parseMethodDescriptor yX11_isNumber.desc).map (fun d => d.parameters.length) = some 3 := by decide +kernel
theorem kX11_isNumber_118 : Cond.fieldLink RX11 118 "SnowCourseModel" (TX11 11).2.1 (TX11 11).2.2.1 ∈ wsX11_isNumber := by decide +kernel
theorem iX11_isNumber_X11 : ∀ w ∈ u_ws RX11 TX11 39, w ∈ wsX11_isNumber := by decide +kernel
theorem kX11_isNumber_c128 : Cond.constantLong RX11 128 (-1) ∈ wsX11_isNumber := by decide +kernel
theorem kX11_isNumber_113 : Cond.fieldLink RX11 113 "SnowCourseModel" (TX11 13).2.1 (TX11 13).2.2.1 ∈ wsX11_isNumber := by decide +kernel
theorem kX11_isNumber_22 : Cond.fieldLink RX11 22 "SnowCourseModel" (TX11 19).2.1 (TX11 19).2.2.1 ∈ wsX11_isNumber := by decide +kernel
def vc_X11_isNumber_B27  (Q : Int32 → MI → MJ → Prop)   (I : MI) (J : MJ) : Prop := vc_X11_fails  I J (fun (r3 : Int32) (I1 : MI) (J2 : MJ) => ((r3 = 0 ∨ r3 = 1) ∧ Q r3 I1 J2))
set_option maxRecDepth 100000 in
set_option maxHeartbeats 4000000 in
theorem w_X11_isNumber_B27 {Z : RT}  (X : Cx Z cX11_isNumber 4 RX11 wsX11_isNumber rmX11_isNumber (some .boolean)) {Q : Int32 → MI → MJ → Prop} (R : RI Z Q)     (I : MI) (J : MJ) (h : vc_X11_isNumber_B27  Q   I J) : GW Z 4 I J 27 [(0, .ref (ea (zE Z) 87))] [] := by
  refine g_aload_n X dX11_isNumber_27 rfl 0 rfl ?_
  refine g_callVI X (As := []) (rest := []) (T := TX11) (N := 39) (c_X11_fails (zl Z) (zE Z) ) gX11_isNumber_X11_fails yo_X11_fails rfl ⟨Nat.le_of_ble_eq_true rfl, Nat.le_of_ble_eq_true rfl⟩ (Nat.le_of_ble_eq_true rfl) rfl rfl rfl dX11_isNumber_28 h (fun r3 I1 J2 h => ?_)
  exact g_zret X R h.1 dX11_isNumber_31 h.2
def vc_X11_isNumber (p1 : Int32) (p2 : Int32) (p3 : Int32) (I : MI) (J : MJ) (Q : Int32 → MI → MJ → Prop) : Prop := vc_X11_nextToken  I J (fun (I4 : MI) (J5 : MJ) => ((¬ (lg_cmp (J5 87 11) (-1)) = 0 → vc_X11_isNumber_B27  Q  I4 J5) ∧ ((lg_cmp (J5 87 11) (-1)) = 0 → vc_X11_in (I4 87 13) p2 p3 I4 J5 (fun (r9 : Int32) (I7 : MI) (J8 : MJ) => ((¬ r9 = 0 → vp_in p1 56 ∧ ∀ I12 : MI, I12 = wI I7 92 (Int32.toNatClampNeg p1) (I7 87 13) → Q 1 I12 J8) ∧ (r9 = 0 → vc_X11_isNumber_B27  Q  I7 J8))))))
set_option maxRecDepth 100000 in
set_option maxHeartbeats 4000000 in
theorem c_X11_isNumber (l : Launch) (E : ET)  (p1 : Int32) (p2 : Int32) (p3 : Int32) : CI l yX11_isNumber wsX11_isNumber rmX11_isNumber E [.ref (ea E 87), .int p1, .int p2, .int p3] (vc_X11_isNumber p1 p2 p3) := by
  refine CI.of (cc := cX11_isNumber) (maxL := 4) (own := RX11) (by decide) rfl rfl (Nat.le_of_ble_eq_true rfl) ?_
  intro Z I J Q hE hl X R h
  subst hE
  subst hl
  show GW Z 4 I J 0 [(0, .ref (ea (zE Z) 87)), (1, .int p1), (2, .int p2), (3, .int p3)] []
  refine g_aload_n X dX11_isNumber_0 rfl 0 rfl ?_
  refine g_callVV X (As := []) (rest := []) (T := TX11) (N := 39) (c_X11_nextToken (zl Z) (zE Z) ) gX11_isNumber_X11_nextToken yo_X11_nextToken rfl ⟨Nat.le_of_ble_eq_true rfl, Nat.le_of_ble_eq_true rfl⟩ (Nat.le_of_ble_eq_true rfl) rfl rfl rfl dX11_isNumber_1 h (fun  I4 J5 h => ?_)
  refine g_aload_n X dX11_isNumber_4 rfl 0 rfl ?_
  refine g_getl X (C := RX11) (T := TX11) (N := 39) (ci := 9) (k := 11) iX11_isNumber_X11 rfl kX11_isNumber_118 (Nat.le_of_ble_eq_true rfl) rfl (by decide) rfl rfl dX11_isNumber_5 ?_
  refine g_ldc2 X dX11_isNumber_8 kX11_isNumber_c128 ?_
  refine g_lcmp X dX11_isNumber_11 ?_
  refine g_if_ne X (tgt := 27) dX11_isNumber_12 (by decide) (fun c6 => ?_) (fun c6 => ?_)
  · have h := h.1 c6
    refine GW.sub (lv' := [(0, .ref (ea (zE Z) 87))]) [0] rfl ?_
    exact w_X11_isNumber_B27 X R   I4 J5 h
  · have h := h.2 c6
    refine g_aload_n X dX11_isNumber_15 rfl 0 rfl ?_
    refine g_geti X (C := RX11) (T := TX11) (N := 39) (ci := 9) (k := 13) iX11_isNumber_X11 rfl kX11_isNumber_113 (Nat.le_of_ble_eq_true rfl) rfl (by decide) rfl rfl dX11_isNumber_16 ?_
    refine g_iload_n X dX11_isNumber_19 rfl 2 rfl ?_
    refine g_iload_n X dX11_isNumber_20 rfl 3 rfl ?_
    refine g_callSI X (As := [.int (I4 87 13), .int p2, .int p3]) (rest := []) (c_X11_in (zl Z) (zE Z) (I4 87 13) p2 p3) gX11_isNumber_X11_in yo_X11_in.2 rfl ⟨Nat.le_of_ble_eq_true rfl, Nat.le_of_ble_eq_true rfl⟩ rfl dX11_isNumber_21 h (fun r9 I7 J8 h => ?_)
    refine g_if_ne X (tgt := 32) dX11_isNumber_24 (by decide) (fun c10 => ?_) (fun c10 => ?_)
    · have h := h.1 c10
      refine g_aload_n X dX11_isNumber_32 rfl 0 rfl ?_
      refine g_getr X (C := RX11) (T := TX11) (N := 39) (ci := 9) (k := 19) iX11_isNumber_X11 rfl kX11_isNumber_22 (Nat.le_of_ble_eq_true rfl) rfl (by decide) rfl rfl dX11_isNumber_33 ?_
      refine g_iload_n X dX11_isNumber_36 rfl 1 rfl ?_
      refine g_aload_n X dX11_isNumber_37 rfl 0 rfl ?_
      refine g_geti X (C := RX11) (T := TX11) (N := 39) (ci := 9) (k := 13) iX11_isNumber_X11 rfl kX11_isNumber_113 (Nat.le_of_ble_eq_true rfl) rfl (by decide) rfl rfl dX11_isNumber_38 ?_
      obtain ⟨b11, h⟩ := h
      refine g_iast X (Nat.le_of_ble_eq_true rfl) rfl b11 dX11_isNumber_41 ?_
      refine g_nmI (fun I12 eI12 => ?_)
      have h := h I12 eI12
      refine g_iconst X (v := 1) dX11_isNumber_42 (by decide) ?_
      exact g_zret X R (by decide) dX11_isNumber_43 h
    · have h := h.2 c10
      refine GW.sub (lv' := [(0, .ref (ea (zE Z) 87))]) [0] rfl ?_
      exact w_X11_isNumber_B27 X R   I7 J8 h

/-! X11_sortOf.sortOf()I -/
def rmX11_sortOf : Room := { frames := 0, cells := 0, slots := 0, locals := 0 }
theorem yo_X11_sortOf : yX11_sortOf.cls = RX11 ∧ yX11_sortOf.cls ≠ "java/lang/invoke/MethodHandle" ∧ yX11_sortOf.cls ≠ "java/lang/invoke/VarHandle" ∧ (parseMethodDescriptor yX11_sortOf.desc).map (fun d => d.parameters.length) = some 0 := by decide +kernel
theorem kX11_sortOf_118 : Cond.fieldLink RX11 118 "SnowCourseModel" (TX11 11).2.1 (TX11 11).2.2.1 ∈ wsX11_sortOf := by decide +kernel
theorem iX11_sortOf_X11 : ∀ w ∈ u_ws RX11 TX11 39, w ∈ wsX11_sortOf := by decide +kernel
theorem kX11_sortOf_c162 : Cond.constantLong RX11 162 (237307) ∈ wsX11_sortOf := by decide +kernel
theorem kX11_sortOf_c164 : Cond.constantLong RX11 164 (453937) ∈ wsX11_sortOf := by decide +kernel
theorem kX11_sortOf_c166 : Cond.constantLong RX11 166 (60115) ∈ wsX11_sortOf := by decide +kernel
theorem kX11_sortOf_c156 : Cond.constantLong RX11 156 (60284) ∈ wsX11_sortOf := by decide +kernel
theorem kX11_sortOf_c158 : Cond.constantLong RX11 158 (11263) ∈ wsX11_sortOf := by decide +kernel
theorem kX11_sortOf_c160 : Cond.constantLong RX11 160 (7648766554) ∈ wsX11_sortOf := by decide +kernel
theorem kX11_sortOf_c150 : Cond.constantLong RX11 150 (365260) ∈ wsX11_sortOf := by decide +kernel
theorem kX11_sortOf_c152 : Cond.constantLong RX11 152 (276903499) ∈ wsX11_sortOf := by decide +kernel
theorem kX11_sortOf_c154 : Cond.constantLong RX11 154 (796715911) ∈ wsX11_sortOf := by decide +kernel
theorem kX11_sortOf_c142 : Cond.constantLong RX11 142 (38580340318) ∈ wsX11_sortOf := by decide +kernel
theorem kX11_sortOf_c144 : Cond.constantLong RX11 144 (142105060841) ∈ wsX11_sortOf := by decide +kernel
theorem kX11_sortOf_c146 : Cond.constantLong RX11 146 (45948915) ∈ wsX11_sortOf := by decide +kernel
theorem kX11_sortOf_c148 : Cond.constantLong RX11 148 (66175) ∈ wsX11_sortOf := by decide +kernel
def vc_X11_sortOf_B209  (Q : Int32 → MI → MJ → Prop)  (v1 : Int32) (v2 : Int32) (v3 : Int32) (s0 : Int32) (I : MI) (J : MJ) : Prop := ((v1 = (-1) → ((v2 = (-1) → ((v3 = (-1) → Q s0 I J) ∧ (¬ v3 = (-1) → Q v3 I J))) ∧ (¬ v2 = (-1) → Q v2 I J))) ∧ (¬ v1 = (-1) → Q v1 I J))
set_option maxRecDepth 100000 in
set_option maxHeartbeats 4000000 in
theorem w_X11_sortOf_B209 {Z : RT}  (X : Cx Z cX11_sortOf 5 RX11 wsX11_sortOf rmX11_sortOf (some .int)) {Q : Int32 → MI → MJ → Prop} (R : RI Z Q)    (v1 : Int32) (v2 : Int32) (v3 : Int32) (s0 : Int32) (I : MI) (J : MJ) (h : vc_X11_sortOf_B209  Q  v1 v2 v3 s0 I J) : GW Z 5 I J 209 [(1, .int v1), (2, .int v2), (3, .int v3)] [.int s0] := by
  refine g_istore X (lv' := [(4, .int s0), (1, .int v1), (2, .int v2), (3, .int v3)]) dX11_sortOf_209 (by decide) rfl ?_
  refine g_iload_n X dX11_sortOf_211 rfl 1 rfl ?_
  refine g_iconst X (v := (-1)) dX11_sortOf_212 (by decide) ?_
  refine g_icmp_eq X (tgt := 220) dX11_sortOf_213 (by decide) (fun c1 => ?_) (fun c1 => ?_)
  · have h := h.1 c1
    refine g_iload_n X dX11_sortOf_220 rfl 2 rfl ?_
    refine g_iconst X (v := (-1)) dX11_sortOf_221 (by decide) ?_
    refine g_icmp_eq X (tgt := 229) dX11_sortOf_222 (by decide) (fun c2 => ?_) (fun c2 => ?_)
    · have h := h.1 c2
      refine g_iload_n X dX11_sortOf_229 rfl 3 rfl ?_
      refine g_iconst X (v := (-1)) dX11_sortOf_230 (by decide) ?_
      refine g_icmp_eq X (tgt := 238) dX11_sortOf_231 (by decide) (fun c3 => ?_) (fun c3 => ?_)
      · have h := h.1 c3
        refine g_iload X dX11_sortOf_238 0 rfl ?_
        exact g_iret X R dX11_sortOf_240 h
      · have h := h.2 c3
        refine g_iload_n X dX11_sortOf_234 rfl 3 rfl ?_
        refine g_goto X (tgt := 240) dX11_sortOf_235 (by decide) ?_
        exact g_iret X R dX11_sortOf_240 h
    · have h := h.2 c2
      refine g_iload_n X dX11_sortOf_225 rfl 2 rfl ?_
      refine g_goto X (tgt := 240) dX11_sortOf_226 (by decide) ?_
      exact g_iret X R dX11_sortOf_240 h
  · have h := h.2 c1
    refine g_iload_n X dX11_sortOf_216 rfl 1 rfl ?_
    refine g_goto X (tgt := 240) dX11_sortOf_217 (by decide) ?_
    exact g_iret X R dX11_sortOf_240 h
def vc_X11_sortOf_B159  (Q : Int32 → MI → MJ → Prop)  (v1 : Int32) (v2 : Int32) (s0 : Int32) (I : MI) (J : MJ) : Prop := ((¬ (lg_cmp (J 87 11) 237307) = 0 → ((¬ (lg_cmp (J 87 11) 453937) = 0 → ((¬ (lg_cmp (J 87 11) 60115) = 0 → vc_X11_sortOf_B209  Q  v1 v2 s0 (-1) I J) ∧ ((lg_cmp (J 87 11) 60115) = 0 → vc_X11_sortOf_B209  Q  v1 v2 s0 12 I J))) ∧ ((lg_cmp (J 87 11) 453937) = 0 → vc_X11_sortOf_B209  Q  v1 v2 s0 11 I J))) ∧ ((lg_cmp (J 87 11) 237307) = 0 → vc_X11_sortOf_B209  Q  v1 v2 s0 10 I J))
set_option maxRecDepth 100000 in
set_option maxHeartbeats 4000000 in
theorem w_X11_sortOf_B159 {Z : RT}  (X : Cx Z cX11_sortOf 5 RX11 wsX11_sortOf rmX11_sortOf (some .int)) {Q : Int32 → MI → MJ → Prop} (R : RI Z Q)    (v1 : Int32) (v2 : Int32) (s0 : Int32) (I : MI) (J : MJ) (h : vc_X11_sortOf_B159  Q  v1 v2 s0 I J) : GW Z 5 I J 159 [(0, .ref (ea (zE Z) 87)), (1, .int v1), (2, .int v2)] [.int s0] := by
  refine g_istore_n X (lv' := [(3, .int s0), (0, .ref (ea (zE Z) 87)), (1, .int v1), (2, .int v2)]) dX11_sortOf_159 rfl (by decide) rfl ?_
  refine g_aload_n X dX11_sortOf_160 rfl 1 rfl ?_
  refine g_getl X (C := RX11) (T := TX11) (N := 39) (ci := 9) (k := 11) iX11_sortOf_X11 rfl kX11_sortOf_118 (Nat.le_of_ble_eq_true rfl) rfl (by decide) rfl rfl dX11_sortOf_161 ?_
  refine g_ldc2 X dX11_sortOf_164 kX11_sortOf_c162 ?_
  refine g_lcmp X dX11_sortOf_167 ?_
  refine g_if_ne X (tgt := 176) dX11_sortOf_168 (by decide) (fun c4 => ?_) (fun c4 => ?_)
  · have h := h.1 c4
    refine g_aload_n X dX11_sortOf_176 rfl 1 rfl ?_
    refine g_getl X (C := RX11) (T := TX11) (N := 39) (ci := 9) (k := 11) iX11_sortOf_X11 rfl kX11_sortOf_118 (Nat.le_of_ble_eq_true rfl) rfl (by decide) rfl rfl dX11_sortOf_177 ?_
    refine g_ldc2 X dX11_sortOf_180 kX11_sortOf_c164 ?_
    refine g_lcmp X dX11_sortOf_183 ?_
    refine g_if_ne X (tgt := 192) dX11_sortOf_184 (by decide) (fun c5 => ?_) (fun c5 => ?_)
    · have h := h.1 c5
      refine g_aload_n X dX11_sortOf_192 rfl 1 rfl ?_
      refine g_getl X (C := RX11) (T := TX11) (N := 39) (ci := 9) (k := 11) iX11_sortOf_X11 rfl kX11_sortOf_118 (Nat.le_of_ble_eq_true rfl) rfl (by decide) rfl rfl dX11_sortOf_193 ?_
      refine g_ldc2 X dX11_sortOf_196 kX11_sortOf_c166 ?_
      refine g_lcmp X dX11_sortOf_199 ?_
      refine g_if_ne X (tgt := 208) dX11_sortOf_200 (by decide) (fun c6 => ?_) (fun c6 => ?_)
      · have h := h.1 c6
        refine g_iconst X (v := (-1)) dX11_sortOf_208 (by decide) ?_
        refine GW.sub (lv' := [(1, .int v1), (2, .int v2), (3, .int s0)]) [2, 3, 0] rfl ?_
        exact w_X11_sortOf_B209 X R   v1 v2 s0 (-1) I J h
      · have h := h.2 c6
        refine g_bipush X (v := 12) dX11_sortOf_203 (by decide) ?_
        refine g_goto X (tgt := 209) dX11_sortOf_205 (by decide) ?_
        refine GW.sub (lv' := [(1, .int v1), (2, .int v2), (3, .int s0)]) [2, 3, 0] rfl ?_
        exact w_X11_sortOf_B209 X R   v1 v2 s0 12 I J h
    · have h := h.2 c5
      refine g_bipush X (v := 11) dX11_sortOf_187 (by decide) ?_
      refine g_goto X (tgt := 209) dX11_sortOf_189 (by decide) ?_
      refine GW.sub (lv' := [(1, .int v1), (2, .int v2), (3, .int s0)]) [2, 3, 0] rfl ?_
      exact w_X11_sortOf_B209 X R   v1 v2 s0 11 I J h
  · have h := h.2 c4
    refine g_bipush X (v := 10) dX11_sortOf_171 (by decide) ?_
    refine g_goto X (tgt := 209) dX11_sortOf_173 (by decide) ?_
    refine GW.sub (lv' := [(1, .int v1), (2, .int v2), (3, .int s0)]) [2, 3, 0] rfl ?_
    exact w_X11_sortOf_B209 X R   v1 v2 s0 10 I J h
def vc_X11_sortOf_B109  (Q : Int32 → MI → MJ → Prop)  (v1 : Int32) (s0 : Int32) (I : MI) (J : MJ) : Prop := ((¬ (lg_cmp (J 87 11) 60284) = 0 → ((¬ (lg_cmp (J 87 11) 11263) = 0 → ((¬ (lg_cmp (J 87 11) 7648766554) = 0 → vc_X11_sortOf_B159  Q  v1 s0 (-1) I J) ∧ ((lg_cmp (J 87 11) 7648766554) = 0 → vc_X11_sortOf_B159  Q  v1 s0 9 I J))) ∧ ((lg_cmp (J 87 11) 11263) = 0 → vc_X11_sortOf_B159  Q  v1 s0 8 I J))) ∧ ((lg_cmp (J 87 11) 60284) = 0 → vc_X11_sortOf_B159  Q  v1 s0 7 I J))
set_option maxRecDepth 100000 in
set_option maxHeartbeats 4000000 in
theorem w_X11_sortOf_B109 {Z : RT}  (X : Cx Z cX11_sortOf 5 RX11 wsX11_sortOf rmX11_sortOf (some .int)) {Q : Int32 → MI → MJ → Prop} (R : RI Z Q)    (v1 : Int32) (s0 : Int32) (I : MI) (J : MJ) (h : vc_X11_sortOf_B109  Q  v1 s0 I J) : GW Z 5 I J 109 [(0, .ref (ea (zE Z) 87)), (1, .int v1)] [.int s0] := by
  refine g_istore_n X (lv' := [(2, .int s0), (0, .ref (ea (zE Z) 87)), (1, .int v1)]) dX11_sortOf_109 rfl (by decide) rfl ?_
  refine g_aload_n X dX11_sortOf_110 rfl 1 rfl ?_
  refine g_getl X (C := RX11) (T := TX11) (N := 39) (ci := 9) (k := 11) iX11_sortOf_X11 rfl kX11_sortOf_118 (Nat.le_of_ble_eq_true rfl) rfl (by decide) rfl rfl dX11_sortOf_111 ?_
  refine g_ldc2 X dX11_sortOf_114 kX11_sortOf_c156 ?_
  refine g_lcmp X dX11_sortOf_117 ?_
  refine g_if_ne X (tgt := 126) dX11_sortOf_118 (by decide) (fun c7 => ?_) (fun c7 => ?_)
  · have h := h.1 c7
    refine g_aload_n X dX11_sortOf_126 rfl 1 rfl ?_
    refine g_getl X (C := RX11) (T := TX11) (N := 39) (ci := 9) (k := 11) iX11_sortOf_X11 rfl kX11_sortOf_118 (Nat.le_of_ble_eq_true rfl) rfl (by decide) rfl rfl dX11_sortOf_127 ?_
    refine g_ldc2 X dX11_sortOf_130 kX11_sortOf_c158 ?_
    refine g_lcmp X dX11_sortOf_133 ?_
    refine g_if_ne X (tgt := 142) dX11_sortOf_134 (by decide) (fun c8 => ?_) (fun c8 => ?_)
    · have h := h.1 c8
      refine g_aload_n X dX11_sortOf_142 rfl 1 rfl ?_
      refine g_getl X (C := RX11) (T := TX11) (N := 39) (ci := 9) (k := 11) iX11_sortOf_X11 rfl kX11_sortOf_118 (Nat.le_of_ble_eq_true rfl) rfl (by decide) rfl rfl dX11_sortOf_143 ?_
      refine g_ldc2 X dX11_sortOf_146 kX11_sortOf_c160 ?_
      refine g_lcmp X dX11_sortOf_149 ?_
      refine g_if_ne X (tgt := 158) dX11_sortOf_150 (by decide) (fun c9 => ?_) (fun c9 => ?_)
      · have h := h.1 c9
        refine g_iconst X (v := (-1)) dX11_sortOf_158 (by decide) ?_
        refine GW.sub (lv' := [(0, .ref (ea (zE Z) 87)), (1, .int v1), (2, .int s0)]) [1, 2, 0] rfl ?_
        exact w_X11_sortOf_B159 X R   v1 s0 (-1) I J h
      · have h := h.2 c9
        refine g_bipush X (v := 9) dX11_sortOf_153 (by decide) ?_
        refine g_goto X (tgt := 159) dX11_sortOf_155 (by decide) ?_
        refine GW.sub (lv' := [(0, .ref (ea (zE Z) 87)), (1, .int v1), (2, .int s0)]) [1, 2, 0] rfl ?_
        exact w_X11_sortOf_B159 X R   v1 s0 9 I J h
    · have h := h.2 c8
      refine g_bipush X (v := 8) dX11_sortOf_137 (by decide) ?_
      refine g_goto X (tgt := 159) dX11_sortOf_139 (by decide) ?_
      refine GW.sub (lv' := [(0, .ref (ea (zE Z) 87)), (1, .int v1), (2, .int s0)]) [1, 2, 0] rfl ?_
      exact w_X11_sortOf_B159 X R   v1 s0 8 I J h
  · have h := h.2 c7
    refine g_bipush X (v := 7) dX11_sortOf_121 (by decide) ?_
    refine g_goto X (tgt := 159) dX11_sortOf_123 (by decide) ?_
    refine GW.sub (lv' := [(0, .ref (ea (zE Z) 87)), (1, .int v1), (2, .int s0)]) [1, 2, 0] rfl ?_
    exact w_X11_sortOf_B159 X R   v1 s0 7 I J h
def vc_X11_sortOf_B61  (Q : Int32 → MI → MJ → Prop)  (s0 : Int32) (I : MI) (J : MJ) : Prop := ((¬ (lg_cmp (J 87 11) 365260) = 0 → ((¬ (lg_cmp (J 87 11) 276903499) = 0 → ((¬ (lg_cmp (J 87 11) 796715911) = 0 → vc_X11_sortOf_B109  Q  s0 (-1) I J) ∧ ((lg_cmp (J 87 11) 796715911) = 0 → vc_X11_sortOf_B109  Q  s0 6 I J))) ∧ ((lg_cmp (J 87 11) 276903499) = 0 → vc_X11_sortOf_B109  Q  s0 5 I J))) ∧ ((lg_cmp (J 87 11) 365260) = 0 → vc_X11_sortOf_B109  Q  s0 4 I J))
set_option maxRecDepth 100000 in
set_option maxHeartbeats 4000000 in
theorem w_X11_sortOf_B61 {Z : RT}  (X : Cx Z cX11_sortOf 5 RX11 wsX11_sortOf rmX11_sortOf (some .int)) {Q : Int32 → MI → MJ → Prop} (R : RI Z Q)    (s0 : Int32) (I : MI) (J : MJ) (h : vc_X11_sortOf_B61  Q  s0 I J) : GW Z 5 I J 61 [(0, .ref (ea (zE Z) 87))] [.int s0] := by
  refine g_istore_n X (lv' := [(1, .int s0), (0, .ref (ea (zE Z) 87))]) dX11_sortOf_61 rfl (by decide) rfl ?_
  refine g_aload_n X dX11_sortOf_62 rfl 1 rfl ?_
  refine g_getl X (C := RX11) (T := TX11) (N := 39) (ci := 9) (k := 11) iX11_sortOf_X11 rfl kX11_sortOf_118 (Nat.le_of_ble_eq_true rfl) rfl (by decide) rfl rfl dX11_sortOf_63 ?_
  refine g_ldc2 X dX11_sortOf_66 kX11_sortOf_c150 ?_
  refine g_lcmp X dX11_sortOf_69 ?_
  refine g_if_ne X (tgt := 77) dX11_sortOf_70 (by decide) (fun c10 => ?_) (fun c10 => ?_)
  · have h := h.1 c10
    refine g_aload_n X dX11_sortOf_77 rfl 1 rfl ?_
    refine g_getl X (C := RX11) (T := TX11) (N := 39) (ci := 9) (k := 11) iX11_sortOf_X11 rfl kX11_sortOf_118 (Nat.le_of_ble_eq_true rfl) rfl (by decide) rfl rfl dX11_sortOf_78 ?_
    refine g_ldc2 X dX11_sortOf_81 kX11_sortOf_c152 ?_
    refine g_lcmp X dX11_sortOf_84 ?_
    refine g_if_ne X (tgt := 92) dX11_sortOf_85 (by decide) (fun c11 => ?_) (fun c11 => ?_)
    · have h := h.1 c11
      refine g_aload_n X dX11_sortOf_92 rfl 1 rfl ?_
      refine g_getl X (C := RX11) (T := TX11) (N := 39) (ci := 9) (k := 11) iX11_sortOf_X11 rfl kX11_sortOf_118 (Nat.le_of_ble_eq_true rfl) rfl (by decide) rfl rfl dX11_sortOf_93 ?_
      refine g_ldc2 X dX11_sortOf_96 kX11_sortOf_c154 ?_
      refine g_lcmp X dX11_sortOf_99 ?_
      refine g_if_ne X (tgt := 108) dX11_sortOf_100 (by decide) (fun c12 => ?_) (fun c12 => ?_)
      · have h := h.1 c12
        refine g_iconst X (v := (-1)) dX11_sortOf_108 (by decide) ?_
        refine GW.sub (lv' := [(0, .ref (ea (zE Z) 87)), (1, .int s0)]) [1, 0] rfl ?_
        exact w_X11_sortOf_B109 X R   s0 (-1) I J h
      · have h := h.2 c12
        refine g_bipush X (v := 6) dX11_sortOf_103 (by decide) ?_
        refine g_goto X (tgt := 109) dX11_sortOf_105 (by decide) ?_
        refine GW.sub (lv' := [(0, .ref (ea (zE Z) 87)), (1, .int s0)]) [1, 0] rfl ?_
        exact w_X11_sortOf_B109 X R   s0 6 I J h
    · have h := h.2 c11
      refine g_iconst X (v := 5) dX11_sortOf_88 (by decide) ?_
      refine g_goto X (tgt := 109) dX11_sortOf_89 (by decide) ?_
      refine GW.sub (lv' := [(0, .ref (ea (zE Z) 87)), (1, .int s0)]) [1, 0] rfl ?_
      exact w_X11_sortOf_B109 X R   s0 5 I J h
  · have h := h.2 c10
    refine g_iconst X (v := 4) dX11_sortOf_73 (by decide) ?_
    refine g_goto X (tgt := 109) dX11_sortOf_74 (by decide) ?_
    refine GW.sub (lv' := [(0, .ref (ea (zE Z) 87)), (1, .int s0)]) [1, 0] rfl ?_
    exact w_X11_sortOf_B109 X R   s0 4 I J h
def vc_X11_sortOf  (I : MI) (J : MJ) (Q : Int32 → MI → MJ → Prop) : Prop := ((¬ (lg_cmp (J 87 11) 38580340318) = 0 → ((¬ (lg_cmp (J 87 11) 142105060841) = 0 → ((¬ (lg_cmp (J 87 11) 45948915) = 0 → ((¬ (lg_cmp (J 87 11) 66175) = 0 → vc_X11_sortOf_B61  Q  (-1) I J) ∧ ((lg_cmp (J 87 11) 66175) = 0 → vc_X11_sortOf_B61  Q  3 I J))) ∧ ((lg_cmp (J 87 11) 45948915) = 0 → vc_X11_sortOf_B61  Q  2 I J))) ∧ ((lg_cmp (J 87 11) 142105060841) = 0 → vc_X11_sortOf_B61  Q  1 I J))) ∧ ((lg_cmp (J 87 11) 38580340318) = 0 → vc_X11_sortOf_B61  Q  0 I J))
set_option maxRecDepth 100000 in
set_option maxHeartbeats 4000000 in
theorem c_X11_sortOf (l : Launch) (E : ET)   : CI l yX11_sortOf wsX11_sortOf rmX11_sortOf E [.ref (ea E 87)] (vc_X11_sortOf ) := by
  refine CI.of (cc := cX11_sortOf) (maxL := 5) (own := RX11) (by decide) rfl rfl (Nat.le_of_ble_eq_true rfl) ?_
  intro Z I J Q hE hl X R h
  subst hE
  subst hl
  show GW Z 5 I J 0 [(0, .ref (ea (zE Z) 87))] []
  refine g_aload_n X dX11_sortOf_0 rfl 0 rfl ?_
  refine g_getl X (C := RX11) (T := TX11) (N := 39) (ci := 9) (k := 11) iX11_sortOf_X11 rfl kX11_sortOf_118 (Nat.le_of_ble_eq_true rfl) rfl (by decide) rfl rfl dX11_sortOf_1 ?_
  refine g_ldc2 X dX11_sortOf_4 kX11_sortOf_c142 ?_
  refine g_lcmp X dX11_sortOf_7 ?_
  refine g_if_ne X (tgt := 15) dX11_sortOf_8 (by decide) (fun c13 => ?_) (fun c13 => ?_)
  · have h := h.1 c13
    refine g_aload_n X dX11_sortOf_15 rfl 0 rfl ?_
    refine g_getl X (C := RX11) (T := TX11) (N := 39) (ci := 9) (k := 11) iX11_sortOf_X11 rfl kX11_sortOf_118 (Nat.le_of_ble_eq_true rfl) rfl (by decide) rfl rfl dX11_sortOf_16 ?_
    refine g_ldc2 X dX11_sortOf_19 kX11_sortOf_c144 ?_
    refine g_lcmp X dX11_sortOf_22 ?_
    refine g_if_ne X (tgt := 30) dX11_sortOf_23 (by decide) (fun c14 => ?_) (fun c14 => ?_)
    · have h := h.1 c14
      refine g_aload_n X dX11_sortOf_30 rfl 0 rfl ?_
      refine g_getl X (C := RX11) (T := TX11) (N := 39) (ci := 9) (k := 11) iX11_sortOf_X11 rfl kX11_sortOf_118 (Nat.le_of_ble_eq_true rfl) rfl (by decide) rfl rfl dX11_sortOf_31 ?_
      refine g_ldc2 X dX11_sortOf_34 kX11_sortOf_c146 ?_
      refine g_lcmp X dX11_sortOf_37 ?_
      refine g_if_ne X (tgt := 45) dX11_sortOf_38 (by decide) (fun c15 => ?_) (fun c15 => ?_)
      · have h := h.1 c15
        refine g_aload_n X dX11_sortOf_45 rfl 0 rfl ?_
        refine g_getl X (C := RX11) (T := TX11) (N := 39) (ci := 9) (k := 11) iX11_sortOf_X11 rfl kX11_sortOf_118 (Nat.le_of_ble_eq_true rfl) rfl (by decide) rfl rfl dX11_sortOf_46 ?_
        refine g_ldc2 X dX11_sortOf_49 kX11_sortOf_c148 ?_
        refine g_lcmp X dX11_sortOf_52 ?_
        refine g_if_ne X (tgt := 60) dX11_sortOf_53 (by decide) (fun c16 => ?_) (fun c16 => ?_)
        · have h := h.1 c16
          refine g_iconst X (v := (-1)) dX11_sortOf_60 (by decide) ?_
          refine GW.sub (lv' := [(0, .ref (ea (zE Z) 87))]) [0] rfl ?_
          exact w_X11_sortOf_B61 X R   (-1) I J h
        · have h := h.2 c16
          refine g_iconst X (v := 3) dX11_sortOf_56 (by decide) ?_
          refine g_goto X (tgt := 61) dX11_sortOf_57 (by decide) ?_
          refine GW.sub (lv' := [(0, .ref (ea (zE Z) 87))]) [0] rfl ?_
          exact w_X11_sortOf_B61 X R   3 I J h
      · have h := h.2 c15
        refine g_iconst X (v := 2) dX11_sortOf_41 (by decide) ?_
        refine g_goto X (tgt := 61) dX11_sortOf_42 (by decide) ?_
        refine GW.sub (lv' := [(0, .ref (ea (zE Z) 87))]) [0] rfl ?_
        exact w_X11_sortOf_B61 X R   2 I J h
    · have h := h.2 c14
      refine g_iconst X (v := 1) dX11_sortOf_26 (by decide) ?_
      refine g_goto X (tgt := 61) dX11_sortOf_27 (by decide) ?_
      refine GW.sub (lv' := [(0, .ref (ea (zE Z) 87))]) [0] rfl ?_
      exact w_X11_sortOf_B61 X R   1 I J h
  · have h := h.2 c13
    refine g_iconst X (v := 0) dX11_sortOf_11 (by decide) ?_
    refine g_goto X (tgt := 61) dX11_sortOf_12 (by decide) ?_
    refine GW.sub (lv' := [(0, .ref (ea (zE Z) 87))]) [0] rfl ?_
    exact w_X11_sortOf_B61 X R   0 I J h

/-! X11_isRoadLine.isRoadLine(I)Z -/
def rmX11_isRoadLine : Room := { frames := 3, cells := 0, slots := 0, locals := 65 }
theorem yo_X11_isRoadLine : yX11_isRoadLine.cls = RX11 ∧ yX11_isRoadLine.cls ≠ "java/lang/invoke/MethodHandle" ∧ yX11_isRoadLine.cls ≠ "java/lang/invoke/VarHandle" ∧ (parseMethodDescriptor yX11_isRoadLine.desc).map (fun d => d.parameters.length) = some 1 := by decide +kernel
theorem kX11_isRoadLine_168 : Cond.fieldLink RX11 168 "SnowCourseModel" (TX11 17).2.1 (TX11 17).2.2.1 ∈ wsX11_isRoadLine := by decide +kernel
theorem iX11_isRoadLine_X11 : ∀ w ∈ u_ws RX11 TX11 39, w ∈ wsX11_isRoadLine := by decide +kernel
theorem kX11_isRoadLine_171 : Cond.fieldLink RX11 171 "SnowCourseModel" (TX11 16).2.1 (TX11 16).2.2.1 ∈ wsX11_isRoadLine := by decide +kernel
theorem kX11_isRoadLine_22 : Cond.fieldLink RX11 22 "SnowCourseModel" (TX11 19).2.1 (TX11 19).2.2.1 ∈ wsX11_isRoadLine := by decide +kernel
def vc_X11_isRoadLine (p1 : Int32) (I : MI) (J : MJ) (Q : Int32 → MI → MJ → Prop) : Prop := ((¬ (I 87 17) = 9 → ∀ I2 : MI, I2 = wI I 87 17 ((I 87 17) + 1) → vc_X11_isNumber (p1 + 1) 0 ((I2 87 16) - 1) I2 J (fun (r5 : Int32) (I3 : MI) (J4 : MJ) => ((r5 = 0 → Q 0 I3 J4) ∧ (¬ r5 = 0 → vc_X11_isNumber (p1 + 2) 0 ((I3 87 16) - 1) I3 J4 (fun (r9 : Int32) (I7 : MI) (J8 : MJ) => ((¬ r9 = 0 → vp_in (p1 + 1) 56 ∧ vp_in (p1 + 2) 56 ∧ ((¬ (I7 92 (Int32.toNatClampNeg (p1 + 1))) = (I7 92 (Int32.toNatClampNeg (p1 + 2))) → vc_X11_isNumber (p1 + 3) 1 6 I7 J8 (fun (r16 : Int32) (I14 : MI) (J15 : MJ) => ((r16 = 0 ∨ r16 = 1) ∧ Q r16 I14 J15))) ∧ ((I7 92 (Int32.toNatClampNeg (p1 + 1))) = (I7 92 (Int32.toNatClampNeg (p1 + 2))) → vc_X11_fails  I7 J8 (fun (r19 : Int32) (I17 : MI) (J18 : MJ) => ((r19 = 0 ∨ r19 = 1) ∧ Q r19 I17 J18))))) ∧ (r9 = 0 → Q 0 I7 J8))))))) ∧ ((I 87 17) = 9 → vc_X11_fails  I J (fun (r22 : Int32) (I20 : MI) (J21 : MJ) => ((r22 = 0 ∨ r22 = 1) ∧ Q r22 I20 J21))))
set_option maxRecDepth 100000 in
set_option maxHeartbeats 4000000 in
theorem c_X11_isRoadLine (l : Launch) (E : ET)  (p1 : Int32) : CI l yX11_isRoadLine wsX11_isRoadLine rmX11_isRoadLine E [.ref (ea E 87), .int p1] (vc_X11_isRoadLine p1) := by
  refine CI.of (cc := cX11_isRoadLine) (maxL := 2) (own := RX11) (by decide) rfl rfl (Nat.le_of_ble_eq_true rfl) ?_
  intro Z I J Q hE hl X R h
  subst hE
  subst hl
  show GW Z 2 I J 0 [(0, .ref (ea (zE Z) 87)), (1, .int p1)] []
  refine g_aload_n X dX11_isRoadLine_0 rfl 0 rfl ?_
  refine g_geti X (C := RX11) (T := TX11) (N := 39) (ci := 9) (k := 17) iX11_isRoadLine_X11 rfl kX11_isRoadLine_168 (Nat.le_of_ble_eq_true rfl) rfl (by decide) rfl rfl dX11_isRoadLine_1 ?_
  refine g_bipush X (v := 9) dX11_isRoadLine_4 (by decide) ?_
  refine g_icmp_ne X (tgt := 14) dX11_isRoadLine_6 (by decide) (fun c1 => ?_) (fun c1 => ?_)
  · have h := h.1 c1
    refine g_aload_n X dX11_isRoadLine_14 rfl 0 rfl ?_
    refine g_dup X dX11_isRoadLine_15 rfl ?_
    refine g_geti X (C := RX11) (T := TX11) (N := 39) (ci := 9) (k := 17) iX11_isRoadLine_X11 rfl kX11_isRoadLine_168 (Nat.le_of_ble_eq_true rfl) rfl (by decide) rfl rfl dX11_isRoadLine_16 ?_
    refine g_iconst X (v := 1) dX11_isRoadLine_19 (by decide) ?_
    refine g_iadd X dX11_isRoadLine_20 ?_
    refine g_puti X (C := RX11) (T := TX11) (N := 39) (ci := 9) (k := 17) (ty0 := tyX11) iX11_isRoadLine_X11 tyX11_ok nmX11 rfl kX11_isRoadLine_168 (Nat.le_of_ble_eq_true rfl) rfl (by decide) rfl rfl (by decide +kernel) rfl dX11_isRoadLine_21 ?_
    refine g_nmI (fun I2 eI2 => ?_)
    have h := h I2 eI2
    refine g_aload_n X dX11_isRoadLine_24 rfl 0 rfl ?_
    refine g_iload_n X dX11_isRoadLine_25 rfl 1 rfl ?_
    refine g_iconst X (v := 1) dX11_isRoadLine_26 (by decide) ?_
    refine g_iadd X dX11_isRoadLine_27 ?_
    refine g_iconst X (v := 0) dX11_isRoadLine_28 (by decide) ?_
    refine g_aload_n X dX11_isRoadLine_29 rfl 0 rfl ?_
    refine g_geti X (C := RX11) (T := TX11) (N := 39) (ci := 9) (k := 16) iX11_isRoadLine_X11 rfl kX11_isRoadLine_171 (Nat.le_of_ble_eq_true rfl) rfl (by decide) rfl rfl dX11_isRoadLine_30 ?_
    refine g_iconst X (v := 1) dX11_isRoadLine_33 (by decide) ?_
    refine g_isub X dX11_isRoadLine_34 ?_
    refine g_callVI X (As := [.int (p1 + 1), .int 0, .int ((I2 87 16) - 1)]) (rest := []) (T := TX11) (N := 39) (c_X11_isNumber (zl Z) (zE Z) (p1 + 1) 0 ((I2 87 16) - 1)) gX11_isRoadLine_X11_isNumber yo_X11_isNumber rfl ⟨Nat.le_of_ble_eq_true rfl, Nat.le_of_ble_eq_true rfl⟩ (Nat.le_of_ble_eq_true rfl) rfl rfl rfl dX11_isRoadLine_35 h (fun r5 I3 J4 h => ?_)
    refine g_if_eq X (tgt := 58) dX11_isRoadLine_38 (by decide) (fun c6 => ?_) (fun c6 => ?_)
    · have h := h.1 c6
      refine g_iconst X (v := 0) dX11_isRoadLine_58 (by decide) ?_
      exact g_zret X R (by decide) dX11_isRoadLine_59 h
    · have h := h.2 c6
      refine g_aload_n X dX11_isRoadLine_41 rfl 0 rfl ?_
      refine g_iload_n X dX11_isRoadLine_42 rfl 1 rfl ?_
      refine g_iconst X (v := 2) dX11_isRoadLine_43 (by decide) ?_
      refine g_iadd X dX11_isRoadLine_44 ?_
      refine g_iconst X (v := 0) dX11_isRoadLine_45 (by decide) ?_
      refine g_aload_n X dX11_isRoadLine_46 rfl 0 rfl ?_
      refine g_geti X (C := RX11) (T := TX11) (N := 39) (ci := 9) (k := 16) iX11_isRoadLine_X11 rfl kX11_isRoadLine_171 (Nat.le_of_ble_eq_true rfl) rfl (by decide) rfl rfl dX11_isRoadLine_47 ?_
      refine g_iconst X (v := 1) dX11_isRoadLine_50 (by decide) ?_
      refine g_isub X dX11_isRoadLine_51 ?_
      refine g_callVI X (As := [.int (p1 + 2), .int 0, .int ((I3 87 16) - 1)]) (rest := []) (T := TX11) (N := 39) (c_X11_isNumber (zl Z) (zE Z) (p1 + 2) 0 ((I3 87 16) - 1)) gX11_isRoadLine_X11_isNumber yo_X11_isNumber rfl ⟨Nat.le_of_ble_eq_true rfl, Nat.le_of_ble_eq_true rfl⟩ (Nat.le_of_ble_eq_true rfl) rfl rfl rfl dX11_isRoadLine_52 h (fun r9 I7 J8 h => ?_)
      refine g_if_ne X (tgt := 60) dX11_isRoadLine_55 (by decide) (fun c10 => ?_) (fun c10 => ?_)
      · have h := h.1 c10
        refine g_aload_n X dX11_isRoadLine_60 rfl 0 rfl ?_
        refine g_getr X (C := RX11) (T := TX11) (N := 39) (ci := 9) (k := 19) iX11_isRoadLine_X11 rfl kX11_isRoadLine_22 (Nat.le_of_ble_eq_true rfl) rfl (by decide) rfl rfl dX11_isRoadLine_61 ?_
        refine g_iload_n X dX11_isRoadLine_64 rfl 1 rfl ?_
        refine g_iconst X (v := 1) dX11_isRoadLine_65 (by decide) ?_
        refine g_iadd X dX11_isRoadLine_66 ?_
        obtain ⟨b11, h⟩ := h
        refine g_iald X (Nat.le_of_ble_eq_true rfl) rfl b11 dX11_isRoadLine_67 ?_
        refine g_aload_n X dX11_isRoadLine_68 rfl 0 rfl ?_
        refine g_getr X (C := RX11) (T := TX11) (N := 39) (ci := 9) (k := 19) iX11_isRoadLine_X11 rfl kX11_isRoadLine_22 (Nat.le_of_ble_eq_true rfl) rfl (by decide) rfl rfl dX11_isRoadLine_69 ?_
        refine g_iload_n X dX11_isRoadLine_72 rfl 1 rfl ?_
        refine g_iconst X (v := 2) dX11_isRoadLine_73 (by decide) ?_
        refine g_iadd X dX11_isRoadLine_74 ?_
        obtain ⟨b12, h⟩ := h
        refine g_iald X (Nat.le_of_ble_eq_true rfl) rfl b12 dX11_isRoadLine_75 ?_
        refine g_icmp_ne X (tgt := 86) dX11_isRoadLine_76 (by decide) (fun c13 => ?_) (fun c13 => ?_)
        · have h := h.1 c13
          refine g_aload_n X dX11_isRoadLine_86 rfl 0 rfl ?_
          refine g_iload_n X dX11_isRoadLine_87 rfl 1 rfl ?_
          refine g_iconst X (v := 3) dX11_isRoadLine_88 (by decide) ?_
          refine g_iadd X dX11_isRoadLine_89 ?_
          refine g_iconst X (v := 1) dX11_isRoadLine_90 (by decide) ?_
          refine g_bipush X (v := 6) dX11_isRoadLine_91 (by decide) ?_
          refine g_callVI X (As := [.int (p1 + 3), .int 1, .int 6]) (rest := []) (T := TX11) (N := 39) (c_X11_isNumber (zl Z) (zE Z) (p1 + 3) 1 6) gX11_isRoadLine_X11_isNumber yo_X11_isNumber rfl ⟨Nat.le_of_ble_eq_true rfl, Nat.le_of_ble_eq_true rfl⟩ (Nat.le_of_ble_eq_true rfl) rfl rfl rfl dX11_isRoadLine_93 h (fun r16 I14 J15 h => ?_)
          exact g_zret X R h.1 dX11_isRoadLine_96 h.2
        · have h := h.2 c13
          refine g_aload_n X dX11_isRoadLine_79 rfl 0 rfl ?_
          refine g_callVI X (As := []) (rest := []) (T := TX11) (N := 39) (c_X11_fails (zl Z) (zE Z) ) gX11_isRoadLine_X11_fails yo_X11_fails rfl ⟨Nat.le_of_ble_eq_true rfl, Nat.le_of_ble_eq_true rfl⟩ (Nat.le_of_ble_eq_true rfl) rfl rfl rfl dX11_isRoadLine_80 h (fun r19 I17 J18 h => ?_)
          refine g_goto X (tgt := 96) dX11_isRoadLine_83 (by decide) ?_
          exact g_zret X R h.1 dX11_isRoadLine_96 h.2
      · have h := h.2 c10
        refine g_iconst X (v := 0) dX11_isRoadLine_58 (by decide) ?_
        exact g_zret X R (by decide) dX11_isRoadLine_59 h
  · have h := h.2 c1
    refine g_aload_n X dX11_isRoadLine_9 rfl 0 rfl ?_
    refine g_callVI X (As := []) (rest := []) (T := TX11) (N := 39) (c_X11_fails (zl Z) (zE Z) ) gX11_isRoadLine_X11_fails yo_X11_fails rfl ⟨Nat.le_of_ble_eq_true rfl, Nat.le_of_ble_eq_true rfl⟩ (Nat.le_of_ble_eq_true rfl) rfl rfl rfl dX11_isRoadLine_10 h (fun r22 I20 J21 h => ?_)
    exact g_zret X R h.1 dX11_isRoadLine_13 h.2

/-! X11_isLine.isLine(I)Z -/
def rmX11_isLine : Room := { frames := 4, cells := 0, slots := 0, locals := 86 }
theorem yo_X11_isLine : yX11_isLine.cls = RX11 ∧ yX11_isLine.cls ≠ "java/lang/invoke/MethodHandle" ∧ yX11_isLine.cls ≠ "java/lang/invoke/VarHandle" ∧ (parseMethodDescriptor yX11_isLine.desc).map (fun d => d.parameters.length) = some 1 := by decide +kernel
theorem kX11_isLine_22 : Cond.fieldLink RX11 22 "SnowCourseModel" (TX11 19).2.1 (TX11 19).2.2.1 ∈ wsX11_isLine := by decide +kernel
theorem iX11_isLine_X11 : ∀ w ∈ u_ws RX11 TX11 39, w ∈ wsX11_isLine := by decide +kernel
theorem kX11_isLine_171 : Cond.fieldLink RX11 171 "SnowCourseModel" (TX11 16).2.1 (TX11 16).2.2.1 ∈ wsX11_isLine := by decide +kernel
theorem kX11_isLine_168 : Cond.fieldLink RX11 168 "SnowCourseModel" (TX11 17).2.1 (TX11 17).2.2.1 ∈ wsX11_isLine := by decide +kernel
theorem kX11_isLine_185 : Cond.fieldLink RX11 185 "SnowCourseModel" (TX11 18).2.1 (TX11 18).2.2.1 ∈ wsX11_isLine := by decide +kernel
def vc_X11_isLine_B160  (Q : Int32 → MI → MJ → Prop)  (v1 : Int32) (v2 : Int32) (I : MI) (J : MJ) : Prop := ((¬ v2 = 11 → Q 1 I J) ∧ (v2 = 11 → vc_X11_isNumber (v1 + 1) 0 47 I J (fun (r4 : Int32) (I2 : MI) (J3 : MJ) => ((r4 = 0 → Q 0 I2 J3) ∧ (¬ r4 = 0 → Q 1 I2 J3)))))
set_option maxRecDepth 100000 in
set_option maxHeartbeats 4000000 in
theorem w_X11_isLine_B160 {Z : RT}  (X : Cx Z cX11_isLine 3 RX11 wsX11_isLine rmX11_isLine (some .boolean)) {Q : Int32 → MI → MJ → Prop} (R : RI Z Q)    (v1 : Int32) (v2 : Int32) (I : MI) (J : MJ) (h : vc_X11_isLine_B160  Q  v1 v2 I J) : GW Z 3 I J 160 [(0, .ref (ea (zE Z) 87)), (1, .int v1), (2, .int v2)] [] := by
  refine g_iload_n X dX11_isLine_160 rfl 2 rfl ?_
  refine g_bipush X (v := 11) dX11_isLine_161 (by decide) ?_
  refine g_icmp_ne X (tgt := 179) dX11_isLine_163 (by decide) (fun c1 => ?_) (fun c1 => ?_)
  · have h := h.1 c1
    refine g_iconst X (v := 1) dX11_isLine_179 (by decide) ?_
    refine g_goto X (tgt := 184) dX11_isLine_180 (by decide) ?_
    exact g_zret X R (by decide) dX11_isLine_184 h
  · have h := h.2 c1
    refine g_aload_n X dX11_isLine_166 rfl 0 rfl ?_
    refine g_iload_n X dX11_isLine_167 rfl 1 rfl ?_
    refine g_iconst X (v := 1) dX11_isLine_168 (by decide) ?_
    refine g_iadd X dX11_isLine_169 ?_
    refine g_iconst X (v := 0) dX11_isLine_170 (by decide) ?_
    refine g_bipush X (v := 47) dX11_isLine_171 (by decide) ?_
    refine g_callVI X (As := [.int (v1 + 1), .int 0, .int 47]) (rest := []) (T := TX11) (N := 39) (c_X11_isNumber (zl Z) (zE Z) (v1 + 1) 0 47) gX11_isLine_X11_isNumber yo_X11_isNumber rfl ⟨Nat.le_of_ble_eq_true rfl, Nat.le_of_ble_eq_true rfl⟩ (Nat.le_of_ble_eq_true rfl) rfl rfl rfl dX11_isLine_173 h (fun r4 I2 J3 h => ?_)
    refine g_if_eq X (tgt := 183) dX11_isLine_176 (by decide) (fun c5 => ?_) (fun c5 => ?_)
    · have h := h.1 c5
      refine g_iconst X (v := 0) dX11_isLine_183 (by decide) ?_
      exact g_zret X R (by decide) dX11_isLine_184 h
    · have h := h.2 c5
      refine g_iconst X (v := 1) dX11_isLine_179 (by decide) ?_
      refine g_goto X (tgt := 184) dX11_isLine_180 (by decide) ?_
      exact g_zret X R (by decide) dX11_isLine_184 h
def vc_X11_isLine (p1 : Int32) (I : MI) (J : MJ) (Q : Int32 → MI → MJ → Prop) : Prop := vc_X11_nextToken  I J (fun (I6 : MI) (J7 : MJ) => vc_X11_sortOf  I6 J7 (fun (r10 : Int32) (I8 : MI) (J9 : MJ) => vp_in p1 56 ∧ ∀ I12 : MI, I12 = wI I8 92 (Int32.toNatClampNeg p1) r10 → ((¬ r10 = (-1) → ((4 ≤ r10 → ((7 ≤ r10 → ((10 ≤ r10 → ((¬ r10 = 10 → vc_X11_isLine_B160  Q  p1 r10 I12 J9) ∧ (r10 = 10 → ∀ I18 : MI, I18 = wI I12 87 16 0 → ∀ I19 : MI, I19 = wI I18 87 17 0 → ∀ I20 : MI, I20 = wI I19 87 18 0 → vc_X11_isLine_B160  Q  p1 r10 I20 J9))) ∧ (¬ 10 ≤ r10 → ((¬ (I12 87 18) = 4 → ∀ I22 : MI, I22 = wI I12 87 18 ((I12 87 18) + 1) → vc_X11_isNumber (p1 + 1) 0 ((I22 87 16) - 1) I22 J9 (fun (r25 : Int32) (I23 : MI) (J24 : MJ) => ((r25 = 0 → Q 0 I23 J24) ∧ (¬ r25 = 0 → vc_X11_isNumber (p1 + 2) 0 3 I23 J24 (fun (r29 : Int32) (I27 : MI) (J28 : MJ) => ((r29 = 0 → Q 0 I27 J28) ∧ (¬ r29 = 0 → Q 1 I27 J28))))))) ∧ ((I12 87 18) = 4 → vc_X11_fails  I12 J9 (fun (r33 : Int32) (I31 : MI) (J32 : MJ) => ((r33 = 0 ∨ r33 = 1) ∧ Q r33 I31 J32))))))) ∧ (¬ 7 ≤ r10 → vc_X11_isRoadLine p1 I12 J9 (fun (r36 : Int32) (I34 : MI) (J35 : MJ) => ((r36 = 0 ∨ r36 = 1) ∧ Q r36 I34 J35))))) ∧ (¬ 4 ≤ r10 → ∀ I37 : MI, I37 = wI I12 87 16 ((I12 87 16) + 1) → (((I37 87 16) ≤ 7 → Q 1 I37 J9) ∧ (¬ (I37 87 16) ≤ 7 → vc_X11_fails  I37 J9 (fun (r41 : Int32) (I39 : MI) (J40 : MJ) => ((r41 = 0 → Q 0 I39 J40) ∧ (¬ r41 = 0 → Q 1 I39 J40)))))))) ∧ (r10 = (-1) → vc_X11_fails  I12 J9 (fun (r45 : Int32) (I43 : MI) (J44 : MJ) => ((r45 = 0 ∨ r45 = 1) ∧ Q r45 I43 J44))))))
set_option maxRecDepth 100000 in
set_option maxHeartbeats 4000000 in
theorem c_X11_isLine (l : Launch) (E : ET)  (p1 : Int32) : CI l yX11_isLine wsX11_isLine rmX11_isLine E [.ref (ea E 87), .int p1] (vc_X11_isLine p1) := by
  refine CI.of (cc := cX11_isLine) (maxL := 3) (own := RX11) (by decide) rfl rfl (Nat.le_of_ble_eq_true rfl) ?_
  intro Z I J Q hE hl X R h
  subst hE
  subst hl
  show GW Z 3 I J 0 [(0, .ref (ea (zE Z) 87)), (1, .int p1)] []
  refine g_aload_n X dX11_isLine_0 rfl 0 rfl ?_
  refine g_callVV X (As := []) (rest := []) (T := TX11) (N := 39) (c_X11_nextToken (zl Z) (zE Z) ) gX11_isLine_X11_nextToken yo_X11_nextToken rfl ⟨Nat.le_of_ble_eq_true rfl, Nat.le_of_ble_eq_true rfl⟩ (Nat.le_of_ble_eq_true rfl) rfl rfl rfl dX11_isLine_1 h (fun  I6 J7 h => ?_)
  refine g_aload_n X dX11_isLine_4 rfl 0 rfl ?_
  refine g_callVI X (As := []) (rest := []) (T := TX11) (N := 39) (c_X11_sortOf (zl Z) (zE Z) ) gX11_isLine_X11_sortOf yo_X11_sortOf rfl ⟨Nat.le_of_ble_eq_true rfl, Nat.le_of_ble_eq_true rfl⟩ (Nat.le_of_ble_eq_true rfl) rfl rfl rfl dX11_isLine_5 h (fun r10 I8 J9 h => ?_)
  refine g_istore_n X (lv' := [(2, .int r10), (0, .ref (ea (zE Z) 87)), (1, .int p1)]) dX11_isLine_8 rfl (by decide) rfl ?_
  refine g_aload_n X dX11_isLine_9 rfl 1 rfl ?_
  refine g_getr X (C := RX11) (T := TX11) (N := 39) (ci := 9) (k := 19) iX11_isLine_X11 rfl kX11_isLine_22 (Nat.le_of_ble_eq_true rfl) rfl (by decide) rfl rfl dX11_isLine_10 ?_
  refine g_iload_n X dX11_isLine_13 rfl 2 rfl ?_
  refine g_iload_n X dX11_isLine_14 rfl 0 rfl ?_
  obtain ⟨b11, h⟩ := h
  refine g_iast X (Nat.le_of_ble_eq_true rfl) rfl b11 dX11_isLine_15 ?_
  refine g_nmI (fun I12 eI12 => ?_)
  have h := h I12 eI12
  refine g_iload_n X dX11_isLine_16 rfl 0 rfl ?_
  refine g_iconst X (v := (-1)) dX11_isLine_17 (by decide) ?_
  refine g_icmp_ne X (tgt := 26) dX11_isLine_18 (by decide) (fun c13 => ?_) (fun c13 => ?_)
  · have h := h.1 c13
    refine g_iload_n X dX11_isLine_26 rfl 0 rfl ?_
    refine g_iconst X (v := 4) dX11_isLine_27 (by decide) ?_
    refine g_icmp_ge X (tgt := 63) dX11_isLine_28 (by decide) (fun c14 => ?_) (fun c14 => ?_)
    · have h := h.1 c14
      refine g_iload_n X dX11_isLine_63 rfl 0 rfl ?_
      refine g_bipush X (v := 7) dX11_isLine_64 (by decide) ?_
      refine g_icmp_ge X (tgt := 75) dX11_isLine_66 (by decide) (fun c15 => ?_) (fun c15 => ?_)
      · have h := h.1 c15
        refine g_iload_n X dX11_isLine_75 rfl 0 rfl ?_
        refine g_bipush X (v := 10) dX11_isLine_76 (by decide) ?_
        refine g_icmp_ge X (tgt := 139) dX11_isLine_78 (by decide) (fun c16 => ?_) (fun c16 => ?_)
        · have h := h.1 c16
          refine g_iload_n X dX11_isLine_139 rfl 0 rfl ?_
          refine g_bipush X (v := 10) dX11_isLine_140 (by decide) ?_
          refine g_icmp_ne X (tgt := 160) dX11_isLine_142 (by decide) (fun c17 => ?_) (fun c17 => ?_)
          · have h := h.1 c17
            refine GW.sub (lv' := [(0, .ref (ea (zE Z) 87)), (1, .int p1), (2, .int r10)]) [1, 2, 0] rfl ?_
            exact w_X11_isLine_B160 X R   p1 r10 I12 J9 h
          · have h := h.2 c17
            refine g_aload_n X dX11_isLine_145 rfl 1 rfl ?_
            refine g_iconst X (v := 0) dX11_isLine_146 (by decide) ?_
            refine g_puti X (C := RX11) (T := TX11) (N := 39) (ci := 9) (k := 16) (ty0 := tyX11) iX11_isLine_X11 tyX11_ok nmX11 rfl kX11_isLine_171 (Nat.le_of_ble_eq_true rfl) rfl (by decide) rfl rfl (by decide +kernel) rfl dX11_isLine_147 ?_
            refine g_nmI (fun I18 eI18 => ?_)
            have h := h I18 eI18
            refine g_aload_n X dX11_isLine_150 rfl 1 rfl ?_
            refine g_iconst X (v := 0) dX11_isLine_151 (by decide) ?_
            refine g_puti X (C := RX11) (T := TX11) (N := 39) (ci := 9) (k := 17) (ty0 := tyX11) iX11_isLine_X11 tyX11_ok nmX11 rfl kX11_isLine_168 (Nat.le_of_ble_eq_true rfl) rfl (by decide) rfl rfl (by decide +kernel) rfl dX11_isLine_152 ?_
            refine g_nmI (fun I19 eI19 => ?_)
            have h := h I19 eI19
            refine g_aload_n X dX11_isLine_155 rfl 1 rfl ?_
            refine g_iconst X (v := 0) dX11_isLine_156 (by decide) ?_
            refine g_puti X (C := RX11) (T := TX11) (N := 39) (ci := 9) (k := 18) (ty0 := tyX11) iX11_isLine_X11 tyX11_ok nmX11 rfl kX11_isLine_185 (Nat.le_of_ble_eq_true rfl) rfl (by decide) rfl rfl (by decide +kernel) rfl dX11_isLine_157 ?_
            refine g_nmI (fun I20 eI20 => ?_)
            have h := h I20 eI20
            refine GW.sub (lv' := [(0, .ref (ea (zE Z) 87)), (1, .int p1), (2, .int r10)]) [1, 2, 0] rfl ?_
            exact w_X11_isLine_B160 X R   p1 r10 I20 J9 h
        · have h := h.2 c16
          refine g_aload_n X dX11_isLine_81 rfl 1 rfl ?_
          refine g_geti X (C := RX11) (T := TX11) (N := 39) (ci := 9) (k := 18) iX11_isLine_X11 rfl kX11_isLine_185 (Nat.le_of_ble_eq_true rfl) rfl (by decide) rfl rfl dX11_isLine_82 ?_
          refine g_iconst X (v := 4) dX11_isLine_85 (by decide) ?_
          refine g_icmp_ne X (tgt := 94) dX11_isLine_86 (by decide) (fun c21 => ?_) (fun c21 => ?_)
          · have h := h.1 c21
            refine g_aload_n X dX11_isLine_94 rfl 1 rfl ?_
            refine g_dup X dX11_isLine_95 rfl ?_
            refine g_geti X (C := RX11) (T := TX11) (N := 39) (ci := 9) (k := 18) iX11_isLine_X11 rfl kX11_isLine_185 (Nat.le_of_ble_eq_true rfl) rfl (by decide) rfl rfl dX11_isLine_96 ?_
            refine g_iconst X (v := 1) dX11_isLine_99 (by decide) ?_
            refine g_iadd X dX11_isLine_100 ?_
            refine g_puti X (C := RX11) (T := TX11) (N := 39) (ci := 9) (k := 18) (ty0 := tyX11) iX11_isLine_X11 tyX11_ok nmX11 rfl kX11_isLine_185 (Nat.le_of_ble_eq_true rfl) rfl (by decide) rfl rfl (by decide +kernel) rfl dX11_isLine_101 ?_
            refine g_nmI (fun I22 eI22 => ?_)
            have h := h I22 eI22
            refine g_aload_n X dX11_isLine_104 rfl 1 rfl ?_
            refine g_iload_n X dX11_isLine_105 rfl 2 rfl ?_
            refine g_iconst X (v := 1) dX11_isLine_106 (by decide) ?_
            refine g_iadd X dX11_isLine_107 ?_
            refine g_iconst X (v := 0) dX11_isLine_108 (by decide) ?_
            refine g_aload_n X dX11_isLine_109 rfl 1 rfl ?_
            refine g_geti X (C := RX11) (T := TX11) (N := 39) (ci := 9) (k := 16) iX11_isLine_X11 rfl kX11_isLine_171 (Nat.le_of_ble_eq_true rfl) rfl (by decide) rfl rfl dX11_isLine_110 ?_
            refine g_iconst X (v := 1) dX11_isLine_113 (by decide) ?_
            refine g_isub X dX11_isLine_114 ?_
            refine g_callVI X (As := [.int (p1 + 1), .int 0, .int ((I22 87 16) - 1)]) (rest := []) (T := TX11) (N := 39) (c_X11_isNumber (zl Z) (zE Z) (p1 + 1) 0 ((I22 87 16) - 1)) gX11_isLine_X11_isNumber yo_X11_isNumber rfl ⟨Nat.le_of_ble_eq_true rfl, Nat.le_of_ble_eq_true rfl⟩ (Nat.le_of_ble_eq_true rfl) rfl rfl rfl dX11_isLine_115 h (fun r25 I23 J24 h => ?_)
            refine g_if_eq X (tgt := 137) dX11_isLine_118 (by decide) (fun c26 => ?_) (fun c26 => ?_)
            · have h := h.1 c26
              refine g_iconst X (v := 0) dX11_isLine_137 (by decide) ?_
              exact g_zret X R (by decide) dX11_isLine_138 h
            · have h := h.2 c26
              refine g_aload_n X dX11_isLine_121 rfl 1 rfl ?_
              refine g_iload_n X dX11_isLine_122 rfl 2 rfl ?_
              refine g_iconst X (v := 2) dX11_isLine_123 (by decide) ?_
              refine g_iadd X dX11_isLine_124 ?_
              refine g_iconst X (v := 0) dX11_isLine_125 (by decide) ?_
              refine g_iconst X (v := 3) dX11_isLine_126 (by decide) ?_
              refine g_callVI X (As := [.int (p1 + 2), .int 0, .int 3]) (rest := []) (T := TX11) (N := 39) (c_X11_isNumber (zl Z) (zE Z) (p1 + 2) 0 3) gX11_isLine_X11_isNumber yo_X11_isNumber rfl ⟨Nat.le_of_ble_eq_true rfl, Nat.le_of_ble_eq_true rfl⟩ (Nat.le_of_ble_eq_true rfl) rfl rfl rfl dX11_isLine_127 h (fun r29 I27 J28 h => ?_)
              refine g_if_eq X (tgt := 137) dX11_isLine_130 (by decide) (fun c30 => ?_) (fun c30 => ?_)
              · have h := h.1 c30
                refine g_iconst X (v := 0) dX11_isLine_137 (by decide) ?_
                exact g_zret X R (by decide) dX11_isLine_138 h
              · have h := h.2 c30
                refine g_iconst X (v := 1) dX11_isLine_133 (by decide) ?_
                refine g_goto X (tgt := 138) dX11_isLine_134 (by decide) ?_
                exact g_zret X R (by decide) dX11_isLine_138 h
          · have h := h.2 c21
            refine g_aload_n X dX11_isLine_89 rfl 1 rfl ?_
            refine g_callVI X (As := []) (rest := []) (T := TX11) (N := 39) (c_X11_fails (zl Z) (zE Z) ) gX11_isLine_X11_fails yo_X11_fails rfl ⟨Nat.le_of_ble_eq_true rfl, Nat.le_of_ble_eq_true rfl⟩ (Nat.le_of_ble_eq_true rfl) rfl rfl rfl dX11_isLine_90 h (fun r33 I31 J32 h => ?_)
            exact g_zret X R h.1 dX11_isLine_93 h.2
      · have h := h.2 c15
        refine g_aload_n X dX11_isLine_69 rfl 1 rfl ?_
        refine g_iload_n X dX11_isLine_70 rfl 2 rfl ?_
        refine g_callVI X (As := [.int p1]) (rest := []) (T := TX11) (N := 39) (c_X11_isRoadLine (zl Z) (zE Z) p1) gX11_isLine_X11_isRoadLine yo_X11_isRoadLine rfl ⟨Nat.le_of_ble_eq_true rfl, Nat.le_of_ble_eq_true rfl⟩ (Nat.le_of_ble_eq_true rfl) rfl rfl rfl dX11_isLine_71 h (fun r36 I34 J35 h => ?_)
        exact g_zret X R h.1 dX11_isLine_74 h.2
    · have h := h.2 c14
      refine g_aload_n X dX11_isLine_31 rfl 1 rfl ?_
      refine g_dup X dX11_isLine_32 rfl ?_
      refine g_geti X (C := RX11) (T := TX11) (N := 39) (ci := 9) (k := 16) iX11_isLine_X11 rfl kX11_isLine_171 (Nat.le_of_ble_eq_true rfl) rfl (by decide) rfl rfl dX11_isLine_33 ?_
      refine g_iconst X (v := 1) dX11_isLine_36 (by decide) ?_
      refine g_iadd X dX11_isLine_37 ?_
      refine g_puti X (C := RX11) (T := TX11) (N := 39) (ci := 9) (k := 16) (ty0 := tyX11) iX11_isLine_X11 tyX11_ok nmX11 rfl kX11_isLine_171 (Nat.le_of_ble_eq_true rfl) rfl (by decide) rfl rfl (by decide +kernel) rfl dX11_isLine_38 ?_
      refine g_nmI (fun I37 eI37 => ?_)
      have h := h I37 eI37
      refine g_aload_n X dX11_isLine_41 rfl 1 rfl ?_
      refine g_geti X (C := RX11) (T := TX11) (N := 39) (ci := 9) (k := 16) iX11_isLine_X11 rfl kX11_isLine_171 (Nat.le_of_ble_eq_true rfl) rfl (by decide) rfl rfl dX11_isLine_42 ?_
      refine g_bipush X (v := 7) dX11_isLine_45 (by decide) ?_
      refine g_icmp_le X (tgt := 57) dX11_isLine_47 (by decide) (fun c38 => ?_) (fun c38 => ?_)
      · have h := h.1 c38
        refine g_iconst X (v := 1) dX11_isLine_57 (by decide) ?_
        refine g_goto X (tgt := 62) dX11_isLine_58 (by decide) ?_
        exact g_zret X R (by decide) dX11_isLine_62 h
      · have h := h.2 c38
        refine g_aload_n X dX11_isLine_50 rfl 1 rfl ?_
        refine g_callVI X (As := []) (rest := []) (T := TX11) (N := 39) (c_X11_fails (zl Z) (zE Z) ) gX11_isLine_X11_fails yo_X11_fails rfl ⟨Nat.le_of_ble_eq_true rfl, Nat.le_of_ble_eq_true rfl⟩ (Nat.le_of_ble_eq_true rfl) rfl rfl rfl dX11_isLine_51 h (fun r41 I39 J40 h => ?_)
        refine g_if_eq X (tgt := 61) dX11_isLine_54 (by decide) (fun c42 => ?_) (fun c42 => ?_)
        · have h := h.1 c42
          refine g_iconst X (v := 0) dX11_isLine_61 (by decide) ?_
          exact g_zret X R (by decide) dX11_isLine_62 h
        · have h := h.2 c42
          refine g_iconst X (v := 1) dX11_isLine_57 (by decide) ?_
          refine g_goto X (tgt := 62) dX11_isLine_58 (by decide) ?_
          exact g_zret X R (by decide) dX11_isLine_62 h
  · have h := h.2 c13
    refine g_aload_n X dX11_isLine_21 rfl 1 rfl ?_
    refine g_callVI X (As := []) (rest := []) (T := TX11) (N := 39) (c_X11_fails (zl Z) (zE Z) ) gX11_isLine_X11_fails yo_X11_fails rfl ⟨Nat.le_of_ble_eq_true rfl, Nat.le_of_ble_eq_true rfl⟩ (Nat.le_of_ble_eq_true rfl) rfl rfl rfl dX11_isLine_22 h (fun r45 I43 J44 h => ?_)
    exact g_zret X R h.1 dX11_isLine_25 h.2

/-! X11_isRead.isRead()Z -/
def rmX11_isRead : Room := { frames := 5, cells := 0, slots := 0, locals := 108 }
theorem yo_X11_isRead : yX11_isRead.cls = RX11 ∧ yX11_isRead.cls ≠ "java/lang/invoke/MethodHandle" ∧ yX11_isRead.cls ≠ "java/lang/invoke/VarHandle" ∧ (parseMethodDescriptor yX11_isRead.desc).map (fun d => d.parameters.length) = some 0 := by decide +kernel
theorem kX11_isRead_118 : Cond.fieldLink RX11 118 "SnowCourseModel" (TX11 11).2.1 (TX11 11).2.2.1 ∈ wsX11_isRead := by decide +kernel
theorem iX11_isRead_X11 : ∀ w ∈ u_ws RX11 TX11 39, w ∈ wsX11_isRead := by decide +kernel
theorem kX11_isRead_c116 : Cond.constantLong RX11 116 (-2) ∈ wsX11_isRead := by decide +kernel
theorem kX11_isRead_188 : Cond.fieldLink RX11 188 "SnowCourseModel" (TX11 15).2.1 (TX11 15).2.2.1 ∈ wsX11_isRead := by decide +kernel
theorem kX11_isRead_c130 : Cond.constantLong RX11 130 (-3) ∈ wsX11_isRead := by decide +kernel
theorem kX11_isRead_104 : Cond.fieldLink RX11 104 "SnowCourseModel" (TX11 9).2.1 (TX11 9).2.2.1 ∈ wsX11_isRead := by decide +kernel
theorem kX11_isRead_91 : Cond.fieldLink RX11 91 "SnowCourseModel" (TX11 0).2.1 (TX11 0).2.2.1 ∈ wsX11_isRead := by decide +kernel
theorem kX11_isRead_171 : Cond.fieldLink RX11 171 "SnowCourseModel" (TX11 16).2.1 (TX11 16).2.2.1 ∈ wsX11_isRead := by decide +kernel
theorem kX11_isRead_98 : Cond.fieldLink RX11 98 "SnowCourseModel" (TX11 2).2.1 (TX11 2).2.2.1 ∈ wsX11_isRead := by decide +kernel
theorem kX11_isRead_168 : Cond.fieldLink RX11 168 "SnowCourseModel" (TX11 17).2.1 (TX11 17).2.2.1 ∈ wsX11_isRead := by decide +kernel
theorem kX11_isRead_78 : Cond.fieldLink RX11 78 "SnowCourseModel" (TX11 4).2.1 (TX11 4).2.2.1 ∈ wsX11_isRead := by decide +kernel
theorem kX11_isRead_185 : Cond.fieldLink RX11 185 "SnowCourseModel" (TX11 18).2.1 (TX11 18).2.2.1 ∈ wsX11_isRead := by decide +kernel
def vc_X11_isRead_B93  (Q : Int32 → MI → MJ → Prop) (k36 : Int32 → MI → MJ → Prop)  (I : MI) (J : MJ) : Prop := k36 0 I J
set_option maxRecDepth 100000 in
set_option maxHeartbeats 4000000 in
theorem w_X11_isRead_B93 {Z : RT}  (X : Cx Z cX11_isRead 2 RX11 wsX11_isRead rmX11_isRead (some .boolean)) {Q : Int32 → MI → MJ → Prop} (R : RI Z Q)  {k36 : Int32 → MI → MJ → Prop} (hk36 : ∀ (v1 : Int32) (I : MI) (J : MJ), k36 v1 I J → GW Z 2 I J 36 [(0, .ref (ea (zE Z) 87)), (1, .int v1)] [])  (I : MI) (J : MJ) (h : vc_X11_isRead_B93  Q k36  I J) : GW Z 2 I J 93 [(0, .ref (ea (zE Z) 87))] [] := by
  refine g_iconst X (v := 0) dX11_isRead_93 (by decide) ?_
  refine g_istore_n X (lv' := [(1, .int 0), (0, .ref (ea (zE Z) 87))]) dX11_isRead_94 rfl (by decide) rfl ?_
  refine g_goto X (tgt := 36) dX11_isRead_95 (by decide) ?_
  refine GW.sub (lv' := [(0, .ref (ea (zE Z) 87)), (1, .int 0)]) [1, 0] rfl ?_
  exact hk36 0 I J h
def vc_X11_isRead_L36s  (Q : Int32 → MI → MJ → Prop)  (k36 : Int32 → MI → MJ → Prop) (v1 : Int32) (I : MI) (J : MJ) : Prop := ((v1 = 0 → (((lg_cmp (J 87 11) (-2)) = 0 → Q 1 I J) ∧ (¬ (lg_cmp (J 87 11) (-2)) = 0 → vc_X11_fails  I J (fun (r5 : Int32) (I3 : MI) (J4 : MJ) => ((r5 = 0 → Q 0 I3 J4) ∧ (¬ r5 = 0 → Q 1 I3 J4)))))) ∧ (¬ v1 = 0 → vc_X11_isLine (4 * (I 87 15)) I J (fun (r9 : Int32) (I7 : MI) (J8 : MJ) => ((¬ r9 = 0 → ∀ I11 : MI, I11 = wI I7 87 15 ((I7 87 15) + 1) → vc_X11_nextToken  I11 J8 (fun (I12 : MI) (J13 : MJ) => ((¬ (lg_cmp (J13 87 11) (-3)) = 0 → vc_X11_isRead_B93  Q k36 I12 J13) ∧ ((lg_cmp (J13 87 11) (-3)) = 0 → ((14 ≤ (I12 87 15) → vc_X11_isRead_B93  Q k36 I12 J13) ∧ (¬ 14 ≤ (I12 87 15) → k36 1 I12 J13)))))) ∧ (r9 = 0 → Q 0 I7 J8)))))
def vc_X11_isRead_L36  (Q : Int32 → MI → MJ → Prop)  (n : Nat) : Int32 → MI → MJ → Prop := Nat.rec (fun _ _ _ => False) (fun _ ih => vc_X11_isRead_L36s  Q  ih) n
set_option maxRecDepth 100000 in
set_option maxHeartbeats 4000000 in
theorem w_X11_isRead_L36s {Z : RT}  (X : Cx Z cX11_isRead 2 RX11 wsX11_isRead rmX11_isRead (some .boolean)) {Q : Int32 → MI → MJ → Prop} (R : RI Z Q)    {k36 : Int32 → MI → MJ → Prop} (hk36 : ∀ (v1 : Int32) (I : MI) (J : MJ), k36 v1 I J → GW Z 2 I J 36 [(0, .ref (ea (zE Z) 87)), (1, .int v1)] []) (v1 : Int32) (I : MI) (J : MJ) (h : vc_X11_isRead_L36s  Q  k36 v1 I J) : GW Z 2 I J 36 [(0, .ref (ea (zE Z) 87)), (1, .int v1)] [] := by
  refine g_iload_n X dX11_isRead_36 rfl 1 rfl ?_
  refine g_if_eq X (tgt := 98) dX11_isRead_37 (by decide) (fun c1 => ?_) (fun c1 => ?_)
  · have h := h.1 c1
    refine g_aload_n X dX11_isRead_98 rfl 0 rfl ?_
    refine g_getl X (C := RX11) (T := TX11) (N := 39) (ci := 9) (k := 11) iX11_isRead_X11 rfl kX11_isRead_118 (Nat.le_of_ble_eq_true rfl) rfl (by decide) rfl rfl dX11_isRead_99 ?_
    refine g_ldc2 X dX11_isRead_102 kX11_isRead_c116 ?_
    refine g_lcmp X dX11_isRead_105 ?_
    refine g_if_eq X (tgt := 116) dX11_isRead_106 (by decide) (fun c2 => ?_) (fun c2 => ?_)
    · have h := h.1 c2
      refine g_iconst X (v := 1) dX11_isRead_116 (by decide) ?_
      refine g_goto X (tgt := 121) dX11_isRead_117 (by decide) ?_
      exact g_zret X R (by decide) dX11_isRead_121 h
    · have h := h.2 c2
      refine g_aload_n X dX11_isRead_109 rfl 0 rfl ?_
      refine g_callVI X (As := []) (rest := []) (T := TX11) (N := 39) (c_X11_fails (zl Z) (zE Z) ) gX11_isRead_X11_fails yo_X11_fails rfl ⟨Nat.le_of_ble_eq_true rfl, Nat.le_of_ble_eq_true rfl⟩ (Nat.le_of_ble_eq_true rfl) rfl rfl rfl dX11_isRead_110 h (fun r5 I3 J4 h => ?_)
      refine g_if_eq X (tgt := 120) dX11_isRead_113 (by decide) (fun c6 => ?_) (fun c6 => ?_)
      · have h := h.1 c6
        refine g_iconst X (v := 0) dX11_isRead_120 (by decide) ?_
        exact g_zret X R (by decide) dX11_isRead_121 h
      · have h := h.2 c6
        refine g_iconst X (v := 1) dX11_isRead_116 (by decide) ?_
        refine g_goto X (tgt := 121) dX11_isRead_117 (by decide) ?_
        exact g_zret X R (by decide) dX11_isRead_121 h
  · have h := h.2 c1
    refine g_aload_n X dX11_isRead_40 rfl 0 rfl ?_
    refine g_iconst X (v := 4) dX11_isRead_41 (by decide) ?_
    refine g_aload_n X dX11_isRead_42 rfl 0 rfl ?_
    refine g_geti X (C := RX11) (T := TX11) (N := 39) (ci := 9) (k := 15) iX11_isRead_X11 rfl kX11_isRead_188 (Nat.le_of_ble_eq_true rfl) rfl (by decide) rfl rfl dX11_isRead_43 ?_
    refine g_imul X dX11_isRead_46 ?_
    refine g_callVI X (As := [.int (4 * (I 87 15))]) (rest := []) (T := TX11) (N := 39) (c_X11_isLine (zl Z) (zE Z) (4 * (I 87 15))) gX11_isRead_X11_isLine yo_X11_isLine rfl ⟨Nat.le_of_ble_eq_true rfl, Nat.le_of_ble_eq_true rfl⟩ (Nat.le_of_ble_eq_true rfl) rfl rfl rfl dX11_isRead_47 h (fun r9 I7 J8 h => ?_)
    refine g_if_ne X (tgt := 55) dX11_isRead_50 (by decide) (fun c10 => ?_) (fun c10 => ?_)
    · have h := h.1 c10
      refine g_aload_n X dX11_isRead_55 rfl 0 rfl ?_
      refine g_dup X dX11_isRead_56 rfl ?_
      refine g_geti X (C := RX11) (T := TX11) (N := 39) (ci := 9) (k := 15) iX11_isRead_X11 rfl kX11_isRead_188 (Nat.le_of_ble_eq_true rfl) rfl (by decide) rfl rfl dX11_isRead_57 ?_
      refine g_iconst X (v := 1) dX11_isRead_60 (by decide) ?_
      refine g_iadd X dX11_isRead_61 ?_
      refine g_puti X (C := RX11) (T := TX11) (N := 39) (ci := 9) (k := 15) (ty0 := tyX11) iX11_isRead_X11 tyX11_ok nmX11 rfl kX11_isRead_188 (Nat.le_of_ble_eq_true rfl) rfl (by decide) rfl rfl (by decide +kernel) rfl dX11_isRead_62 ?_
      refine g_nmI (fun I11 eI11 => ?_)
      have h := h I11 eI11
      refine g_aload_n X dX11_isRead_65 rfl 0 rfl ?_
      refine g_callVV X (As := []) (rest := []) (T := TX11) (N := 39) (c_X11_nextToken (zl Z) (zE Z) ) gX11_isRead_X11_nextToken yo_X11_nextToken rfl ⟨Nat.le_of_ble_eq_true rfl, Nat.le_of_ble_eq_true rfl⟩ (Nat.le_of_ble_eq_true rfl) rfl rfl rfl dX11_isRead_66 h (fun  I12 J13 h => ?_)
      refine g_aload_n X dX11_isRead_69 rfl 0 rfl ?_
      refine g_getl X (C := RX11) (T := TX11) (N := 39) (ci := 9) (k := 11) iX11_isRead_X11 rfl kX11_isRead_118 (Nat.le_of_ble_eq_true rfl) rfl (by decide) rfl rfl dX11_isRead_70 ?_
      refine g_ldc2 X dX11_isRead_73 kX11_isRead_c130 ?_
      refine g_lcmp X dX11_isRead_76 ?_
      refine g_if_ne X (tgt := 93) dX11_isRead_77 (by decide) (fun c14 => ?_) (fun c14 => ?_)
      · have h := h.1 c14
        refine GW.sub (lv' := [(0, .ref (ea (zE Z) 87))]) [0] rfl ?_
        exact w_X11_isRead_B93 X R  hk36 I12 J13 h
      · have h := h.2 c14
        refine g_aload_n X dX11_isRead_80 rfl 0 rfl ?_
        refine g_geti X (C := RX11) (T := TX11) (N := 39) (ci := 9) (k := 15) iX11_isRead_X11 rfl kX11_isRead_188 (Nat.le_of_ble_eq_true rfl) rfl (by decide) rfl rfl dX11_isRead_81 ?_
        refine g_bipush X (v := 14) dX11_isRead_84 (by decide) ?_
        refine g_icmp_ge X (tgt := 93) dX11_isRead_86 (by decide) (fun c15 => ?_) (fun c15 => ?_)
        · have h := h.1 c15
          refine GW.sub (lv' := [(0, .ref (ea (zE Z) 87))]) [0] rfl ?_
          exact w_X11_isRead_B93 X R  hk36 I12 J13 h
        · have h := h.2 c15
          refine g_iconst X (v := 1) dX11_isRead_89 (by decide) ?_
          refine g_goto X (tgt := 94) dX11_isRead_90 (by decide) ?_
          refine g_istore_n X (lv' := [(1, .int 1), (0, .ref (ea (zE Z) 87))]) dX11_isRead_94 rfl (by decide) rfl ?_
          refine g_goto X (tgt := 36) dX11_isRead_95 (by decide) ?_
          refine GW.sub (lv' := [(0, .ref (ea (zE Z) 87)), (1, .int 1)]) [1, 0] rfl ?_
          exact hk36 1 I12 J13 h
    · have h := h.2 c10
      refine g_iconst X (v := 0) dX11_isRead_53 (by decide) ?_
      exact g_zret X R (by decide) dX11_isRead_54 h
theorem w_X11_isRead_L36 {Z : RT}  (X : Cx Z cX11_isRead 2 RX11 wsX11_isRead rmX11_isRead (some .boolean)) {Q : Int32 → MI → MJ → Prop} (R : RI Z Q)    : ∀ (n : Nat) (v1 : Int32) (I : MI) (J : MJ) (h : vc_X11_isRead_L36  Q  n v1 I J), GW Z 2 I J 36 [(0, .ref (ea (zE Z) 87)), (1, .int v1)] [] := by
  intro n
  induction n with
  | zero => intro v1 I J h; exact h.elim
  | succ n ih => intro v1 I J h; exact w_X11_isRead_L36s X R   ih v1 I J h
def vc_X11_isRead  (I : MI) (J : MJ) (Q : Int32 → MI → MJ → Prop) : Prop := ∀ I16 : MI, I16 = wI I 87 9 0 → ∀ I17 : MI, I17 = wI I16 87 15 0 → ∀ I18 : MI, I18 = wI I17 87 16 (I17 87 0) → ∀ I19 : MI, I19 = wI I18 87 17 (I18 87 2) → ∀ I20 : MI, I20 = wI I19 87 18 (I19 87 4) → (∃ n, vc_X11_isRead_L36  Q  n 1 I20 J)
set_option maxRecDepth 100000 in
set_option maxHeartbeats 4000000 in
theorem c_X11_isRead (l : Launch) (E : ET)   : CI l yX11_isRead wsX11_isRead rmX11_isRead E [.ref (ea E 87)] (vc_X11_isRead ) := by
  refine CI.of (cc := cX11_isRead) (maxL := 2) (own := RX11) (by decide) rfl rfl (Nat.le_of_ble_eq_true rfl) ?_
  intro Z I J Q hE hl X R h
  subst hE
  subst hl
  show GW Z 2 I J 0 [(0, .ref (ea (zE Z) 87))] []
  refine g_aload_n X dX11_isRead_0 rfl 0 rfl ?_
  refine g_iconst X (v := 0) dX11_isRead_1 (by decide) ?_
  refine g_puti X (C := RX11) (T := TX11) (N := 39) (ci := 9) (k := 9) (ty0 := tyX11) iX11_isRead_X11 tyX11_ok nmX11 rfl kX11_isRead_104 (Nat.le_of_ble_eq_true rfl) rfl (by decide) rfl rfl (by decide +kernel) rfl dX11_isRead_2 ?_
  refine g_nmI (fun I16 eI16 => ?_)
  have h := h I16 eI16
  refine g_aload_n X dX11_isRead_5 rfl 0 rfl ?_
  refine g_iconst X (v := 0) dX11_isRead_6 (by decide) ?_
  refine g_puti X (C := RX11) (T := TX11) (N := 39) (ci := 9) (k := 15) (ty0 := tyX11) iX11_isRead_X11 tyX11_ok nmX11 rfl kX11_isRead_188 (Nat.le_of_ble_eq_true rfl) rfl (by decide) rfl rfl (by decide +kernel) rfl dX11_isRead_7 ?_
  refine g_nmI (fun I17 eI17 => ?_)
  have h := h I17 eI17
  refine g_aload_n X dX11_isRead_10 rfl 0 rfl ?_
  refine g_aload_n X dX11_isRead_11 rfl 0 rfl ?_
  refine g_geti X (C := RX11) (T := TX11) (N := 39) (ci := 9) (k := 0) iX11_isRead_X11 rfl kX11_isRead_91 (Nat.le_of_ble_eq_true rfl) rfl (by decide) rfl rfl dX11_isRead_12 ?_
  refine g_puti X (C := RX11) (T := TX11) (N := 39) (ci := 9) (k := 16) (ty0 := tyX11) iX11_isRead_X11 tyX11_ok nmX11 rfl kX11_isRead_171 (Nat.le_of_ble_eq_true rfl) rfl (by decide) rfl rfl (by decide +kernel) rfl dX11_isRead_15 ?_
  refine g_nmI (fun I18 eI18 => ?_)
  have h := h I18 eI18
  refine g_aload_n X dX11_isRead_18 rfl 0 rfl ?_
  refine g_aload_n X dX11_isRead_19 rfl 0 rfl ?_
  refine g_geti X (C := RX11) (T := TX11) (N := 39) (ci := 9) (k := 2) iX11_isRead_X11 rfl kX11_isRead_98 (Nat.le_of_ble_eq_true rfl) rfl (by decide) rfl rfl dX11_isRead_20 ?_
  refine g_puti X (C := RX11) (T := TX11) (N := 39) (ci := 9) (k := 17) (ty0 := tyX11) iX11_isRead_X11 tyX11_ok nmX11 rfl kX11_isRead_168 (Nat.le_of_ble_eq_true rfl) rfl (by decide) rfl rfl (by decide +kernel) rfl dX11_isRead_23 ?_
  refine g_nmI (fun I19 eI19 => ?_)
  have h := h I19 eI19
  refine g_aload_n X dX11_isRead_26 rfl 0 rfl ?_
  refine g_aload_n X dX11_isRead_27 rfl 0 rfl ?_
  refine g_geti X (C := RX11) (T := TX11) (N := 39) (ci := 9) (k := 4) iX11_isRead_X11 rfl kX11_isRead_78 (Nat.le_of_ble_eq_true rfl) rfl (by decide) rfl rfl dX11_isRead_28 ?_
  refine g_puti X (C := RX11) (T := TX11) (N := 39) (ci := 9) (k := 18) (ty0 := tyX11) iX11_isRead_X11 tyX11_ok nmX11 rfl kX11_isRead_185 (Nat.le_of_ble_eq_true rfl) rfl (by decide) rfl rfl (by decide +kernel) rfl dX11_isRead_31 ?_
  refine g_nmI (fun I20 eI20 => ?_)
  have h := h I20 eI20
  refine g_iconst X (v := 1) dX11_isRead_34 (by decide) ?_
  refine g_istore_n X (lv' := [(1, .int 1), (0, .ref (ea (zE Z) 87))]) dX11_isRead_35 rfl (by decide) rfl ?_
  refine GW.sub (lv' := [(0, .ref (ea (zE Z) 87)), (1, .int 1)]) [1, 0] rfl ?_
  obtain ⟨n, h⟩ := h
  exact w_X11_isRead_L36 X R   n 1 I20 J h

/-! X11_fault.fault()I -/
def rmX11_fault : Room := { frames := 6, cells := 0, slots := 0, locals := 129 }
theorem yo_X11_fault : yX11_fault.cls = RX11 ∧ yX11_fault.cls ≠ "java/lang/invoke/MethodHandle" ∧ yX11_fault.cls ≠ "java/lang/invoke/VarHandle" ∧ (parseMethodDescriptor yX11_fault.desc).map (fun d => d.parameters.length) = some 0 := by decide +kernel
theorem kX11_fault_132 : Cond.fieldLink RX11 132 "SnowCourseModel" (TX11 14).2.1 (TX11 14).2.2.1 ∈ wsX11_fault := by decide +kernel
theorem iX11_fault_X11 : ∀ w ∈ u_ws RX11 TX11 39, w ∈ wsX11_fault := by decide +kernel
def vc_X11_fault  (I : MI) (J : MJ) (Q : Int32 → MI → MJ → Prop) : Prop := vc_X11_isRead  I J (fun (r3 : Int32) (I1 : MI) (J2 : MJ) => ((r3 = 0 → Q (I1 87 14) I1 J2) ∧ (¬ r3 = 0 → Q (-1) I1 J2)))
set_option maxRecDepth 100000 in
set_option maxHeartbeats 4000000 in
theorem c_X11_fault (l : Launch) (E : ET)   : CI l yX11_fault wsX11_fault rmX11_fault E [.ref (ea E 87)] (vc_X11_fault ) := by
  refine CI.of (cc := cX11_fault) (maxL := 1) (own := RX11) (by decide) rfl rfl (Nat.le_of_ble_eq_true rfl) ?_
  intro Z I J Q hE hl X R h
  subst hE
  subst hl
  show GW Z 1 I J 0 [(0, .ref (ea (zE Z) 87))] []
  refine g_aload_n X dX11_fault_0 rfl 0 rfl ?_
  refine g_callVI X (As := []) (rest := []) (T := TX11) (N := 39) (c_X11_isRead (zl Z) (zE Z) ) gX11_fault_X11_isRead yo_X11_isRead rfl ⟨Nat.le_of_ble_eq_true rfl, Nat.le_of_ble_eq_true rfl⟩ (Nat.le_of_ble_eq_true rfl) rfl rfl rfl dX11_fault_1 h (fun r3 I1 J2 h => ?_)
  refine g_if_eq X (tgt := 11) dX11_fault_4 (by decide) (fun c4 => ?_) (fun c4 => ?_)
  · have h := h.1 c4
    refine g_aload_n X dX11_fault_11 rfl 0 rfl ?_
    refine g_geti X (C := RX11) (T := TX11) (N := 39) (ci := 9) (k := 14) iX11_fault_X11 rfl kX11_fault_132 (Nat.le_of_ble_eq_true rfl) rfl (by decide) rfl rfl dX11_fault_12 ?_
    exact g_iret X R dX11_fault_15 h
  · have h := h.2 c4
    refine g_iconst X (v := (-1)) dX11_fault_7 (by decide) ?_
    refine g_goto X (tgt := 15) dX11_fault_8 (by decide) ?_
    exact g_iret X R dX11_fault_15 h

/-! X11_doLine.doLine(I)V -/
def rmX11_doLine : Room := { frames := 0, cells := 0, slots := 0, locals := 0 }
theorem yo_X11_doLine : yX11_doLine.cls = RX11 ∧ yX11_doLine.cls ≠ "java/lang/invoke/MethodHandle" ∧ yX11_doLine.cls ≠ "java/lang/invoke/VarHandle" ∧ (parseMethodDescriptor yX11_doLine.desc).map (fun d => d.parameters.length) = some 1 := by decide +kernel
theorem kX11_doLine_78 : Cond.fieldLink RX11 78 "SnowCourseModel" (TX11 4).2.1 (TX11 4).2.2.1 ∈ wsX11_doLine := by decide +kernel
theorem iX11_doLine_X11 : ∀ w ∈ u_ws RX11 TX11 39, w ∈ wsX11_doLine := by decide +kernel
theorem kX11_doLine_98 : Cond.fieldLink RX11 98 "SnowCourseModel" (TX11 2).2.1 (TX11 2).2.2.1 ∈ wsX11_doLine := by decide +kernel
theorem kX11_doLine_91 : Cond.fieldLink RX11 91 "SnowCourseModel" (TX11 0).2.1 (TX11 0).2.2.1 ∈ wsX11_doLine := by decide +kernel
theorem kX11_doLine_22 : Cond.fieldLink RX11 22 "SnowCourseModel" (TX11 19).2.1 (TX11 19).2.2.1 ∈ wsX11_doLine := by decide +kernel
theorem kX11_doLine_197 : Cond.fieldLink RX11 197 "SnowCourseModel" (TX11 6).2.1 (TX11 6).2.2.1 ∈ wsX11_doLine := by decide +kernel
theorem kX11_doLine_16 : Cond.fieldLink RX11 16 "SnowCourseModel" (TX11 5).2.1 (TX11 5).2.2.1 ∈ wsX11_doLine := by decide +kernel
theorem kX11_doLine_13 : Cond.fieldLink RX11 13 "SnowCourseModel" (TX11 3).2.1 (TX11 3).2.2.1 ∈ wsX11_doLine := by decide +kernel
theorem kX11_doLine_7 : Cond.fieldLink RX11 7 "SnowCourseModel" (TX11 1).2.1 (TX11 1).2.2.1 ∈ wsX11_doLine := by decide +kernel
def vc_X11_doLine_B291  (Q : MI → MJ → Prop)  (s1 : Int32) (I : MI) (J : MJ) : Prop := ∀ I1 : MI, I1 = wI I 87 4 s1 → Q I1 J
set_option maxRecDepth 100000 in
set_option maxHeartbeats 4000000 in
theorem w_X11_doLine_B291 {Z : RT}  (X : Cx Z cX11_doLine 3 RX11 wsX11_doLine rmX11_doLine none) {Q : MI → MJ → Prop} (R : RV Z Q)    (s1 : Int32) (I : MI) (J : MJ) (h : vc_X11_doLine_B291  Q  s1 I J) : GW Z 3 I J 291 [] [.int s1, .ref (ea (zE Z) 87)] := by
  refine g_puti X (C := RX11) (T := TX11) (N := 39) (ci := 9) (k := 4) (ty0 := tyX11) iX11_doLine_X11 tyX11_ok nmX11 rfl kX11_doLine_78 (Nat.le_of_ble_eq_true rfl) rfl (by decide) rfl rfl (by decide +kernel) rfl dX11_doLine_291 ?_
  refine g_nmI (fun I1 eI1 => ?_)
  have h := h I1 eI1
  exact g_vret X R dX11_doLine_294 h
def vc_X11_doLine_B273  (Q : MI → MJ → Prop)  (v2 : Int32) (s1 : Int32) (I : MI) (J : MJ) : Prop := ∀ I2 : MI, I2 = wI I 87 2 s1 → ((¬ v2 = 10 → vc_X11_doLine_B291  Q  (I2 87 4) I2 J) ∧ (v2 = 10 → vc_X11_doLine_B291  Q  0 I2 J))
set_option maxRecDepth 100000 in
set_option maxHeartbeats 4000000 in
theorem w_X11_doLine_B273 {Z : RT}  (X : Cx Z cX11_doLine 3 RX11 wsX11_doLine rmX11_doLine none) {Q : MI → MJ → Prop} (R : RV Z Q)    (v2 : Int32) (s1 : Int32) (I : MI) (J : MJ) (h : vc_X11_doLine_B273  Q  v2 s1 I J) : GW Z 3 I J 273 [(0, .ref (ea (zE Z) 87)), (2, .int v2)] [.int s1, .ref (ea (zE Z) 87)] := by
  refine g_puti X (C := RX11) (T := TX11) (N := 39) (ci := 9) (k := 2) (ty0 := tyX11) iX11_doLine_X11 tyX11_ok nmX11 rfl kX11_doLine_98 (Nat.le_of_ble_eq_true rfl) rfl (by decide) rfl rfl (by decide +kernel) rfl dX11_doLine_273 ?_
  refine g_nmI (fun I2 eI2 => ?_)
  have h := h I2 eI2
  refine g_aload_n X dX11_doLine_276 rfl 0 rfl ?_
  refine g_iload_n X dX11_doLine_277 rfl 1 rfl ?_
  refine g_bipush X (v := 10) dX11_doLine_278 (by decide) ?_
  refine g_icmp_ne X (tgt := 287) dX11_doLine_280 (by decide) (fun c3 => ?_) (fun c3 => ?_)
  · have h := h.1 c3
    refine g_aload_n X dX11_doLine_287 rfl 0 rfl ?_
    refine g_geti X (C := RX11) (T := TX11) (N := 39) (ci := 9) (k := 4) iX11_doLine_X11 rfl kX11_doLine_78 (Nat.le_of_ble_eq_true rfl) rfl (by decide) rfl rfl dX11_doLine_288 ?_
    refine GW.sub (lv' := []) [] rfl ?_
    exact w_X11_doLine_B291 X R   (I2 87 4) I2 J h
  · have h := h.2 c3
    refine g_iconst X (v := 0) dX11_doLine_283 (by decide) ?_
    refine g_goto X (tgt := 291) dX11_doLine_284 (by decide) ?_
    refine GW.sub (lv' := []) [] rfl ?_
    exact w_X11_doLine_B291 X R   0 I2 J h
def vc_X11_doLine_B255  (Q : MI → MJ → Prop)  (v2 : Int32) (s1 : Int32) (I : MI) (J : MJ) : Prop := ∀ I4 : MI, I4 = wI I 87 0 s1 → ((¬ v2 = 10 → vc_X11_doLine_B273  Q  v2 (I4 87 2) I4 J) ∧ (v2 = 10 → vc_X11_doLine_B273  Q  v2 0 I4 J))
set_option maxRecDepth 100000 in
set_option maxHeartbeats 4000000 in
theorem w_X11_doLine_B255 {Z : RT}  (X : Cx Z cX11_doLine 3 RX11 wsX11_doLine rmX11_doLine none) {Q : MI → MJ → Prop} (R : RV Z Q)    (v2 : Int32) (s1 : Int32) (I : MI) (J : MJ) (h : vc_X11_doLine_B255  Q  v2 s1 I J) : GW Z 3 I J 255 [(0, .ref (ea (zE Z) 87)), (2, .int v2)] [.int s1, .ref (ea (zE Z) 87)] := by
  refine g_puti X (C := RX11) (T := TX11) (N := 39) (ci := 9) (k := 0) (ty0 := tyX11) iX11_doLine_X11 tyX11_ok nmX11 rfl kX11_doLine_91 (Nat.le_of_ble_eq_true rfl) rfl (by decide) rfl rfl (by decide +kernel) rfl dX11_doLine_255 ?_
  refine g_nmI (fun I4 eI4 => ?_)
  have h := h I4 eI4
  refine g_aload_n X dX11_doLine_258 rfl 0 rfl ?_
  refine g_iload_n X dX11_doLine_259 rfl 1 rfl ?_
  refine g_bipush X (v := 10) dX11_doLine_260 (by decide) ?_
  refine g_icmp_ne X (tgt := 269) dX11_doLine_262 (by decide) (fun c5 => ?_) (fun c5 => ?_)
  · have h := h.1 c5
    refine g_aload_n X dX11_doLine_269 rfl 0 rfl ?_
    refine g_geti X (C := RX11) (T := TX11) (N := 39) (ci := 9) (k := 2) iX11_doLine_X11 rfl kX11_doLine_98 (Nat.le_of_ble_eq_true rfl) rfl (by decide) rfl rfl dX11_doLine_270 ?_
    refine GW.sub (lv' := [(0, .ref (ea (zE Z) 87)), (2, .int v2)]) [0, 1] rfl ?_
    exact w_X11_doLine_B273 X R   v2 (I4 87 2) I4 J h
  · have h := h.2 c5
    refine g_iconst X (v := 0) dX11_doLine_265 (by decide) ?_
    refine g_goto X (tgt := 273) dX11_doLine_266 (by decide) ?_
    refine GW.sub (lv' := [(0, .ref (ea (zE Z) 87)), (2, .int v2)]) [0, 1] rfl ?_
    exact w_X11_doLine_B273 X R   v2 0 I4 J h
def vc_X11_doLine (p1 : Int32) (I : MI) (J : MJ) (Q : MI → MJ → Prop) : Prop := vp_in p1 56 ∧ ∀ x7 : Int32, x7 = I 92 (Int32.toNatClampNeg p1) → ((4 ≤ x7 → ((7 ≤ x7 → ((10 ≤ x7 → ((¬ x7 = 11 → ∀ J12 : MJ, J12 = wJ J 87 6 0 → ((¬ x7 = 10 → vc_X11_doLine_B255  Q  x7 (I 87 0) I J12) ∧ (x7 = 10 → vc_X11_doLine_B255  Q  x7 0 I J12))) ∧ (x7 = 11 → vp_in (p1 + 1) 56 ∧ ∀ J15 : MJ, J15 = wJ J 87 6 ((J 87 6) ||| (1 <<< (Int32.toInt64 (I 92 (Int32.toNatClampNeg (p1 + 1))) &&& 63))) → Q I J15))) ∧ (¬ 10 ≤ x7 → vp_in (3 * (I 87 4)) 12 ∧ ∀ I17 : MI, I17 = wI I 90 (Int32.toNatClampNeg (3 * (I 87 4))) (x7 - 7) → vp_in (p1 + 1) 56 ∧ vp_in ((3 * (I17 87 4)) + 1) 12 ∧ ∀ I20 : MI, I20 = wI I17 90 (Int32.toNatClampNeg ((3 * (I17 87 4)) + 1)) (I17 92 (Int32.toNatClampNeg (p1 + 1))) → vp_in (p1 + 2) 56 ∧ vp_in ((3 * (I20 87 4)) + 2) 12 ∧ ∀ I23 : MI, I23 = wI I20 90 (Int32.toNatClampNeg ((3 * (I20 87 4)) + 2)) (I20 92 (Int32.toNatClampNeg (p1 + 2))) → ∀ I24 : MI, I24 = wI I23 87 4 ((I23 87 4) + 1) → Q I24 J))) ∧ (¬ 7 ≤ x7 → vp_in (p1 + 1) 56 ∧ vp_in (4 * (I 87 2)) 36 ∧ ∀ I27 : MI, I27 = wI I 89 (Int32.toNatClampNeg (4 * (I 87 2))) (I 92 (Int32.toNatClampNeg (p1 + 1))) → vp_in (p1 + 2) 56 ∧ vp_in ((4 * (I27 87 2)) + 1) 36 ∧ ∀ I30 : MI, I30 = wI I27 89 (Int32.toNatClampNeg ((4 * (I27 87 2)) + 1)) (I27 92 (Int32.toNatClampNeg (p1 + 2))) → vp_in (p1 + 3) 56 ∧ vp_in ((4 * (I30 87 2)) + 2) 36 ∧ ∀ I33 : MI, I33 = wI I30 89 (Int32.toNatClampNeg ((4 * (I30 87 2)) + 2)) (I30 92 (Int32.toNatClampNeg (p1 + 3))) → vp_in ((4 * (I33 87 2)) + 3) 36 ∧ ∀ I35 : MI, I35 = wI I33 89 (Int32.toNatClampNeg ((4 * (I33 87 2)) + 3)) (x7 - 4) → ∀ I36 : MI, I36 = wI I35 87 2 ((I35 87 2) + 1) → Q I36 J))) ∧ (¬ 4 ≤ x7 → vp_in (I 87 0) 7 ∧ ∀ I38 : MI, I38 = wI I 88 (Int32.toNatClampNeg (I 87 0)) x7 → ∀ I39 : MI, I39 = wI I38 87 0 ((I38 87 0) + 1) → Q I39 J))
set_option maxRecDepth 100000 in
set_option maxHeartbeats 4000000 in
theorem c_X11_doLine (l : Launch) (E : ET)  (p1 : Int32) : CV l yX11_doLine wsX11_doLine rmX11_doLine E [.ref (ea E 87), .int p1] (vc_X11_doLine p1) := by
  refine CV.of (cc := cX11_doLine) (maxL := 3) (own := RX11) (by decide) rfl rfl (Nat.le_of_ble_eq_true rfl) ?_
  intro Z I J Q hE hl X R h
  subst hE
  subst hl
  show GW Z 3 I J 0 [(0, .ref (ea (zE Z) 87)), (1, .int p1)] []
  refine g_aload_n X dX11_doLine_0 rfl 0 rfl ?_
  refine g_getr X (C := RX11) (T := TX11) (N := 39) (ci := 9) (k := 19) iX11_doLine_X11 rfl kX11_doLine_22 (Nat.le_of_ble_eq_true rfl) rfl (by decide) rfl rfl dX11_doLine_1 ?_
  refine g_iload_n X dX11_doLine_4 rfl 1 rfl ?_
  obtain ⟨b6, h⟩ := h
  refine g_iald X (Nat.le_of_ble_eq_true rfl) rfl b6 dX11_doLine_5 ?_
  refine g_topi (fun x7 ex7 => ?_)
  have h := h x7 ex7
  refine g_istore_n X (lv' := [(2, .int x7), (0, .ref (ea (zE Z) 87)), (1, .int p1)]) dX11_doLine_6 rfl (by decide) rfl ?_
  refine g_iload_n X dX11_doLine_7 rfl 0 rfl ?_
  refine g_iconst X (v := 4) dX11_doLine_8 (by decide) ?_
  refine g_icmp_ge X (tgt := 35) dX11_doLine_9 (by decide) (fun c8 => ?_) (fun c8 => ?_)
  · have h := h.1 c8
    refine g_iload_n X dX11_doLine_35 rfl 0 rfl ?_
    refine g_bipush X (v := 7) dX11_doLine_36 (by decide) ?_
    refine g_icmp_ge X (tgt := 131) dX11_doLine_38 (by decide) (fun c9 => ?_) (fun c9 => ?_)
    · have h := h.1 c9
      refine g_iload_n X dX11_doLine_131 rfl 0 rfl ?_
      refine g_bipush X (v := 10) dX11_doLine_132 (by decide) ?_
      refine g_icmp_ge X (tgt := 207) dX11_doLine_134 (by decide) (fun c10 => ?_) (fun c10 => ?_)
      · have h := h.1 c10
        refine g_iload_n X dX11_doLine_207 rfl 0 rfl ?_
        refine g_bipush X (v := 11) dX11_doLine_208 (by decide) ?_
        refine g_icmp_ne X (tgt := 235) dX11_doLine_210 (by decide) (fun c11 => ?_) (fun c11 => ?_)
        · have h := h.1 c11
          refine g_aload_n X dX11_doLine_235 rfl 1 rfl ?_
          refine g_lconst X (v := 0) dX11_doLine_236 (by decide) ?_
          refine g_putl X (C := RX11) (T := TX11) (N := 39) (ci := 9) (k := 6) (ty0 := tyX11) iX11_doLine_X11 tyX11_ok nmX11 rfl kX11_doLine_197 (Nat.le_of_ble_eq_true rfl) rfl (by decide) rfl rfl (by decide +kernel) rfl dX11_doLine_237 ?_
          refine g_nmJ (fun J12 eJ12 => ?_)
          have h := h J12 eJ12
          refine g_aload_n X dX11_doLine_240 rfl 1 rfl ?_
          refine g_iload_n X dX11_doLine_241 rfl 0 rfl ?_
          refine g_bipush X (v := 10) dX11_doLine_242 (by decide) ?_
          refine g_icmp_ne X (tgt := 251) dX11_doLine_244 (by decide) (fun c13 => ?_) (fun c13 => ?_)
          · have h := h.1 c13
            refine g_aload_n X dX11_doLine_251 rfl 1 rfl ?_
            refine g_geti X (C := RX11) (T := TX11) (N := 39) (ci := 9) (k := 0) iX11_doLine_X11 rfl kX11_doLine_91 (Nat.le_of_ble_eq_true rfl) rfl (by decide) rfl rfl dX11_doLine_252 ?_
            refine GW.sub (lv' := [(0, .ref (ea (zE Z) 87)), (2, .int x7)]) [1, 0] rfl ?_
            exact w_X11_doLine_B255 X R   x7 (I 87 0) I J12 h
          · have h := h.2 c13
            refine g_iconst X (v := 0) dX11_doLine_247 (by decide) ?_
            refine g_goto X (tgt := 255) dX11_doLine_248 (by decide) ?_
            refine GW.sub (lv' := [(0, .ref (ea (zE Z) 87)), (2, .int x7)]) [1, 0] rfl ?_
            exact w_X11_doLine_B255 X R   x7 0 I J12 h
        · have h := h.2 c11
          refine g_aload_n X dX11_doLine_213 rfl 1 rfl ?_
          refine g_aload_n X dX11_doLine_214 rfl 1 rfl ?_
          refine g_getl X (C := RX11) (T := TX11) (N := 39) (ci := 9) (k := 6) iX11_doLine_X11 rfl kX11_doLine_197 (Nat.le_of_ble_eq_true rfl) rfl (by decide) rfl rfl dX11_doLine_215 ?_
          refine g_lconst X (v := 1) dX11_doLine_218 (by decide) ?_
          refine g_aload_n X dX11_doLine_219 rfl 1 rfl ?_
          refine g_getr X (C := RX11) (T := TX11) (N := 39) (ci := 9) (k := 19) iX11_doLine_X11 rfl kX11_doLine_22 (Nat.le_of_ble_eq_true rfl) rfl (by decide) rfl rfl dX11_doLine_220 ?_
          refine g_iload_n X dX11_doLine_223 rfl 2 rfl ?_
          refine g_iconst X (v := 1) dX11_doLine_224 (by decide) ?_
          refine g_iadd X dX11_doLine_225 ?_
          obtain ⟨b14, h⟩ := h
          refine g_iald X (Nat.le_of_ble_eq_true rfl) rfl b14 dX11_doLine_226 ?_
          refine g_lshl X dX11_doLine_227 ?_
          refine g_lor X dX11_doLine_228 ?_
          refine g_putl X (C := RX11) (T := TX11) (N := 39) (ci := 9) (k := 6) (ty0 := tyX11) iX11_doLine_X11 tyX11_ok nmX11 rfl kX11_doLine_197 (Nat.le_of_ble_eq_true rfl) rfl (by decide) rfl rfl (by decide +kernel) rfl dX11_doLine_229 ?_
          refine g_nmJ (fun J15 eJ15 => ?_)
          have h := h J15 eJ15
          refine g_goto X (tgt := 294) dX11_doLine_232 (by decide) ?_
          exact g_vret X R dX11_doLine_294 h
      · have h := h.2 c10
        refine g_aload_n X dX11_doLine_137 rfl 1 rfl ?_
        refine g_getr X (C := RX11) (T := TX11) (N := 39) (ci := 9) (k := 5) iX11_doLine_X11 rfl kX11_doLine_16 (Nat.le_of_ble_eq_true rfl) rfl (by decide) rfl rfl dX11_doLine_138 ?_
        refine g_iconst X (v := 3) dX11_doLine_141 (by decide) ?_
        refine g_aload_n X dX11_doLine_142 rfl 1 rfl ?_
        refine g_geti X (C := RX11) (T := TX11) (N := 39) (ci := 9) (k := 4) iX11_doLine_X11 rfl kX11_doLine_78 (Nat.le_of_ble_eq_true rfl) rfl (by decide) rfl rfl dX11_doLine_143 ?_
        refine g_imul X dX11_doLine_146 ?_
        refine g_iload_n X dX11_doLine_147 rfl 0 rfl ?_
        refine g_bipush X (v := 7) dX11_doLine_148 (by decide) ?_
        refine g_isub X dX11_doLine_150 ?_
        obtain ⟨b16, h⟩ := h
        refine g_iast X (Nat.le_of_ble_eq_true rfl) rfl b16 dX11_doLine_151 ?_
        refine g_nmI (fun I17 eI17 => ?_)
        have h := h I17 eI17
        refine g_aload_n X dX11_doLine_152 rfl 1 rfl ?_
        refine g_getr X (C := RX11) (T := TX11) (N := 39) (ci := 9) (k := 5) iX11_doLine_X11 rfl kX11_doLine_16 (Nat.le_of_ble_eq_true rfl) rfl (by decide) rfl rfl dX11_doLine_153 ?_
        refine g_iconst X (v := 3) dX11_doLine_156 (by decide) ?_
        refine g_aload_n X dX11_doLine_157 rfl 1 rfl ?_
        refine g_geti X (C := RX11) (T := TX11) (N := 39) (ci := 9) (k := 4) iX11_doLine_X11 rfl kX11_doLine_78 (Nat.le_of_ble_eq_true rfl) rfl (by decide) rfl rfl dX11_doLine_158 ?_
        refine g_imul X dX11_doLine_161 ?_
        refine g_iconst X (v := 1) dX11_doLine_162 (by decide) ?_
        refine g_iadd X dX11_doLine_163 ?_
        refine g_aload_n X dX11_doLine_164 rfl 1 rfl ?_
        refine g_getr X (C := RX11) (T := TX11) (N := 39) (ci := 9) (k := 19) iX11_doLine_X11 rfl kX11_doLine_22 (Nat.le_of_ble_eq_true rfl) rfl (by decide) rfl rfl dX11_doLine_165 ?_
        refine g_iload_n X dX11_doLine_168 rfl 2 rfl ?_
        refine g_iconst X (v := 1) dX11_doLine_169 (by decide) ?_
        refine g_iadd X dX11_doLine_170 ?_
        obtain ⟨b18, h⟩ := h
        refine g_iald X (Nat.le_of_ble_eq_true rfl) rfl b18 dX11_doLine_171 ?_
        obtain ⟨b19, h⟩ := h
        refine g_iast X (Nat.le_of_ble_eq_true rfl) rfl b19 dX11_doLine_172 ?_
        refine g_nmI (fun I20 eI20 => ?_)
        have h := h I20 eI20
        refine g_aload_n X dX11_doLine_173 rfl 1 rfl ?_
        refine g_getr X (C := RX11) (T := TX11) (N := 39) (ci := 9) (k := 5) iX11_doLine_X11 rfl kX11_doLine_16 (Nat.le_of_ble_eq_true rfl) rfl (by decide) rfl rfl dX11_doLine_174 ?_
        refine g_iconst X (v := 3) dX11_doLine_177 (by decide) ?_
        refine g_aload_n X dX11_doLine_178 rfl 1 rfl ?_
        refine g_geti X (C := RX11) (T := TX11) (N := 39) (ci := 9) (k := 4) iX11_doLine_X11 rfl kX11_doLine_78 (Nat.le_of_ble_eq_true rfl) rfl (by decide) rfl rfl dX11_doLine_179 ?_
        refine g_imul X dX11_doLine_182 ?_
        refine g_iconst X (v := 2) dX11_doLine_183 (by decide) ?_
        refine g_iadd X dX11_doLine_184 ?_
        refine g_aload_n X dX11_doLine_185 rfl 1 rfl ?_
        refine g_getr X (C := RX11) (T := TX11) (N := 39) (ci := 9) (k := 19) iX11_doLine_X11 rfl kX11_doLine_22 (Nat.le_of_ble_eq_true rfl) rfl (by decide) rfl rfl dX11_doLine_186 ?_
        refine g_iload_n X dX11_doLine_189 rfl 2 rfl ?_
        refine g_iconst X (v := 2) dX11_doLine_190 (by decide) ?_
        refine g_iadd X dX11_doLine_191 ?_
        obtain ⟨b21, h⟩ := h
        refine g_iald X (Nat.le_of_ble_eq_true rfl) rfl b21 dX11_doLine_192 ?_
        obtain ⟨b22, h⟩ := h
        refine g_iast X (Nat.le_of_ble_eq_true rfl) rfl b22 dX11_doLine_193 ?_
        refine g_nmI (fun I23 eI23 => ?_)
        have h := h I23 eI23
        refine g_aload_n X dX11_doLine_194 rfl 1 rfl ?_
        refine g_dup X dX11_doLine_195 rfl ?_
        refine g_geti X (C := RX11) (T := TX11) (N := 39) (ci := 9) (k := 4) iX11_doLine_X11 rfl kX11_doLine_78 (Nat.le_of_ble_eq_true rfl) rfl (by decide) rfl rfl dX11_doLine_196 ?_
        refine g_iconst X (v := 1) dX11_doLine_199 (by decide) ?_
        refine g_iadd X dX11_doLine_200 ?_
        refine g_puti X (C := RX11) (T := TX11) (N := 39) (ci := 9) (k := 4) (ty0 := tyX11) iX11_doLine_X11 tyX11_ok nmX11 rfl kX11_doLine_78 (Nat.le_of_ble_eq_true rfl) rfl (by decide) rfl rfl (by decide +kernel) rfl dX11_doLine_201 ?_
        refine g_nmI (fun I24 eI24 => ?_)
        have h := h I24 eI24
        refine g_goto X (tgt := 294) dX11_doLine_204 (by decide) ?_
        exact g_vret X R dX11_doLine_294 h
    · have h := h.2 c9
      refine g_aload_n X dX11_doLine_41 rfl 1 rfl ?_
      refine g_getr X (C := RX11) (T := TX11) (N := 39) (ci := 9) (k := 3) iX11_doLine_X11 rfl kX11_doLine_13 (Nat.le_of_ble_eq_true rfl) rfl (by decide) rfl rfl dX11_doLine_42 ?_
      refine g_iconst X (v := 4) dX11_doLine_45 (by decide) ?_
      refine g_aload_n X dX11_doLine_46 rfl 1 rfl ?_
      refine g_geti X (C := RX11) (T := TX11) (N := 39) (ci := 9) (k := 2) iX11_doLine_X11 rfl kX11_doLine_98 (Nat.le_of_ble_eq_true rfl) rfl (by decide) rfl rfl dX11_doLine_47 ?_
      refine g_imul X dX11_doLine_50 ?_
      refine g_aload_n X dX11_doLine_51 rfl 1 rfl ?_
      refine g_getr X (C := RX11) (T := TX11) (N := 39) (ci := 9) (k := 19) iX11_doLine_X11 rfl kX11_doLine_22 (Nat.le_of_ble_eq_true rfl) rfl (by decide) rfl rfl dX11_doLine_52 ?_
      refine g_iload_n X dX11_doLine_55 rfl 2 rfl ?_
      refine g_iconst X (v := 1) dX11_doLine_56 (by decide) ?_
      refine g_iadd X dX11_doLine_57 ?_
      obtain ⟨b25, h⟩ := h
      refine g_iald X (Nat.le_of_ble_eq_true rfl) rfl b25 dX11_doLine_58 ?_
      obtain ⟨b26, h⟩ := h
      refine g_iast X (Nat.le_of_ble_eq_true rfl) rfl b26 dX11_doLine_59 ?_
      refine g_nmI (fun I27 eI27 => ?_)
      have h := h I27 eI27
      refine g_aload_n X dX11_doLine_60 rfl 1 rfl ?_
      refine g_getr X (C := RX11) (T := TX11) (N := 39) (ci := 9) (k := 3) iX11_doLine_X11 rfl kX11_doLine_13 (Nat.le_of_ble_eq_true rfl) rfl (by decide) rfl rfl dX11_doLine_61 ?_
      refine g_iconst X (v := 4) dX11_doLine_64 (by decide) ?_
      refine g_aload_n X dX11_doLine_65 rfl 1 rfl ?_
      refine g_geti X (C := RX11) (T := TX11) (N := 39) (ci := 9) (k := 2) iX11_doLine_X11 rfl kX11_doLine_98 (Nat.le_of_ble_eq_true rfl) rfl (by decide) rfl rfl dX11_doLine_66 ?_
      refine g_imul X dX11_doLine_69 ?_
      refine g_iconst X (v := 1) dX11_doLine_70 (by decide) ?_
      refine g_iadd X dX11_doLine_71 ?_
      refine g_aload_n X dX11_doLine_72 rfl 1 rfl ?_
      refine g_getr X (C := RX11) (T := TX11) (N := 39) (ci := 9) (k := 19) iX11_doLine_X11 rfl kX11_doLine_22 (Nat.le_of_ble_eq_true rfl) rfl (by decide) rfl rfl dX11_doLine_73 ?_
      refine g_iload_n X dX11_doLine_76 rfl 2 rfl ?_
      refine g_iconst X (v := 2) dX11_doLine_77 (by decide) ?_
      refine g_iadd X dX11_doLine_78 ?_
      obtain ⟨b28, h⟩ := h
      refine g_iald X (Nat.le_of_ble_eq_true rfl) rfl b28 dX11_doLine_79 ?_
      obtain ⟨b29, h⟩ := h
      refine g_iast X (Nat.le_of_ble_eq_true rfl) rfl b29 dX11_doLine_80 ?_
      refine g_nmI (fun I30 eI30 => ?_)
      have h := h I30 eI30
      refine g_aload_n X dX11_doLine_81 rfl 1 rfl ?_
      refine g_getr X (C := RX11) (T := TX11) (N := 39) (ci := 9) (k := 3) iX11_doLine_X11 rfl kX11_doLine_13 (Nat.le_of_ble_eq_true rfl) rfl (by decide) rfl rfl dX11_doLine_82 ?_
      refine g_iconst X (v := 4) dX11_doLine_85 (by decide) ?_
      refine g_aload_n X dX11_doLine_86 rfl 1 rfl ?_
      refine g_geti X (C := RX11) (T := TX11) (N := 39) (ci := 9) (k := 2) iX11_doLine_X11 rfl kX11_doLine_98 (Nat.le_of_ble_eq_true rfl) rfl (by decide) rfl rfl dX11_doLine_87 ?_
      refine g_imul X dX11_doLine_90 ?_
      refine g_iconst X (v := 2) dX11_doLine_91 (by decide) ?_
      refine g_iadd X dX11_doLine_92 ?_
      refine g_aload_n X dX11_doLine_93 rfl 1 rfl ?_
      refine g_getr X (C := RX11) (T := TX11) (N := 39) (ci := 9) (k := 19) iX11_doLine_X11 rfl kX11_doLine_22 (Nat.le_of_ble_eq_true rfl) rfl (by decide) rfl rfl dX11_doLine_94 ?_
      refine g_iload_n X dX11_doLine_97 rfl 2 rfl ?_
      refine g_iconst X (v := 3) dX11_doLine_98 (by decide) ?_
      refine g_iadd X dX11_doLine_99 ?_
      obtain ⟨b31, h⟩ := h
      refine g_iald X (Nat.le_of_ble_eq_true rfl) rfl b31 dX11_doLine_100 ?_
      obtain ⟨b32, h⟩ := h
      refine g_iast X (Nat.le_of_ble_eq_true rfl) rfl b32 dX11_doLine_101 ?_
      refine g_nmI (fun I33 eI33 => ?_)
      have h := h I33 eI33
      refine g_aload_n X dX11_doLine_102 rfl 1 rfl ?_
      refine g_getr X (C := RX11) (T := TX11) (N := 39) (ci := 9) (k := 3) iX11_doLine_X11 rfl kX11_doLine_13 (Nat.le_of_ble_eq_true rfl) rfl (by decide) rfl rfl dX11_doLine_103 ?_
      refine g_iconst X (v := 4) dX11_doLine_106 (by decide) ?_
      refine g_aload_n X dX11_doLine_107 rfl 1 rfl ?_
      refine g_geti X (C := RX11) (T := TX11) (N := 39) (ci := 9) (k := 2) iX11_doLine_X11 rfl kX11_doLine_98 (Nat.le_of_ble_eq_true rfl) rfl (by decide) rfl rfl dX11_doLine_108 ?_
      refine g_imul X dX11_doLine_111 ?_
      refine g_iconst X (v := 3) dX11_doLine_112 (by decide) ?_
      refine g_iadd X dX11_doLine_113 ?_
      refine g_iload_n X dX11_doLine_114 rfl 0 rfl ?_
      refine g_iconst X (v := 4) dX11_doLine_115 (by decide) ?_
      refine g_isub X dX11_doLine_116 ?_
      obtain ⟨b34, h⟩ := h
      refine g_iast X (Nat.le_of_ble_eq_true rfl) rfl b34 dX11_doLine_117 ?_
      refine g_nmI (fun I35 eI35 => ?_)
      have h := h I35 eI35
      refine g_aload_n X dX11_doLine_118 rfl 1 rfl ?_
      refine g_dup X dX11_doLine_119 rfl ?_
      refine g_geti X (C := RX11) (T := TX11) (N := 39) (ci := 9) (k := 2) iX11_doLine_X11 rfl kX11_doLine_98 (Nat.le_of_ble_eq_true rfl) rfl (by decide) rfl rfl dX11_doLine_120 ?_
      refine g_iconst X (v := 1) dX11_doLine_123 (by decide) ?_
      refine g_iadd X dX11_doLine_124 ?_
      refine g_puti X (C := RX11) (T := TX11) (N := 39) (ci := 9) (k := 2) (ty0 := tyX11) iX11_doLine_X11 tyX11_ok nmX11 rfl kX11_doLine_98 (Nat.le_of_ble_eq_true rfl) rfl (by decide) rfl rfl (by decide +kernel) rfl dX11_doLine_125 ?_
      refine g_nmI (fun I36 eI36 => ?_)
      have h := h I36 eI36
      refine g_goto X (tgt := 294) dX11_doLine_128 (by decide) ?_
      exact g_vret X R dX11_doLine_294 h
  · have h := h.2 c8
    refine g_aload_n X dX11_doLine_12 rfl 1 rfl ?_
    refine g_getr X (C := RX11) (T := TX11) (N := 39) (ci := 9) (k := 1) iX11_doLine_X11 rfl kX11_doLine_7 (Nat.le_of_ble_eq_true rfl) rfl (by decide) rfl rfl dX11_doLine_13 ?_
    refine g_aload_n X dX11_doLine_16 rfl 1 rfl ?_
    refine g_geti X (C := RX11) (T := TX11) (N := 39) (ci := 9) (k := 0) iX11_doLine_X11 rfl kX11_doLine_91 (Nat.le_of_ble_eq_true rfl) rfl (by decide) rfl rfl dX11_doLine_17 ?_
    refine g_iload_n X dX11_doLine_20 rfl 0 rfl ?_
    obtain ⟨b37, h⟩ := h
    refine g_iast X (Nat.le_of_ble_eq_true rfl) rfl b37 dX11_doLine_21 ?_
    refine g_nmI (fun I38 eI38 => ?_)
    have h := h I38 eI38
    refine g_aload_n X dX11_doLine_22 rfl 1 rfl ?_
    refine g_dup X dX11_doLine_23 rfl ?_
    refine g_geti X (C := RX11) (T := TX11) (N := 39) (ci := 9) (k := 0) iX11_doLine_X11 rfl kX11_doLine_91 (Nat.le_of_ble_eq_true rfl) rfl (by decide) rfl rfl dX11_doLine_24 ?_
    refine g_iconst X (v := 1) dX11_doLine_27 (by decide) ?_
    refine g_iadd X dX11_doLine_28 ?_
    refine g_puti X (C := RX11) (T := TX11) (N := 39) (ci := 9) (k := 0) (ty0 := tyX11) iX11_doLine_X11 tyX11_ok nmX11 rfl kX11_doLine_91 (Nat.le_of_ble_eq_true rfl) rfl (by decide) rfl rfl (by decide +kernel) rfl dX11_doLine_29 ?_
    refine g_nmI (fun I39 eI39 => ?_)
    have h := h I39 eI39
    refine g_goto X (tgt := 294) dX11_doLine_32 (by decide) ?_
    exact g_vret X R dX11_doLine_294 h

/-! X11_land.land()I -/
def rmX11_land : Room := { frames := 6, cells := 0, slots := 0, locals := 129 }
theorem yo_X11_land : yX11_land.cls = RX11 ∧ yX11_land.cls ≠ "java/lang/invoke/MethodHandle" ∧ yX11_land.cls ≠ "java/lang/invoke/VarHandle" ∧ (parseMethodDescriptor yX11_land.desc).map (fun d => d.parameters.length) = some 0 := by decide +kernel
theorem kX11_land_188 : Cond.fieldLink RX11 188 "SnowCourseModel" (TX11 15).2.1 (TX11 15).2.2.1 ∈ wsX11_land := by decide +kernel
theorem iX11_land_X11 : ∀ w ∈ u_ws RX11 TX11 39, w ∈ wsX11_land := by decide +kernel
theorem kX11_land_101 : Cond.fieldLink RX11 101 "SnowCourseModel" (TX11 7).2.1 (TX11 7).2.2.1 ∈ wsX11_land := by decide +kernel
def vc_X11_land_L12s  (Q : Int32 → MI → MJ → Prop)  (k12 : Int32 → MI → MJ → Prop) (v1 : Int32) (I : MI) (J : MJ) : Prop := (((I 87 15) ≤ v1 → ∀ I2 : MI, I2 = wI I 87 7 0 → vc_X11_begin  I2 J (fun (I3 : MI) (J4 : MJ) => Q (I3 87 15) I3 J4)) ∧ (¬ (I 87 15) ≤ v1 → vc_X11_doLine (4 * v1) I J (fun (I5 : MI) (J6 : MJ) => ∀ x7 : Int32, x7 = v1 + 1 → k12 x7 I5 J6)))
def vc_X11_land_L12  (Q : Int32 → MI → MJ → Prop)  (n : Nat) : Int32 → MI → MJ → Prop := Nat.rec (fun _ _ _ => False) (fun _ ih => vc_X11_land_L12s  Q  ih) n
set_option maxRecDepth 100000 in
set_option maxHeartbeats 4000000 in
theorem w_X11_land_L12s {Z : RT}  (X : Cx Z cX11_land 2 RX11 wsX11_land rmX11_land (some .int)) {Q : Int32 → MI → MJ → Prop} (R : RI Z Q)    {k12 : Int32 → MI → MJ → Prop} (hk12 : ∀ (v1 : Int32) (I : MI) (J : MJ), k12 v1 I J → GW Z 2 I J 12 [(0, .ref (ea (zE Z) 87)), (1, .int v1)] []) (v1 : Int32) (I : MI) (J : MJ) (h : vc_X11_land_L12s  Q  k12 v1 I J) : GW Z 2 I J 12 [(0, .ref (ea (zE Z) 87)), (1, .int v1)] [] := by
  refine g_iload_n X dX11_land_12 rfl 1 rfl ?_
  refine g_aload_n X dX11_land_13 rfl 0 rfl ?_
  refine g_geti X (C := RX11) (T := TX11) (N := 39) (ci := 9) (k := 15) iX11_land_X11 rfl kX11_land_188 (Nat.le_of_ble_eq_true rfl) rfl (by decide) rfl rfl dX11_land_14 ?_
  refine g_icmp_ge X (tgt := 33) dX11_land_17 (by decide) (fun c1 => ?_) (fun c1 => ?_)
  · have h := h.1 c1
    refine g_aload_n X dX11_land_33 rfl 0 rfl ?_
    refine g_iconst X (v := 0) dX11_land_34 (by decide) ?_
    refine g_puti X (C := RX11) (T := TX11) (N := 39) (ci := 9) (k := 7) (ty0 := tyX11) iX11_land_X11 tyX11_ok nmX11 rfl kX11_land_101 (Nat.le_of_ble_eq_true rfl) rfl (by decide) rfl rfl (by decide +kernel) rfl dX11_land_35 ?_
    refine g_nmI (fun I2 eI2 => ?_)
    have h := h I2 eI2
    refine g_aload_n X dX11_land_38 rfl 0 rfl ?_
    refine g_callVV X (As := []) (rest := []) (T := TX11) (N := 39) (c_X11_begin (zl Z) (zE Z) ) gX11_land_X11_begin yo_X11_begin rfl ⟨Nat.le_of_ble_eq_true rfl, Nat.le_of_ble_eq_true rfl⟩ (Nat.le_of_ble_eq_true rfl) rfl rfl rfl dX11_land_39 h (fun  I3 J4 h => ?_)
    refine g_aload_n X dX11_land_42 rfl 0 rfl ?_
    refine g_geti X (C := RX11) (T := TX11) (N := 39) (ci := 9) (k := 15) iX11_land_X11 rfl kX11_land_188 (Nat.le_of_ble_eq_true rfl) rfl (by decide) rfl rfl dX11_land_43 ?_
    exact g_iret X R dX11_land_46 h
  · have h := h.2 c1
    refine g_aload_n X dX11_land_20 rfl 0 rfl ?_
    refine g_iconst X (v := 4) dX11_land_21 (by decide) ?_
    refine g_iload_n X dX11_land_22 rfl 1 rfl ?_
    refine g_imul X dX11_land_23 ?_
    refine g_callVV X (As := [.int (4 * v1)]) (rest := []) (T := TX11) (N := 39) (c_X11_doLine (zl Z) (zE Z) (4 * v1)) gX11_land_X11_doLine yo_X11_doLine rfl ⟨Nat.le_of_ble_eq_true rfl, Nat.le_of_ble_eq_true rfl⟩ (Nat.le_of_ble_eq_true rfl) rfl rfl rfl dX11_land_24 h (fun  I5 J6 h => ?_)
    obtain ⟨x7, ex7⟩ : ∃ y : Int32, y = v1 + 1 := ⟨_, rfl⟩
    have h := h x7 ex7
    refine g_iinc X (q := 1) (v := x7) (lv' := [(1, .int x7), (0, .ref (ea (zE Z) 87))]) dX11_land_27 rfl (by rw [ex7]; rfl) (by decide) rfl ?_
    refine g_goto X (tgt := 12) dX11_land_30 (by decide) ?_
    refine GW.sub (lv' := [(0, .ref (ea (zE Z) 87)), (1, .int x7)]) [1, 0] rfl ?_
    exact hk12 x7 I5 J6 h
theorem w_X11_land_L12 {Z : RT}  (X : Cx Z cX11_land 2 RX11 wsX11_land rmX11_land (some .int)) {Q : Int32 → MI → MJ → Prop} (R : RI Z Q)    : ∀ (n : Nat) (v1 : Int32) (I : MI) (J : MJ) (h : vc_X11_land_L12  Q  n v1 I J), GW Z 2 I J 12 [(0, .ref (ea (zE Z) 87)), (1, .int v1)] [] := by
  intro n
  induction n with
  | zero => intro v1 I J h; exact h.elim
  | succ n ih => intro v1 I J h; exact w_X11_land_L12s X R   ih v1 I J h
def vc_X11_land  (I : MI) (J : MJ) (Q : Int32 → MI → MJ → Prop) : Prop := vc_X11_isRead  I J (fun (r10 : Int32) (I8 : MI) (J9 : MJ) => ((¬ r10 = 0 → (∃ n, vc_X11_land_L12  Q  n 0 I8 J9)) ∧ (r10 = 0 → Q (-4) I8 J9)))
set_option maxRecDepth 100000 in
set_option maxHeartbeats 4000000 in
theorem c_X11_land (l : Launch) (E : ET)   : CI l yX11_land wsX11_land rmX11_land E [.ref (ea E 87)] (vc_X11_land ) := by
  refine CI.of (cc := cX11_land) (maxL := 2) (own := RX11) (by decide) rfl rfl (Nat.le_of_ble_eq_true rfl) ?_
  intro Z I J Q hE hl X R h
  subst hE
  subst hl
  show GW Z 2 I J 0 [(0, .ref (ea (zE Z) 87))] []
  refine g_aload_n X dX11_land_0 rfl 0 rfl ?_
  refine g_callVI X (As := []) (rest := []) (T := TX11) (N := 39) (c_X11_isRead (zl Z) (zE Z) ) gX11_land_X11_isRead yo_X11_isRead rfl ⟨Nat.le_of_ble_eq_true rfl, Nat.le_of_ble_eq_true rfl⟩ (Nat.le_of_ble_eq_true rfl) rfl rfl rfl dX11_land_1 h (fun r10 I8 J9 h => ?_)
  refine g_if_ne X (tgt := 10) dX11_land_4 (by decide) (fun c11 => ?_) (fun c11 => ?_)
  · have h := h.1 c11
    refine g_iconst X (v := 0) dX11_land_10 (by decide) ?_
    refine g_istore_n X (lv' := [(1, .int 0), (0, .ref (ea (zE Z) 87))]) dX11_land_11 rfl (by decide) rfl ?_
    refine GW.sub (lv' := [(0, .ref (ea (zE Z) 87)), (1, .int 0)]) [1, 0] rfl ?_
    obtain ⟨n, h⟩ := h
    exact w_X11_land_L12 X R   n 0 I8 J9 h
  · have h := h.2 c11
    refine g_bipush X (v := (-4)) dX11_land_7 (by decide) ?_
    exact g_iret X R dX11_land_9 h
