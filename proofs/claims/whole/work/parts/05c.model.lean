/-! X11_isIn.isIn([J[JII)Z -/
def rmX11_isIn : Room := { frames := 0, cells := 0, slots := 0, locals := 0 }
theorem yo_X11_isIn : yX11_isIn.cls = RX11 ∧ yX11_isIn.cls ≠ "java/lang/invoke/MethodHandle" ∧ yX11_isIn.cls ≠ "java/lang/invoke/VarHandle" ∧ (parseMethodDescriptor yX11_isIn.desc).map (fun d => d.parameters.length) = some 4 := by decide +kernel
def vc_X11_isIn (a0 n0 : Nat) (a1 n1 : Nat) (p2 : Int32) (p3 : Int32) (I : MI) (J : MJ) (Q : Int32 → MI → MJ → Prop) : Prop := ((64 ≤ p3 → vp_in p2 n1 ∧ ((¬ (lg_cmp (((J a1 (Int32.toNatClampNeg p2)) >>> (Int32.toInt64 (p3 - 64) &&& 63)) &&& 1) 1) = 0 → Q 0 I J) ∧ ((lg_cmp (((J a1 (Int32.toNatClampNeg p2)) >>> (Int32.toInt64 (p3 - 64) &&& 63)) &&& 1) 1) = 0 → Q 1 I J))) ∧ (¬ 64 ≤ p3 → vp_in p2 n0 ∧ ((¬ (lg_cmp (((J a0 (Int32.toNatClampNeg p2)) >>> (Int32.toInt64 p3 &&& 63)) &&& 1) 1) = 0 → Q 0 I J) ∧ ((lg_cmp (((J a0 (Int32.toNatClampNeg p2)) >>> (Int32.toInt64 p3 &&& 63)) &&& 1) 1) = 0 → Q 1 I J))))
set_option maxRecDepth 100000 in
set_option maxHeartbeats 4000000 in
theorem c_X11_isIn (l : Launch) (E : ET) {a0 n0 : Nat} {a1 n1 : Nat} (h0 : a0 < 109) (h0_ : kd a0 = (1, n0)) (h1 : a1 < 109) (h1_ : kd a1 = (1, n1)) (p2 : Int32) (p3 : Int32) : CI l yX11_isIn wsX11_isIn rmX11_isIn E [.ref (ea E a0), .ref (ea E a1), .int p2, .int p3] (vc_X11_isIn a0 n0 a1 n1 p2 p3) := by
  refine CI.of (cc := cX11_isIn) (maxL := 4) (own := RX11) (by decide) rfl rfl (Nat.le_of_ble_eq_true rfl) ?_
  intro Z I J Q hE hl X R h
  subst hE
  subst hl
  show GW Z 4 I J 0 [(0, .ref (ea (zE Z) a0)), (1, .ref (ea (zE Z) a1)), (2, .int p2), (3, .int p3)] []
  refine g_iload_n X dX11_isIn_0 rfl 3 rfl ?_
  refine g_bipush X (v := 64) dX11_isIn_1 (by decide) ?_
  refine g_icmp_ge X (tgt := 26) dX11_isIn_3 (by decide) (fun c1 => ?_) (fun c1 => ?_)
  · have h := h.1 c1
    refine g_aload_n X dX11_isIn_26 rfl 1 rfl ?_
    refine g_iload_n X dX11_isIn_27 rfl 2 rfl ?_
    obtain ⟨b2, h⟩ := h
    refine g_lald X h1 h1_ b2 dX11_isIn_28 ?_
    refine g_iload_n X dX11_isIn_29 rfl 3 rfl ?_
    refine g_bipush X (v := 64) dX11_isIn_30 (by decide) ?_
    refine g_isub X dX11_isIn_32 ?_
    refine g_lshr X dX11_isIn_33 ?_
    refine g_lconst X (v := 1) dX11_isIn_34 (by decide) ?_
    refine g_land X dX11_isIn_35 ?_
    refine g_lconst X (v := 1) dX11_isIn_36 (by decide) ?_
    refine g_lcmp X dX11_isIn_37 ?_
    refine g_if_ne X (tgt := 45) dX11_isIn_38 (by decide) (fun c3 => ?_) (fun c3 => ?_)
    · have h := h.1 c3
      refine g_iconst X (v := 0) dX11_isIn_45 (by decide) ?_
      exact g_zret X R (by decide) dX11_isIn_46 h
    · have h := h.2 c3
      refine g_iconst X (v := 1) dX11_isIn_41 (by decide) ?_
      refine g_goto X (tgt := 46) dX11_isIn_42 (by decide) ?_
      exact g_zret X R (by decide) dX11_isIn_46 h
  · have h := h.2 c1
    refine g_aload_n X dX11_isIn_6 rfl 0 rfl ?_
    refine g_iload_n X dX11_isIn_7 rfl 2 rfl ?_
    obtain ⟨b4, h⟩ := h
    refine g_lald X h0 h0_ b4 dX11_isIn_8 ?_
    refine g_iload_n X dX11_isIn_9 rfl 3 rfl ?_
    refine g_lshr X dX11_isIn_10 ?_
    refine g_lconst X (v := 1) dX11_isIn_11 (by decide) ?_
    refine g_land X dX11_isIn_12 ?_
    refine g_lconst X (v := 1) dX11_isIn_13 (by decide) ?_
    refine g_lcmp X dX11_isIn_14 ?_
    refine g_if_ne X (tgt := 22) dX11_isIn_15 (by decide) (fun c5 => ?_) (fun c5 => ?_)
    · have h := h.1 c5
      refine g_iconst X (v := 0) dX11_isIn_22 (by decide) ?_
      refine g_goto X (tgt := 46) dX11_isIn_23 (by decide) ?_
      exact g_zret X R (by decide) dX11_isIn_46 h
    · have h := h.2 c5
      refine g_iconst X (v := 1) dX11_isIn_18 (by decide) ?_
      refine g_goto X (tgt := 46) dX11_isIn_19 (by decide) ?_
      exact g_zret X R (by decide) dX11_isIn_46 h

/-! X11_lay.lay([J[JII)V -/
def rmX11_lay : Room := { frames := 0, cells := 0, slots := 0, locals := 0 }
theorem yo_X11_lay : yX11_lay.cls = RX11 ∧ yX11_lay.cls ≠ "java/lang/invoke/MethodHandle" ∧ yX11_lay.cls ≠ "java/lang/invoke/VarHandle" ∧ (parseMethodDescriptor yX11_lay.desc).map (fun d => d.parameters.length) = some 4 := by decide +kernel
def vc_X11_lay (a0 n0 : Nat) (a1 n1 : Nat) (p2 : Int32) (p3 : Int32) (I : MI) (J : MJ) (Q : MI → MJ → Prop) : Prop := ((64 ≤ p3 → vp_in p2 n1 ∧ vp_in p2 n1 ∧ ∀ J4 : MJ, J4 = wJ J a1 (Int32.toNatClampNeg p2) ((J a1 (Int32.toNatClampNeg p2)) ||| (1 <<< (Int32.toInt64 (p3 - 64) &&& 63))) → Q I J4) ∧ (¬ 64 ≤ p3 → vp_in p2 n0 ∧ vp_in p2 n0 ∧ ∀ J7 : MJ, J7 = wJ J a0 (Int32.toNatClampNeg p2) ((J a0 (Int32.toNatClampNeg p2)) ||| (1 <<< (Int32.toInt64 p3 &&& 63))) → Q I J7))
set_option maxRecDepth 100000 in
set_option maxHeartbeats 4000000 in
theorem c_X11_lay (l : Launch) (E : ET) {a0 n0 : Nat} {a1 n1 : Nat} (h0 : a0 < 109) (h0_ : kd a0 = (1, n0)) (h1 : a1 < 109) (h1_ : kd a1 = (1, n1)) (p2 : Int32) (p3 : Int32) : CV l yX11_lay wsX11_lay rmX11_lay E [.ref (ea E a0), .ref (ea E a1), .int p2, .int p3] (vc_X11_lay a0 n0 a1 n1 p2 p3) := by
  refine CV.of (cc := cX11_lay) (maxL := 4) (own := RX11) (by decide) rfl rfl (Nat.le_of_ble_eq_true rfl) ?_
  intro Z I J Q hE hl X R h
  subst hE
  subst hl
  show GW Z 4 I J 0 [(0, .ref (ea (zE Z) a0)), (1, .ref (ea (zE Z) a1)), (2, .int p2), (3, .int p3)] []
  refine g_iload_n X dX11_lay_0 rfl 3 rfl ?_
  refine g_bipush X (v := 64) dX11_lay_1 (by decide) ?_
  refine g_icmp_ge X (tgt := 19) dX11_lay_3 (by decide) (fun c1 => ?_) (fun c1 => ?_)
  · have h := h.1 c1
    refine g_aload_n X dX11_lay_19 rfl 1 rfl ?_
    refine g_iload_n X dX11_lay_20 rfl 2 rfl ?_
    refine g_aload_n X dX11_lay_21 rfl 1 rfl ?_
    refine g_iload_n X dX11_lay_22 rfl 2 rfl ?_
    obtain ⟨b2, h⟩ := h
    refine g_lald X h1 h1_ b2 dX11_lay_23 ?_
    refine g_lconst X (v := 1) dX11_lay_24 (by decide) ?_
    refine g_iload_n X dX11_lay_25 rfl 3 rfl ?_
    refine g_bipush X (v := 64) dX11_lay_26 (by decide) ?_
    refine g_isub X dX11_lay_28 ?_
    refine g_lshl X dX11_lay_29 ?_
    refine g_lor X dX11_lay_30 ?_
    obtain ⟨b3, h⟩ := h
    refine g_last X h1 h1_ b3 dX11_lay_31 ?_
    refine g_nmJ (fun J4 eJ4 => ?_)
    have h := h J4 eJ4
    exact g_vret X R dX11_lay_32 h
  · have h := h.2 c1
    refine g_aload_n X dX11_lay_6 rfl 0 rfl ?_
    refine g_iload_n X dX11_lay_7 rfl 2 rfl ?_
    refine g_aload_n X dX11_lay_8 rfl 0 rfl ?_
    refine g_iload_n X dX11_lay_9 rfl 2 rfl ?_
    obtain ⟨b5, h⟩ := h
    refine g_lald X h0 h0_ b5 dX11_lay_10 ?_
    refine g_lconst X (v := 1) dX11_lay_11 (by decide) ?_
    refine g_iload_n X dX11_lay_12 rfl 3 rfl ?_
    refine g_lshl X dX11_lay_13 ?_
    refine g_lor X dX11_lay_14 ?_
    obtain ⟨b6, h⟩ := h
    refine g_last X h0 h0_ b6 dX11_lay_15 ?_
    refine g_nmJ (fun J7 eJ7 => ?_)
    have h := h J7 eJ7
    refine g_goto X (tgt := 32) dX11_lay_16 (by decide) ?_
    exact g_vret X R dX11_lay_32 h

/-! X11_spread.spread([J[JII)V -/
def rmX11_spread : Room := { frames := 3, cells := 0, slots := 0, locals := 75 }
theorem yo_X11_spread : yX11_spread.cls = RX11 ∧ yX11_spread.cls ≠ "java/lang/invoke/MethodHandle" ∧ yX11_spread.cls ≠ "java/lang/invoke/VarHandle" ∧ (parseMethodDescriptor yX11_spread.desc).map (fun d => d.parameters.length) = some 4 := by decide +kernel
theorem kX11_spread_98 : Cond.fieldLink RX11 98 "SnowCourseModel" (TX11 2).2.1 (TX11 2).2.2.1 ∈ wsX11_spread := by decide +kernel
theorem iX11_spread_X11 : ∀ w ∈ u_ws RX11 TX11 39, w ∈ wsX11_spread := by decide +kernel
theorem kX11_spread_13 : Cond.fieldLink RX11 13 "SnowCourseModel" (TX11 3).2.1 (TX11 3).2.2.1 ∈ wsX11_spread := by decide +kernel
def vc_X11_spread_L94s (a1 n1 : Nat) (a2 n2 : Nat) (Q : MI → MJ → Prop) (k3 : Int32 → Int32 → Int32 → MI → MJ → Prop) (k49 : Int32 → Int32 → Int32 → Int32 → Int32 → Int32 → MI → MJ → Prop) (k94 : Int32 → Int32 → Int32 → Int32 → Int32 → Int32 → Int32 → MI → MJ → Prop) (v3 : Int32) (v4 : Int32) (v5 : Int32) (v6 : Int32) (v7 : Int32) (v8 : Int32) (v9 : Int32) (I : MI) (J : MJ) : Prop := (((I 87 2) ≤ v9 → ∀ x2 : Int32, x2 = v8 + 1 → k49 v3 v4 v5 v6 v7 x2 I J) ∧ (¬ (I 87 2) ≤ v9 → vc_X11_endOf v9 v7 I J (fun (r5 : Int32) (I3 : MI) (J4 : MJ) => vp_in ((4 * v9) + 2) 36 ∧ ∀ x7 : Int32, x7 = v6 + (I3 89 (Int32.toNatClampNeg ((4 * v9) + 2))) → ((r5 = (-1) → ∀ x9 : Int32, x9 = v9 + 1 → k94 v3 v4 v5 v6 v7 v8 x9 I3 J4) ∧ (¬ r5 = (-1) → ((48 < x7 → ∀ x11 : Int32, x11 = v9 + 1 → k94 v3 v4 v5 v6 v7 v8 x11 I3 J4) ∧ (¬ 48 < x7 → vc_X11_comesBy v9 v8 v3 v4 v6 I3 J4 (fun (r14 : Int32) (I12 : MI) (J13 : MJ) => vc_X11_lay a1 n1 a2 n2 ((7 * x7) + r5) r14 I12 J13 (fun (I15 : MI) (J16 : MJ) => ∀ x17 : Int32, x17 = v9 + 1 → k94 v3 v4 v5 v6 v7 v8 x17 I15 J16)))))))))
def vc_X11_spread_L94 (a1 n1 : Nat) (a2 n2 : Nat) (Q : MI → MJ → Prop) (k3 : Int32 → Int32 → Int32 → MI → MJ → Prop) (k49 : Int32 → Int32 → Int32 → Int32 → Int32 → Int32 → MI → MJ → Prop) (n : Nat) : Int32 → Int32 → Int32 → Int32 → Int32 → Int32 → Int32 → MI → MJ → Prop := Nat.rec (fun _ _ _ _ _ _ _ _ _ => False) (fun _ ih => vc_X11_spread_L94s a1 n1 a2 n2 Q k3 k49 ih) n
set_option maxRecDepth 100000 in
set_option maxHeartbeats 4000000 in
theorem w_X11_spread_L94s {Z : RT} {a1 n1 : Nat} {a2 n2 : Nat} (X : Cx Z cX11_spread 12 RX11 wsX11_spread rmX11_spread none) {Q : MI → MJ → Prop} (R : RV Z Q) (h1 : a1 < 109) (h1_ : kd a1 = (1, n1)) (h2 : a2 < 109) (h2_ : kd a2 = (1, n2)) {k3 : Int32 → Int32 → Int32 → MI → MJ → Prop} {k49 : Int32 → Int32 → Int32 → Int32 → Int32 → Int32 → MI → MJ → Prop} (hk3 : ∀ (v3 : Int32) (v4 : Int32) (v5 : Int32) (I : MI) (J : MJ), k3 v3 v4 v5 I J → GW Z 12 I J 3 [(0, .ref (ea (zE Z) 87)), (1, .ref (ea (zE Z) a1)), (2, .ref (ea (zE Z) a2)), (3, .int v3), (4, .int v4), (5, .int v5)] []) (hk49 : ∀ (v3 : Int32) (v4 : Int32) (v5 : Int32) (v6 : Int32) (v7 : Int32) (v8 : Int32) (I : MI) (J : MJ), k49 v3 v4 v5 v6 v7 v8 I J → GW Z 12 I J 49 [(0, .ref (ea (zE Z) 87)), (1, .ref (ea (zE Z) a1)), (2, .ref (ea (zE Z) a2)), (3, .int v3), (4, .int v4), (5, .int v5), (6, .int v6), (7, .int v7), (8, .int v8)] []) {k94 : Int32 → Int32 → Int32 → Int32 → Int32 → Int32 → Int32 → MI → MJ → Prop} (hk94 : ∀ (v3 : Int32) (v4 : Int32) (v5 : Int32) (v6 : Int32) (v7 : Int32) (v8 : Int32) (v9 : Int32) (I : MI) (J : MJ), k94 v3 v4 v5 v6 v7 v8 v9 I J → GW Z 12 I J 94 [(0, .ref (ea (zE Z) 87)), (1, .ref (ea (zE Z) a1)), (2, .ref (ea (zE Z) a2)), (3, .int v3), (4, .int v4), (5, .int v5), (6, .int v6), (7, .int v7), (8, .int v8), (9, .int v9)] []) (v3 : Int32) (v4 : Int32) (v5 : Int32) (v6 : Int32) (v7 : Int32) (v8 : Int32) (v9 : Int32) (I : MI) (J : MJ) (h : vc_X11_spread_L94s a1 n1 a2 n2 Q k3 k49 k94 v3 v4 v5 v6 v7 v8 v9 I J) : GW Z 12 I J 94 [(0, .ref (ea (zE Z) 87)), (1, .ref (ea (zE Z) a1)), (2, .ref (ea (zE Z) a2)), (3, .int v3), (4, .int v4), (5, .int v5), (6, .int v6), (7, .int v7), (8, .int v8), (9, .int v9)] [] := by
  refine g_iload X dX11_spread_94 9 rfl ?_
  refine g_aload_n X dX11_spread_96 rfl 0 rfl ?_
  refine g_geti X (C := RX11) (T := TX11) (N := 39) (ci := 9) (k := 2) iX11_spread_X11 rfl kX11_spread_98 (Nat.le_of_ble_eq_true rfl) rfl (by decide) rfl rfl dX11_spread_97 ?_
  refine g_icmp_ge X (tgt := 174) dX11_spread_100 (by decide) (fun c1 => ?_) (fun c1 => ?_)
  · have h := h.1 c1
    obtain ⟨x2, ex2⟩ : ∃ y : Int32, y = v8 + 1 := ⟨_, rfl⟩
    have h := h x2 ex2
    refine g_iinc X (q := 8) (v := x2) (lv' := [(8, .int x2), (0, .ref (ea (zE Z) 87)), (1, .ref (ea (zE Z) a1)), (2, .ref (ea (zE Z) a2)), (3, .int v3), (4, .int v4), (5, .int v5), (6, .int v6), (7, .int v7), (9, .int v9)]) dX11_spread_174 rfl (by rw [ex2]; rfl) (by decide) rfl ?_
    refine g_goto X (tgt := 49) dX11_spread_177 (by decide) ?_
    refine GW.sub (lv' := [(0, .ref (ea (zE Z) 87)), (1, .ref (ea (zE Z) a1)), (2, .ref (ea (zE Z) a2)), (3, .int v3), (4, .int v4), (5, .int v5), (6, .int v6), (7, .int v7), (8, .int x2)]) [1, 2, 3, 4, 5, 6, 7, 8, 0] rfl ?_
    exact hk49 v3 v4 v5 v6 v7 x2 I J h
  · have h := h.2 c1
    refine g_aload_n X dX11_spread_103 rfl 0 rfl ?_
    refine g_iload X dX11_spread_104 9 rfl ?_
    refine g_iload X dX11_spread_106 7 rfl ?_
    refine g_callVI X (As := [.int v9, .int v7]) (rest := []) (T := TX11) (N := 39) (c_X11_endOf (zl Z) (zE Z) v9 v7) gX11_spread_X11_endOf yo_X11_endOf rfl ⟨Nat.le_of_ble_eq_true rfl, Nat.le_of_ble_eq_true rfl⟩ (Nat.le_of_ble_eq_true rfl) rfl rfl rfl dX11_spread_108 h (fun r5 I3 J4 h => ?_)
    refine g_istore X (lv' := [(10, .int r5), (0, .ref (ea (zE Z) 87)), (1, .ref (ea (zE Z) a1)), (2, .ref (ea (zE Z) a2)), (3, .int v3), (4, .int v4), (5, .int v5), (6, .int v6), (7, .int v7), (8, .int v8), (9, .int v9)]) dX11_spread_111 (by decide) rfl ?_
    refine g_iload X dX11_spread_113 7 rfl ?_
    refine g_aload_n X dX11_spread_115 rfl 1 rfl ?_
    refine g_getr X (C := RX11) (T := TX11) (N := 39) (ci := 9) (k := 3) iX11_spread_X11 rfl kX11_spread_13 (Nat.le_of_ble_eq_true rfl) rfl (by decide) rfl rfl dX11_spread_116 ?_
    refine g_iconst X (v := 4) dX11_spread_119 (by decide) ?_
    refine g_iload X dX11_spread_120 10 rfl ?_
    refine g_imul X dX11_spread_122 ?_
    refine g_iconst X (v := 2) dX11_spread_123 (by decide) ?_
    refine g_iadd X dX11_spread_124 ?_
    obtain ⟨b6, h⟩ := h
    refine g_iald X (Nat.le_of_ble_eq_true rfl) rfl b6 dX11_spread_125 ?_
    refine g_iadd X dX11_spread_126 ?_
    refine g_topi (fun x7 ex7 => ?_)
    have h := h x7 ex7
    refine g_istore X (lv' := [(11, .int x7), (10, .int r5), (0, .ref (ea (zE Z) 87)), (1, .ref (ea (zE Z) a1)), (2, .ref (ea (zE Z) a2)), (3, .int v3), (4, .int v4), (5, .int v5), (6, .int v6), (7, .int v7), (8, .int v8), (9, .int v9)]) dX11_spread_127 (by decide) rfl ?_
    refine g_iload X dX11_spread_129 1 rfl ?_
    refine g_iconst X (v := (-1)) dX11_spread_131 (by decide) ?_
    refine g_icmp_eq X (tgt := 168) dX11_spread_132 (by decide) (fun c8 => ?_) (fun c8 => ?_)
    · have h := h.1 c8
      obtain ⟨x9, ex9⟩ : ∃ y : Int32, y = v9 + 1 := ⟨_, rfl⟩
      have h := h x9 ex9
      refine g_iinc X (q := 11) (v := x9) (lv' := [(9, .int x9), (11, .int x7), (10, .int r5), (0, .ref (ea (zE Z) 87)), (1, .ref (ea (zE Z) a1)), (2, .ref (ea (zE Z) a2)), (3, .int v3), (4, .int v4), (5, .int v5), (6, .int v6), (7, .int v7), (8, .int v8)]) dX11_spread_168 rfl (by rw [ex9]; rfl) (by decide) rfl ?_
      refine g_goto X (tgt := 94) dX11_spread_171 (by decide) ?_
      refine GW.sub (lv' := [(0, .ref (ea (zE Z) 87)), (1, .ref (ea (zE Z) a1)), (2, .ref (ea (zE Z) a2)), (3, .int v3), (4, .int v4), (5, .int v5), (6, .int v6), (7, .int v7), (8, .int v8), (9, .int x9)]) [3, 4, 5, 6, 7, 8, 9, 10, 11, 0] rfl ?_
      exact hk94 v3 v4 v5 v6 v7 v8 x9 I3 J4 h
    · have h := h.2 c8
      refine g_iload X dX11_spread_135 0 rfl ?_
      refine g_bipush X (v := 48) dX11_spread_137 (by decide) ?_
      refine g_icmp_gt X (tgt := 168) dX11_spread_139 (by decide) (fun c10 => ?_) (fun c10 => ?_)
      · have h := h.1 c10
        obtain ⟨x11, ex11⟩ : ∃ y : Int32, y = v9 + 1 := ⟨_, rfl⟩
        have h := h x11 ex11
        refine g_iinc X (q := 11) (v := x11) (lv' := [(9, .int x11), (11, .int x7), (10, .int r5), (0, .ref (ea (zE Z) 87)), (1, .ref (ea (zE Z) a1)), (2, .ref (ea (zE Z) a2)), (3, .int v3), (4, .int v4), (5, .int v5), (6, .int v6), (7, .int v7), (8, .int v8)]) dX11_spread_168 rfl (by rw [ex11]; rfl) (by decide) rfl ?_
        refine g_goto X (tgt := 94) dX11_spread_171 (by decide) ?_
        refine GW.sub (lv' := [(0, .ref (ea (zE Z) 87)), (1, .ref (ea (zE Z) a1)), (2, .ref (ea (zE Z) a2)), (3, .int v3), (4, .int v4), (5, .int v5), (6, .int v6), (7, .int v7), (8, .int v8), (9, .int x11)]) [3, 4, 5, 6, 7, 8, 9, 10, 11, 0] rfl ?_
        exact hk94 v3 v4 v5 v6 v7 v8 x11 I3 J4 h
      · have h := h.2 c10
        refine g_aload_n X dX11_spread_142 rfl 3 rfl ?_
        refine g_aload_n X dX11_spread_143 rfl 4 rfl ?_
        refine g_bipush X (v := 7) dX11_spread_144 (by decide) ?_
        refine g_iload X dX11_spread_146 0 rfl ?_
        refine g_imul X dX11_spread_148 ?_
        refine g_iload X dX11_spread_149 1 rfl ?_
        refine g_iadd X dX11_spread_151 ?_
        refine g_aload_n X dX11_spread_152 rfl 2 rfl ?_
        refine g_iload X dX11_spread_153 11 rfl ?_
        refine g_iload X dX11_spread_155 10 rfl ?_
        refine g_iload_n X dX11_spread_157 rfl 5 rfl ?_
        refine g_iload X dX11_spread_158 6 rfl ?_
        refine g_iload X dX11_spread_160 8 rfl ?_
        refine g_callVI X (As := [.int v9, .int v8, .int v3, .int v4, .int v6]) (rest := [.int ((7 * x7) + r5), .ref (ea (zE Z) a2), .ref (ea (zE Z) a1)]) (T := TX11) (N := 39) (c_X11_comesBy (zl Z) (zE Z) v9 v8 v3 v4 v6) gX11_spread_X11_comesBy yo_X11_comesBy rfl ⟨Nat.le_of_ble_eq_true rfl, Nat.le_of_ble_eq_true rfl⟩ (Nat.le_of_ble_eq_true rfl) rfl rfl rfl dX11_spread_162 h (fun r14 I12 J13 h => ?_)
        refine g_callSV X (As := [.ref (ea (zE Z) a1), .ref (ea (zE Z) a2), .int ((7 * x7) + r5), .int r14]) (rest := []) (c_X11_lay (zl Z) (zE Z) h1 h1_ h2 h2_ ((7 * x7) + r5) r14) gX11_spread_X11_lay yo_X11_lay.2 rfl ⟨Nat.le_of_ble_eq_true rfl, Nat.le_of_ble_eq_true rfl⟩ rfl dX11_spread_165 h (fun  I15 J16 h => ?_)
        obtain ⟨x17, ex17⟩ : ∃ y : Int32, y = v9 + 1 := ⟨_, rfl⟩
        have h := h x17 ex17
        refine g_iinc X (q := 11) (v := x17) (lv' := [(9, .int x17), (11, .int x7), (10, .int r5), (0, .ref (ea (zE Z) 87)), (1, .ref (ea (zE Z) a1)), (2, .ref (ea (zE Z) a2)), (3, .int v3), (4, .int v4), (5, .int v5), (6, .int v6), (7, .int v7), (8, .int v8)]) dX11_spread_168 rfl (by rw [ex17]; rfl) (by decide) rfl ?_
        refine g_goto X (tgt := 94) dX11_spread_171 (by decide) ?_
        refine GW.sub (lv' := [(0, .ref (ea (zE Z) 87)), (1, .ref (ea (zE Z) a1)), (2, .ref (ea (zE Z) a2)), (3, .int v3), (4, .int v4), (5, .int v5), (6, .int v6), (7, .int v7), (8, .int v8), (9, .int x17)]) [3, 4, 5, 6, 7, 8, 9, 10, 11, 0] rfl ?_
        exact hk94 v3 v4 v5 v6 v7 v8 x17 I15 J16 h
theorem w_X11_spread_L94 {Z : RT} {a1 n1 : Nat} {a2 n2 : Nat} (X : Cx Z cX11_spread 12 RX11 wsX11_spread rmX11_spread none) {Q : MI → MJ → Prop} (R : RV Z Q) (h1 : a1 < 109) (h1_ : kd a1 = (1, n1)) (h2 : a2 < 109) (h2_ : kd a2 = (1, n2)) {k3 : Int32 → Int32 → Int32 → MI → MJ → Prop} {k49 : Int32 → Int32 → Int32 → Int32 → Int32 → Int32 → MI → MJ → Prop} (hk3 : ∀ (v3 : Int32) (v4 : Int32) (v5 : Int32) (I : MI) (J : MJ), k3 v3 v4 v5 I J → GW Z 12 I J 3 [(0, .ref (ea (zE Z) 87)), (1, .ref (ea (zE Z) a1)), (2, .ref (ea (zE Z) a2)), (3, .int v3), (4, .int v4), (5, .int v5)] []) (hk49 : ∀ (v3 : Int32) (v4 : Int32) (v5 : Int32) (v6 : Int32) (v7 : Int32) (v8 : Int32) (I : MI) (J : MJ), k49 v3 v4 v5 v6 v7 v8 I J → GW Z 12 I J 49 [(0, .ref (ea (zE Z) 87)), (1, .ref (ea (zE Z) a1)), (2, .ref (ea (zE Z) a2)), (3, .int v3), (4, .int v4), (5, .int v5), (6, .int v6), (7, .int v7), (8, .int v8)] []) : ∀ (n : Nat) (v3 : Int32) (v4 : Int32) (v5 : Int32) (v6 : Int32) (v7 : Int32) (v8 : Int32) (v9 : Int32) (I : MI) (J : MJ) (h : vc_X11_spread_L94 a1 n1 a2 n2 Q k3 k49 n v3 v4 v5 v6 v7 v8 v9 I J), GW Z 12 I J 94 [(0, .ref (ea (zE Z) 87)), (1, .ref (ea (zE Z) a1)), (2, .ref (ea (zE Z) a2)), (3, .int v3), (4, .int v4), (5, .int v5), (6, .int v6), (7, .int v7), (8, .int v8), (9, .int v9)] [] := by
  intro n
  induction n with
  | zero => intro v3 v4 v5 v6 v7 v8 v9 I J h; exact h.elim
  | succ n ih => intro v3 v4 v5 v6 v7 v8 v9 I J h; exact w_X11_spread_L94s X R h1 h1_ h2 h2_ hk3 hk49 ih v3 v4 v5 v6 v7 v8 v9 I J h
def vc_X11_spread_L49s (a1 n1 : Nat) (a2 n2 : Nat) (Q : MI → MJ → Prop) (k3 : Int32 → Int32 → Int32 → MI → MJ → Prop) (k49 : Int32 → Int32 → Int32 → Int32 → Int32 → Int32 → MI → MJ → Prop) (v3 : Int32) (v4 : Int32) (v5 : Int32) (v6 : Int32) (v7 : Int32) (v8 : Int32) (I : MI) (J : MJ) : Prop := ((99 < v8 → ∀ x19 : Int32, x19 = v5 + 1 → k3 v3 v4 x19 I J) ∧ (¬ 99 < v8 → vc_X11_isIn a1 n1 a2 n2 v5 v8 I J (fun (r22 : Int32) (I20 : MI) (J21 : MJ) => ((r22 = 0 → ∀ x24 : Int32, x24 = v8 + 1 → k49 v3 v4 v5 v6 v7 x24 I20 J21) ∧ (¬ r22 = 0 → vc_X11_restedBy v8 v3 v4 v6 v7 I20 J21 (fun (r27 : Int32) (I25 : MI) (J26 : MJ) => vc_X11_lay a1 n1 a2 n2 (v5 + 7) r27 I25 J26 (fun (I28 : MI) (J29 : MJ) => (∃ n, vc_X11_spread_L94 a1 n1 a2 n2 Q k3 k49 n v3 v4 v5 v6 v7 v8 0 I28 J29))))))))
def vc_X11_spread_L49 (a1 n1 : Nat) (a2 n2 : Nat) (Q : MI → MJ → Prop) (k3 : Int32 → Int32 → Int32 → MI → MJ → Prop) (n : Nat) : Int32 → Int32 → Int32 → Int32 → Int32 → Int32 → MI → MJ → Prop := Nat.rec (fun _ _ _ _ _ _ _ _ => False) (fun _ ih => vc_X11_spread_L49s a1 n1 a2 n2 Q k3 ih) n
set_option maxRecDepth 100000 in
set_option maxHeartbeats 4000000 in
theorem w_X11_spread_L49s {Z : RT} {a1 n1 : Nat} {a2 n2 : Nat} (X : Cx Z cX11_spread 12 RX11 wsX11_spread rmX11_spread none) {Q : MI → MJ → Prop} (R : RV Z Q) (h1 : a1 < 109) (h1_ : kd a1 = (1, n1)) (h2 : a2 < 109) (h2_ : kd a2 = (1, n2)) {k3 : Int32 → Int32 → Int32 → MI → MJ → Prop} (hk3 : ∀ (v3 : Int32) (v4 : Int32) (v5 : Int32) (I : MI) (J : MJ), k3 v3 v4 v5 I J → GW Z 12 I J 3 [(0, .ref (ea (zE Z) 87)), (1, .ref (ea (zE Z) a1)), (2, .ref (ea (zE Z) a2)), (3, .int v3), (4, .int v4), (5, .int v5)] []) {k49 : Int32 → Int32 → Int32 → Int32 → Int32 → Int32 → MI → MJ → Prop} (hk49 : ∀ (v3 : Int32) (v4 : Int32) (v5 : Int32) (v6 : Int32) (v7 : Int32) (v8 : Int32) (I : MI) (J : MJ), k49 v3 v4 v5 v6 v7 v8 I J → GW Z 12 I J 49 [(0, .ref (ea (zE Z) 87)), (1, .ref (ea (zE Z) a1)), (2, .ref (ea (zE Z) a2)), (3, .int v3), (4, .int v4), (5, .int v5), (6, .int v6), (7, .int v7), (8, .int v8)] []) (v3 : Int32) (v4 : Int32) (v5 : Int32) (v6 : Int32) (v7 : Int32) (v8 : Int32) (I : MI) (J : MJ) (h : vc_X11_spread_L49s a1 n1 a2 n2 Q k3 k49 v3 v4 v5 v6 v7 v8 I J) : GW Z 12 I J 49 [(0, .ref (ea (zE Z) 87)), (1, .ref (ea (zE Z) a1)), (2, .ref (ea (zE Z) a2)), (3, .int v3), (4, .int v4), (5, .int v5), (6, .int v6), (7, .int v7), (8, .int v8)] [] := by
  refine g_iload X dX11_spread_49 8 rfl ?_
  refine g_bipush X (v := 99) dX11_spread_51 (by decide) ?_
  refine g_icmp_gt X (tgt := 180) dX11_spread_53 (by decide) (fun c18 => ?_) (fun c18 => ?_)
  · have h := h.1 c18
    obtain ⟨x19, ex19⟩ : ∃ y : Int32, y = v5 + 1 := ⟨_, rfl⟩
    have h := h x19 ex19
    refine g_iinc X (q := 5) (v := x19) (lv' := [(5, .int x19), (0, .ref (ea (zE Z) 87)), (1, .ref (ea (zE Z) a1)), (2, .ref (ea (zE Z) a2)), (3, .int v3), (4, .int v4), (6, .int v6), (7, .int v7), (8, .int v8)]) dX11_spread_180 rfl (by rw [ex19]; rfl) (by decide) rfl ?_
    refine g_goto X (tgt := 3) dX11_spread_183 (by decide) ?_
    refine GW.sub (lv' := [(0, .ref (ea (zE Z) 87)), (1, .ref (ea (zE Z) a1)), (2, .ref (ea (zE Z) a2)), (3, .int v3), (4, .int v4), (5, .int x19)]) [1, 2, 3, 4, 5, 0] rfl ?_
    exact hk3 v3 v4 x19 I J h
  · have h := h.2 c18
    refine g_aload_n X dX11_spread_56 rfl 1 rfl ?_
    refine g_aload_n X dX11_spread_57 rfl 2 rfl ?_
    refine g_iload X dX11_spread_58 5 rfl ?_
    refine g_iload X dX11_spread_60 8 rfl ?_
    refine g_callSI X (As := [.ref (ea (zE Z) a1), .ref (ea (zE Z) a2), .int v5, .int v8]) (rest := []) (c_X11_isIn (zl Z) (zE Z) h1 h1_ h2 h2_ v5 v8) gX11_spread_X11_isIn yo_X11_isIn.2 rfl ⟨Nat.le_of_ble_eq_true rfl, Nat.le_of_ble_eq_true rfl⟩ rfl dX11_spread_62 h (fun r22 I20 J21 h => ?_)
    refine g_if_eq X (tgt := 174) dX11_spread_65 (by decide) (fun c23 => ?_) (fun c23 => ?_)
    · have h := h.1 c23
      obtain ⟨x24, ex24⟩ : ∃ y : Int32, y = v8 + 1 := ⟨_, rfl⟩
      have h := h x24 ex24
      refine g_iinc X (q := 8) (v := x24) (lv' := [(8, .int x24), (0, .ref (ea (zE Z) 87)), (1, .ref (ea (zE Z) a1)), (2, .ref (ea (zE Z) a2)), (3, .int v3), (4, .int v4), (5, .int v5), (6, .int v6), (7, .int v7)]) dX11_spread_174 rfl (by rw [ex24]; rfl) (by decide) rfl ?_
      refine g_goto X (tgt := 49) dX11_spread_177 (by decide) ?_
      refine GW.sub (lv' := [(0, .ref (ea (zE Z) 87)), (1, .ref (ea (zE Z) a1)), (2, .ref (ea (zE Z) a2)), (3, .int v3), (4, .int v4), (5, .int v5), (6, .int v6), (7, .int v7), (8, .int x24)]) [1, 2, 3, 4, 5, 6, 7, 8, 0] rfl ?_
      exact hk49 v3 v4 v5 v6 v7 x24 I20 J21 h
    · have h := h.2 c23
      refine g_aload_n X dX11_spread_68 rfl 1 rfl ?_
      refine g_aload_n X dX11_spread_69 rfl 2 rfl ?_
      refine g_iload X dX11_spread_70 5 rfl ?_
      refine g_bipush X (v := 7) dX11_spread_72 (by decide) ?_
      refine g_iadd X dX11_spread_74 ?_
      refine g_aload_n X dX11_spread_75 rfl 0 rfl ?_
      refine g_iload X dX11_spread_76 8 rfl ?_
      refine g_iload_n X dX11_spread_78 rfl 3 rfl ?_
      refine g_iload X dX11_spread_79 4 rfl ?_
      refine g_iload X dX11_spread_81 6 rfl ?_
      refine g_iload X dX11_spread_83 7 rfl ?_
      refine g_callVI X (As := [.int v8, .int v3, .int v4, .int v6, .int v7]) (rest := [.int (v5 + 7), .ref (ea (zE Z) a2), .ref (ea (zE Z) a1)]) (T := TX11) (N := 39) (c_X11_restedBy (zl Z) (zE Z) v8 v3 v4 v6 v7) gX11_spread_X11_restedBy yo_X11_restedBy rfl ⟨Nat.le_of_ble_eq_true rfl, Nat.le_of_ble_eq_true rfl⟩ (Nat.le_of_ble_eq_true rfl) rfl rfl rfl dX11_spread_85 h (fun r27 I25 J26 h => ?_)
      refine g_callSV X (As := [.ref (ea (zE Z) a1), .ref (ea (zE Z) a2), .int (v5 + 7), .int r27]) (rest := []) (c_X11_lay (zl Z) (zE Z) h1 h1_ h2 h2_ (v5 + 7) r27) gX11_spread_X11_lay yo_X11_lay.2 rfl ⟨Nat.le_of_ble_eq_true rfl, Nat.le_of_ble_eq_true rfl⟩ rfl dX11_spread_88 h (fun  I28 J29 h => ?_)
      refine g_iconst X (v := 0) dX11_spread_91 (by decide) ?_
      refine g_istore X (lv' := [(9, .int 0), (0, .ref (ea (zE Z) 87)), (1, .ref (ea (zE Z) a1)), (2, .ref (ea (zE Z) a2)), (3, .int v3), (4, .int v4), (5, .int v5), (6, .int v6), (7, .int v7), (8, .int v8)]) dX11_spread_92 (by decide) rfl ?_
      refine GW.sub (lv' := [(0, .ref (ea (zE Z) 87)), (1, .ref (ea (zE Z) a1)), (2, .ref (ea (zE Z) a2)), (3, .int v3), (4, .int v4), (5, .int v5), (6, .int v6), (7, .int v7), (8, .int v8), (9, .int 0)]) [1, 2, 3, 4, 5, 6, 7, 8, 9, 0] rfl ?_
      obtain ⟨n, h⟩ := h
      exact w_X11_spread_L94 X R h1 h1_ h2 h2_ hk3 hk49 n v3 v4 v5 v6 v7 v8 0 I28 J29 h
theorem w_X11_spread_L49 {Z : RT} {a1 n1 : Nat} {a2 n2 : Nat} (X : Cx Z cX11_spread 12 RX11 wsX11_spread rmX11_spread none) {Q : MI → MJ → Prop} (R : RV Z Q) (h1 : a1 < 109) (h1_ : kd a1 = (1, n1)) (h2 : a2 < 109) (h2_ : kd a2 = (1, n2)) {k3 : Int32 → Int32 → Int32 → MI → MJ → Prop} (hk3 : ∀ (v3 : Int32) (v4 : Int32) (v5 : Int32) (I : MI) (J : MJ), k3 v3 v4 v5 I J → GW Z 12 I J 3 [(0, .ref (ea (zE Z) 87)), (1, .ref (ea (zE Z) a1)), (2, .ref (ea (zE Z) a2)), (3, .int v3), (4, .int v4), (5, .int v5)] []) : ∀ (n : Nat) (v3 : Int32) (v4 : Int32) (v5 : Int32) (v6 : Int32) (v7 : Int32) (v8 : Int32) (I : MI) (J : MJ) (h : vc_X11_spread_L49 a1 n1 a2 n2 Q k3 n v3 v4 v5 v6 v7 v8 I J), GW Z 12 I J 49 [(0, .ref (ea (zE Z) 87)), (1, .ref (ea (zE Z) a1)), (2, .ref (ea (zE Z) a2)), (3, .int v3), (4, .int v4), (5, .int v5), (6, .int v6), (7, .int v7), (8, .int v8)] [] := by
  intro n
  induction n with
  | zero => intro v3 v4 v5 v6 v7 v8 I J h; exact h.elim
  | succ n ih => intro v3 v4 v5 v6 v7 v8 I J h; exact w_X11_spread_L49s X R h1 h1_ h2 h2_ hk3 ih v3 v4 v5 v6 v7 v8 I J h
def vc_X11_spread_L3s (a1 n1 : Nat) (a2 n2 : Nat) (Q : MI → MJ → Prop)  (k3 : Int32 → Int32 → Int32 → MI → MJ → Prop) (v3 : Int32) (v4 : Int32) (v5 : Int32) (I : MI) (J : MJ) : Prop := ((336 ≤ v5 → Q I J) ∧ (¬ 336 ≤ v5 → ∀ x31 : Int32, x31 = v5 / 7 → ∀ x32 : Int32, x32 = v5 - v5 / 7 * 7 → vp_in v5 n1 ∧ ((¬ (lg_cmp (J a1 (Int32.toNatClampNeg v5)) 0) = 0 → (∃ n, vc_X11_spread_L49 a1 n1 a2 n2 Q k3 n v3 v4 v5 x31 x32 0 I J)) ∧ ((lg_cmp (J a1 (Int32.toNatClampNeg v5)) 0) = 0 → vp_in v5 n2 ∧ ((¬ (lg_cmp (J a2 (Int32.toNatClampNeg v5)) 0) = 0 → (∃ n, vc_X11_spread_L49 a1 n1 a2 n2 Q k3 n v3 v4 v5 x31 x32 0 I J)) ∧ ((lg_cmp (J a2 (Int32.toNatClampNeg v5)) 0) = 0 → ∀ x37 : Int32, x37 = v5 + 1 → k3 v3 v4 x37 I J))))))
def vc_X11_spread_L3 (a1 n1 : Nat) (a2 n2 : Nat) (Q : MI → MJ → Prop)  (n : Nat) : Int32 → Int32 → Int32 → MI → MJ → Prop := Nat.rec (fun _ _ _ _ _ => False) (fun _ ih => vc_X11_spread_L3s a1 n1 a2 n2 Q  ih) n
set_option maxRecDepth 100000 in
set_option maxHeartbeats 4000000 in
theorem w_X11_spread_L3s {Z : RT} {a1 n1 : Nat} {a2 n2 : Nat} (X : Cx Z cX11_spread 12 RX11 wsX11_spread rmX11_spread none) {Q : MI → MJ → Prop} (R : RV Z Q) (h1 : a1 < 109) (h1_ : kd a1 = (1, n1)) (h2 : a2 < 109) (h2_ : kd a2 = (1, n2))   {k3 : Int32 → Int32 → Int32 → MI → MJ → Prop} (hk3 : ∀ (v3 : Int32) (v4 : Int32) (v5 : Int32) (I : MI) (J : MJ), k3 v3 v4 v5 I J → GW Z 12 I J 3 [(0, .ref (ea (zE Z) 87)), (1, .ref (ea (zE Z) a1)), (2, .ref (ea (zE Z) a2)), (3, .int v3), (4, .int v4), (5, .int v5)] []) (v3 : Int32) (v4 : Int32) (v5 : Int32) (I : MI) (J : MJ) (h : vc_X11_spread_L3s a1 n1 a2 n2 Q  k3 v3 v4 v5 I J) : GW Z 12 I J 3 [(0, .ref (ea (zE Z) 87)), (1, .ref (ea (zE Z) a1)), (2, .ref (ea (zE Z) a2)), (3, .int v3), (4, .int v4), (5, .int v5)] [] := by
  refine g_iload X dX11_spread_3 5 rfl ?_
  refine g_sipush X (v := 336) dX11_spread_5 (by decide) ?_
  refine g_icmp_ge X (tgt := 186) dX11_spread_8 (by decide) (fun c30 => ?_) (fun c30 => ?_)
  · have h := h.1 c30
    exact g_vret X R dX11_spread_186 h
  · have h := h.2 c30
    refine g_iload X dX11_spread_11 5 rfl ?_
    refine g_bipush X (v := 7) dX11_spread_13 (by decide) ?_
    refine g_idiv X dX11_spread_15 (by decide) ?_
    refine g_topi (fun x31 ex31 => ?_)
    have h := h x31 ex31
    refine g_istore X (lv' := [(6, .int x31), (0, .ref (ea (zE Z) 87)), (1, .ref (ea (zE Z) a1)), (2, .ref (ea (zE Z) a2)), (3, .int v3), (4, .int v4), (5, .int v5)]) dX11_spread_16 (by decide) rfl ?_
    refine g_iload X dX11_spread_18 6 rfl ?_
    refine g_bipush X (v := 7) dX11_spread_20 (by decide) ?_
    refine g_irem X dX11_spread_22 (by decide) ?_
    refine g_topi (fun x32 ex32 => ?_)
    have h := h x32 ex32
    refine g_istore X (lv' := [(7, .int x32), (6, .int x31), (0, .ref (ea (zE Z) 87)), (1, .ref (ea (zE Z) a1)), (2, .ref (ea (zE Z) a2)), (3, .int v3), (4, .int v4), (5, .int v5)]) dX11_spread_23 (by decide) rfl ?_
    refine g_aload_n X dX11_spread_25 rfl 3 rfl ?_
    refine g_iload X dX11_spread_26 7 rfl ?_
    obtain ⟨b33, h⟩ := h
    refine g_lald X h1 h1_ b33 dX11_spread_28 ?_
    refine g_lconst X (v := 0) dX11_spread_29 (by decide) ?_
    refine g_lcmp X dX11_spread_30 ?_
    refine g_if_ne X (tgt := 46) dX11_spread_31 (by decide) (fun c34 => ?_) (fun c34 => ?_)
    · have h := h.1 c34
      refine g_iconst X (v := 0) dX11_spread_46 (by decide) ?_
      refine g_istore X (lv' := [(8, .int 0), (7, .int x32), (6, .int x31), (0, .ref (ea (zE Z) 87)), (1, .ref (ea (zE Z) a1)), (2, .ref (ea (zE Z) a2)), (3, .int v3), (4, .int v4), (5, .int v5)]) dX11_spread_47 (by decide) rfl ?_
      refine GW.sub (lv' := [(0, .ref (ea (zE Z) 87)), (1, .ref (ea (zE Z) a1)), (2, .ref (ea (zE Z) a2)), (3, .int v3), (4, .int v4), (5, .int v5), (6, .int x31), (7, .int x32), (8, .int 0)]) [3, 4, 5, 6, 7, 8, 2, 1, 0] rfl ?_
      obtain ⟨n, h⟩ := h
      exact w_X11_spread_L49 X R h1 h1_ h2 h2_ hk3 n v3 v4 v5 x31 x32 0 I J h
    · have h := h.2 c34
      refine g_aload_n X dX11_spread_34 rfl 4 rfl ?_
      refine g_iload X dX11_spread_35 7 rfl ?_
      obtain ⟨b35, h⟩ := h
      refine g_lald X h2 h2_ b35 dX11_spread_37 ?_
      refine g_lconst X (v := 0) dX11_spread_38 (by decide) ?_
      refine g_lcmp X dX11_spread_39 ?_
      refine g_if_ne X (tgt := 46) dX11_spread_40 (by decide) (fun c36 => ?_) (fun c36 => ?_)
      · have h := h.1 c36
        refine g_iconst X (v := 0) dX11_spread_46 (by decide) ?_
        refine g_istore X (lv' := [(8, .int 0), (7, .int x32), (6, .int x31), (0, .ref (ea (zE Z) 87)), (1, .ref (ea (zE Z) a1)), (2, .ref (ea (zE Z) a2)), (3, .int v3), (4, .int v4), (5, .int v5)]) dX11_spread_47 (by decide) rfl ?_
        refine GW.sub (lv' := [(0, .ref (ea (zE Z) 87)), (1, .ref (ea (zE Z) a1)), (2, .ref (ea (zE Z) a2)), (3, .int v3), (4, .int v4), (5, .int v5), (6, .int x31), (7, .int x32), (8, .int 0)]) [3, 4, 5, 6, 7, 8, 2, 1, 0] rfl ?_
        obtain ⟨n, h⟩ := h
        exact w_X11_spread_L49 X R h1 h1_ h2 h2_ hk3 n v3 v4 v5 x31 x32 0 I J h
      · have h := h.2 c36
        refine g_goto X (tgt := 180) dX11_spread_43 (by decide) ?_
        obtain ⟨x37, ex37⟩ : ∃ y : Int32, y = v5 + 1 := ⟨_, rfl⟩
        have h := h x37 ex37
        refine g_iinc X (q := 7) (v := x37) (lv' := [(5, .int x37), (7, .int x32), (6, .int x31), (0, .ref (ea (zE Z) 87)), (1, .ref (ea (zE Z) a1)), (2, .ref (ea (zE Z) a2)), (3, .int v3), (4, .int v4)]) dX11_spread_180 rfl (by rw [ex37]; rfl) (by decide) rfl ?_
        refine g_goto X (tgt := 3) dX11_spread_183 (by decide) ?_
        refine GW.sub (lv' := [(0, .ref (ea (zE Z) 87)), (1, .ref (ea (zE Z) a1)), (2, .ref (ea (zE Z) a2)), (3, .int v3), (4, .int v4), (5, .int x37)]) [3, 4, 5, 6, 7, 0] rfl ?_
        exact hk3 v3 v4 x37 I J h
theorem w_X11_spread_L3 {Z : RT} {a1 n1 : Nat} {a2 n2 : Nat} (X : Cx Z cX11_spread 12 RX11 wsX11_spread rmX11_spread none) {Q : MI → MJ → Prop} (R : RV Z Q) (h1 : a1 < 109) (h1_ : kd a1 = (1, n1)) (h2 : a2 < 109) (h2_ : kd a2 = (1, n2))   : ∀ (n : Nat) (v3 : Int32) (v4 : Int32) (v5 : Int32) (I : MI) (J : MJ) (h : vc_X11_spread_L3 a1 n1 a2 n2 Q  n v3 v4 v5 I J), GW Z 12 I J 3 [(0, .ref (ea (zE Z) 87)), (1, .ref (ea (zE Z) a1)), (2, .ref (ea (zE Z) a2)), (3, .int v3), (4, .int v4), (5, .int v5)] [] := by
  intro n
  induction n with
  | zero => intro v3 v4 v5 I J h; exact h.elim
  | succ n ih => intro v3 v4 v5 I J h; exact w_X11_spread_L3s X R h1 h1_ h2 h2_  ih v3 v4 v5 I J h
def vc_X11_spread (a1 n1 : Nat) (a2 n2 : Nat) (p3 : Int32) (p4 : Int32) (I : MI) (J : MJ) (Q : MI → MJ → Prop) : Prop := (∃ n, vc_X11_spread_L3 a1 n1 a2 n2 Q  n p3 p4 0 I J)
set_option maxRecDepth 100000 in
set_option maxHeartbeats 4000000 in
theorem c_X11_spread (l : Launch) (E : ET) {a1 n1 : Nat} {a2 n2 : Nat} (h1 : a1 < 109) (h1_ : kd a1 = (1, n1)) (h2 : a2 < 109) (h2_ : kd a2 = (1, n2)) (p3 : Int32) (p4 : Int32) : CV l yX11_spread wsX11_spread rmX11_spread E [.ref (ea E 87), .ref (ea E a1), .ref (ea E a2), .int p3, .int p4] (vc_X11_spread a1 n1 a2 n2 p3 p4) := by
  refine CV.of (cc := cX11_spread) (maxL := 12) (own := RX11) (by decide) rfl rfl (Nat.le_of_ble_eq_true rfl) ?_
  intro Z I J Q hE hl X R h
  subst hE
  subst hl
  show GW Z 12 I J 0 [(0, .ref (ea (zE Z) 87)), (1, .ref (ea (zE Z) a1)), (2, .ref (ea (zE Z) a2)), (3, .int p3), (4, .int p4)] []
  refine g_iconst X (v := 0) dX11_spread_0 (by decide) ?_
  refine g_istore X (lv' := [(5, .int 0), (0, .ref (ea (zE Z) 87)), (1, .ref (ea (zE Z) a1)), (2, .ref (ea (zE Z) a2)), (3, .int p3), (4, .int p4)]) dX11_spread_1 (by decide) rfl ?_
  refine GW.sub (lv' := [(0, .ref (ea (zE Z) 87)), (1, .ref (ea (zE Z) a1)), (2, .ref (ea (zE Z) a2)), (3, .int p3), (4, .int p4), (5, .int 0)]) [1, 2, 3, 4, 5, 0] rfl ?_
  obtain ⟨n, h⟩ := h
  exact w_X11_spread_L3 X R h1 h1_ h2 h2_  n p3 p4 0 I J h

/-! X11_clear.clear([J[J)V -/
def rmX11_clear : Room := { frames := 0, cells := 0, slots := 0, locals := 0 }
theorem yo_X11_clear : yX11_clear.cls = RX11 ∧ yX11_clear.cls ≠ "java/lang/invoke/MethodHandle" ∧ yX11_clear.cls ≠ "java/lang/invoke/VarHandle" ∧ (parseMethodDescriptor yX11_clear.desc).map (fun d => d.parameters.length) = some 2 := by decide +kernel
def vc_X11_clear_L2s (a0 n0 : Nat) (a1 n1 : Nat) (Q : MI → MJ → Prop)  (k2 : Int32 → MI → MJ → Prop) (v2 : Int32) (I : MI) (J : MJ) : Prop := ((343 ≤ v2 → Q I J) ∧ (¬ 343 ≤ v2 → vp_in v2 n0 ∧ ∀ J3 : MJ, J3 = wJ J a0 (Int32.toNatClampNeg v2) 0 → vp_in v2 n1 ∧ ∀ J5 : MJ, J5 = wJ J3 a1 (Int32.toNatClampNeg v2) 0 → ∀ x6 : Int32, x6 = v2 + 1 → k2 x6 I J5))
def vc_X11_clear_L2 (a0 n0 : Nat) (a1 n1 : Nat) (Q : MI → MJ → Prop)  (n : Nat) : Int32 → MI → MJ → Prop := Nat.rec (fun _ _ _ => False) (fun _ ih => vc_X11_clear_L2s a0 n0 a1 n1 Q  ih) n
set_option maxRecDepth 100000 in
set_option maxHeartbeats 4000000 in
theorem w_X11_clear_L2s {Z : RT} {a0 n0 : Nat} {a1 n1 : Nat} (X : Cx Z cX11_clear 3 RX11 wsX11_clear rmX11_clear none) {Q : MI → MJ → Prop} (R : RV Z Q) (h0 : a0 < 109) (h0_ : kd a0 = (1, n0)) (h1 : a1 < 109) (h1_ : kd a1 = (1, n1))   {k2 : Int32 → MI → MJ → Prop} (hk2 : ∀ (v2 : Int32) (I : MI) (J : MJ), k2 v2 I J → GW Z 3 I J 2 [(0, .ref (ea (zE Z) a0)), (1, .ref (ea (zE Z) a1)), (2, .int v2)] []) (v2 : Int32) (I : MI) (J : MJ) (h : vc_X11_clear_L2s a0 n0 a1 n1 Q  k2 v2 I J) : GW Z 3 I J 2 [(0, .ref (ea (zE Z) a0)), (1, .ref (ea (zE Z) a1)), (2, .int v2)] [] := by
  refine g_iload_n X dX11_clear_2 rfl 2 rfl ?_
  refine g_sipush X (v := 343) dX11_clear_3 (by decide) ?_
  refine g_icmp_ge X (tgt := 23) dX11_clear_6 (by decide) (fun c1 => ?_) (fun c1 => ?_)
  · have h := h.1 c1
    exact g_vret X R dX11_clear_23 h
  · have h := h.2 c1
    refine g_aload_n X dX11_clear_9 rfl 0 rfl ?_
    refine g_iload_n X dX11_clear_10 rfl 2 rfl ?_
    refine g_lconst X (v := 0) dX11_clear_11 (by decide) ?_
    obtain ⟨b2, h⟩ := h
    refine g_last X h0 h0_ b2 dX11_clear_12 ?_
    refine g_nmJ (fun J3 eJ3 => ?_)
    have h := h J3 eJ3
    refine g_aload_n X dX11_clear_13 rfl 1 rfl ?_
    refine g_iload_n X dX11_clear_14 rfl 2 rfl ?_
    refine g_lconst X (v := 0) dX11_clear_15 (by decide) ?_
    obtain ⟨b4, h⟩ := h
    refine g_last X h1 h1_ b4 dX11_clear_16 ?_
    refine g_nmJ (fun J5 eJ5 => ?_)
    have h := h J5 eJ5
    obtain ⟨x6, ex6⟩ : ∃ y : Int32, y = v2 + 1 := ⟨_, rfl⟩
    have h := h x6 ex6
    refine g_iinc X (q := 2) (v := x6) (lv' := [(2, .int x6), (0, .ref (ea (zE Z) a0)), (1, .ref (ea (zE Z) a1))]) dX11_clear_17 rfl (by rw [ex6]; rfl) (by decide) rfl ?_
    refine g_goto X (tgt := 2) dX11_clear_20 (by decide) ?_
    refine GW.sub (lv' := [(0, .ref (ea (zE Z) a0)), (1, .ref (ea (zE Z) a1)), (2, .int x6)]) [1, 2, 0] rfl ?_
    exact hk2 x6 I J5 h
theorem w_X11_clear_L2 {Z : RT} {a0 n0 : Nat} {a1 n1 : Nat} (X : Cx Z cX11_clear 3 RX11 wsX11_clear rmX11_clear none) {Q : MI → MJ → Prop} (R : RV Z Q) (h0 : a0 < 109) (h0_ : kd a0 = (1, n0)) (h1 : a1 < 109) (h1_ : kd a1 = (1, n1))   : ∀ (n : Nat) (v2 : Int32) (I : MI) (J : MJ) (h : vc_X11_clear_L2 a0 n0 a1 n1 Q  n v2 I J), GW Z 3 I J 2 [(0, .ref (ea (zE Z) a0)), (1, .ref (ea (zE Z) a1)), (2, .int v2)] [] := by
  intro n
  induction n with
  | zero => intro v2 I J h; exact h.elim
  | succ n ih => intro v2 I J h; exact w_X11_clear_L2s X R h0 h0_ h1 h1_  ih v2 I J h
def vc_X11_clear (a0 n0 : Nat) (a1 n1 : Nat) (I : MI) (J : MJ) (Q : MI → MJ → Prop) : Prop := (∃ n, vc_X11_clear_L2 a0 n0 a1 n1 Q  n 0 I J)
set_option maxRecDepth 100000 in
set_option maxHeartbeats 4000000 in
theorem c_X11_clear (l : Launch) (E : ET) {a0 n0 : Nat} {a1 n1 : Nat} (h0 : a0 < 109) (h0_ : kd a0 = (1, n0)) (h1 : a1 < 109) (h1_ : kd a1 = (1, n1)) : CV l yX11_clear wsX11_clear rmX11_clear E [.ref (ea E a0), .ref (ea E a1)] (vc_X11_clear a0 n0 a1 n1) := by
  refine CV.of (cc := cX11_clear) (maxL := 3) (own := RX11) (by decide) rfl rfl (Nat.le_of_ble_eq_true rfl) ?_
  intro Z I J Q hE hl X R h
  subst hE
  subst hl
  show GW Z 3 I J 0 [(0, .ref (ea (zE Z) a0)), (1, .ref (ea (zE Z) a1))] []
  refine g_iconst X (v := 0) dX11_clear_0 (by decide) ?_
  refine g_istore_n X (lv' := [(2, .int 0), (0, .ref (ea (zE Z) a0)), (1, .ref (ea (zE Z) a1))]) dX11_clear_1 rfl (by decide) rfl ?_
  refine GW.sub (lv' := [(0, .ref (ea (zE Z) a0)), (1, .ref (ea (zE Z) a1)), (2, .int 0)]) [1, 2, 0] rfl ?_
  obtain ⟨n, h⟩ := h
  exact w_X11_clear_L2 X R h0 h0_ h1 h1_  n 0 I J h

/-! X11_layFrom.layFrom([J[JII)V -/
def rmX11_layFrom : Room := { frames := 4, cells := 0, slots := 0, locals := 106 }
theorem yo_X11_layFrom : yX11_layFrom.cls = RX11 ∧ yX11_layFrom.cls ≠ "java/lang/invoke/MethodHandle" ∧ yX11_layFrom.cls ≠ "java/lang/invoke/VarHandle" ∧ (parseMethodDescriptor yX11_layFrom.desc).map (fun d => d.parameters.length) = some 4 := by decide +kernel
theorem kX11_layFrom_25 : Cond.fieldLink RX11 25 "SnowCourseModel" (TX11 20).2.1 (TX11 20).2.2.1 ∈ wsX11_layFrom := by decide +kernel
theorem iX11_layFrom_X11 : ∀ w ∈ u_ws RX11 TX11 39, w ∈ wsX11_layFrom := by decide +kernel
def vc_X11_layFrom (a1 n1 : Nat) (a2 n2 : Nat) (p3 : Int32) (p4 : Int32) (I : MI) (J : MJ) (Q : MI → MJ → Prop) : Prop := vc_X11_clear a1 n1 a2 n2 I J (fun (I1 : MI) (J2 : MJ) => vp_in (4 + p3) 20 ∧ vp_in p3 20 ∧ vp_in (8 + p3) 20 ∧ vc_X11_lay a1 n1 a2 n2 ((7 * (I1 93 (Int32.toNatClampNeg (4 + p3)))) + (I1 93 (Int32.toNatClampNeg p3))) (I1 93 (Int32.toNatClampNeg (8 + p3))) I1 J2 (fun (I6 : MI) (J7 : MJ) => vc_X11_kindOf p3 I6 J7 (fun (r10 : Int32) (I8 : MI) (J9 : MJ) => vc_X11_spread a1 n1 a2 n2 r10 p4 I8 J9 (fun (I11 : MI) (J12 : MJ) => Q I11 J12))))
set_option maxRecDepth 100000 in
set_option maxHeartbeats 4000000 in
theorem c_X11_layFrom (l : Launch) (E : ET) {a1 n1 : Nat} {a2 n2 : Nat} (h1 : a1 < 109) (h1_ : kd a1 = (1, n1)) (h2 : a2 < 109) (h2_ : kd a2 = (1, n2)) (p3 : Int32) (p4 : Int32) : CV l yX11_layFrom wsX11_layFrom rmX11_layFrom E [.ref (ea E 87), .ref (ea E a1), .ref (ea E a2), .int p3, .int p4] (vc_X11_layFrom a1 n1 a2 n2 p3 p4) := by
  refine CV.of (cc := cX11_layFrom) (maxL := 5) (own := RX11) (by decide) rfl rfl (Nat.le_of_ble_eq_true rfl) ?_
  intro Z I J Q hE hl X R h
  subst hE
  subst hl
  show GW Z 5 I J 0 [(0, .ref (ea (zE Z) 87)), (1, .ref (ea (zE Z) a1)), (2, .ref (ea (zE Z) a2)), (3, .int p3), (4, .int p4)] []
  refine g_aload_n X dX11_layFrom_0 rfl 1 rfl ?_
  refine g_aload_n X dX11_layFrom_1 rfl 2 rfl ?_
  refine g_callSV X (As := [.ref (ea (zE Z) a1), .ref (ea (zE Z) a2)]) (rest := []) (c_X11_clear (zl Z) (zE Z) h1 h1_ h2 h2_) gX11_layFrom_X11_clear yo_X11_clear.2 rfl ⟨Nat.le_of_ble_eq_true rfl, Nat.le_of_ble_eq_true rfl⟩ rfl dX11_layFrom_2 h (fun  I1 J2 h => ?_)
  refine g_aload_n X dX11_layFrom_5 rfl 1 rfl ?_
  refine g_aload_n X dX11_layFrom_6 rfl 2 rfl ?_
  refine g_bipush X (v := 7) dX11_layFrom_7 (by decide) ?_
  refine g_aload_n X dX11_layFrom_9 rfl 0 rfl ?_
  refine g_getr X (C := RX11) (T := TX11) (N := 39) (ci := 9) (k := 20) iX11_layFrom_X11 rfl kX11_layFrom_25 (Nat.le_of_ble_eq_true rfl) rfl (by decide) rfl rfl dX11_layFrom_10 ?_
  refine g_iconst X (v := 4) dX11_layFrom_13 (by decide) ?_
  refine g_iload_n X dX11_layFrom_14 rfl 3 rfl ?_
  refine g_iadd X dX11_layFrom_15 ?_
  obtain ⟨b3, h⟩ := h
  refine g_iald X (Nat.le_of_ble_eq_true rfl) rfl b3 dX11_layFrom_16 ?_
  refine g_imul X dX11_layFrom_17 ?_
  refine g_aload_n X dX11_layFrom_18 rfl 0 rfl ?_
  refine g_getr X (C := RX11) (T := TX11) (N := 39) (ci := 9) (k := 20) iX11_layFrom_X11 rfl kX11_layFrom_25 (Nat.le_of_ble_eq_true rfl) rfl (by decide) rfl rfl dX11_layFrom_19 ?_
  refine g_iload_n X dX11_layFrom_22 rfl 3 rfl ?_
  obtain ⟨b4, h⟩ := h
  refine g_iald X (Nat.le_of_ble_eq_true rfl) rfl b4 dX11_layFrom_23 ?_
  refine g_iadd X dX11_layFrom_24 ?_
  refine g_aload_n X dX11_layFrom_25 rfl 0 rfl ?_
  refine g_getr X (C := RX11) (T := TX11) (N := 39) (ci := 9) (k := 20) iX11_layFrom_X11 rfl kX11_layFrom_25 (Nat.le_of_ble_eq_true rfl) rfl (by decide) rfl rfl dX11_layFrom_26 ?_
  refine g_bipush X (v := 8) dX11_layFrom_29 (by decide) ?_
  refine g_iload_n X dX11_layFrom_31 rfl 3 rfl ?_
  refine g_iadd X dX11_layFrom_32 ?_
  obtain ⟨b5, h⟩ := h
  refine g_iald X (Nat.le_of_ble_eq_true rfl) rfl b5 dX11_layFrom_33 ?_
  refine g_callSV X (As := [.ref (ea (zE Z) a1), .ref (ea (zE Z) a2), .int ((7 * (I1 93 (Int32.toNatClampNeg (4 + p3)))) + (I1 93 (Int32.toNatClampNeg p3))), .int (I1 93 (Int32.toNatClampNeg (8 + p3)))]) (rest := []) (c_X11_lay (zl Z) (zE Z) h1 h1_ h2 h2_ ((7 * (I1 93 (Int32.toNatClampNeg (4 + p3)))) + (I1 93 (Int32.toNatClampNeg p3))) (I1 93 (Int32.toNatClampNeg (8 + p3)))) gX11_layFrom_X11_lay yo_X11_lay.2 rfl ⟨Nat.le_of_ble_eq_true rfl, Nat.le_of_ble_eq_true rfl⟩ rfl dX11_layFrom_34 h (fun  I6 J7 h => ?_)
  refine g_aload_n X dX11_layFrom_37 rfl 0 rfl ?_
  refine g_aload_n X dX11_layFrom_38 rfl 1 rfl ?_
  refine g_aload_n X dX11_layFrom_39 rfl 2 rfl ?_
  refine g_aload_n X dX11_layFrom_40 rfl 0 rfl ?_
  refine g_iload_n X dX11_layFrom_41 rfl 3 rfl ?_
  refine g_callVI X (As := [.int p3]) (rest := [.ref (ea (zE Z) a2), .ref (ea (zE Z) a1), .ref (ea (zE Z) 87)]) (T := TX11) (N := 39) (c_X11_kindOf (zl Z) (zE Z) p3) gX11_layFrom_X11_kindOf yo_X11_kindOf rfl ⟨Nat.le_of_ble_eq_true rfl, Nat.le_of_ble_eq_true rfl⟩ (Nat.le_of_ble_eq_true rfl) rfl rfl rfl dX11_layFrom_42 h (fun r10 I8 J9 h => ?_)
  refine g_iload X dX11_layFrom_45 4 rfl ?_
  refine g_callVV X (As := [.ref (ea (zE Z) a1), .ref (ea (zE Z) a2), .int r10, .int p4]) (rest := []) (T := TX11) (N := 39) (c_X11_spread (zl Z) (zE Z) h1 h1_ h2 h2_ r10 p4) gX11_layFrom_X11_spread yo_X11_spread rfl ⟨Nat.le_of_ble_eq_true rfl, Nat.le_of_ble_eq_true rfl⟩ (Nat.le_of_ble_eq_true rfl) rfl rfl rfl dX11_layFrom_47 h (fun  I11 J12 h => ?_)
  exact g_vret X R dX11_layFrom_50 h

/-! X11_mostIn.mostIn([J[JII)I -/
def rmX11_mostIn : Room := { frames := 1, cells := 0, slots := 0, locals := 23 }
theorem yo_X11_mostIn : yX11_mostIn.cls = RX11 ∧ yX11_mostIn.cls ≠ "java/lang/invoke/MethodHandle" ∧ yX11_mostIn.cls ≠ "java/lang/invoke/VarHandle" ∧ (parseMethodDescriptor yX11_mostIn.desc).map (fun d => d.parameters.length) = some 4 := by decide +kernel
def vc_X11_mostIn_B48 (a1 n1 : Nat) (a2 n2 : Nat) (Q : Int32 → MI → MJ → Prop) (k6 : Int32 → Int32 → Int32 → Int32 → MI → MJ → Prop) (k17 : Int32 → Int32 → Int32 → Int32 → Int32 → MI → MJ → Prop) (v3 : Int32) (v4 : Int32) (v6 : Int32) (v7 : Int32) (s0 : Int32) (I : MI) (J : MJ) : Prop := ∀ x1 : Int32, x1 = v7 + (-1) → k17 v3 v4 s0 v6 x1 I J
set_option maxRecDepth 100000 in
set_option maxHeartbeats 4000000 in
theorem w_X11_mostIn_B48 {Z : RT} {a1 n1 : Nat} {a2 n2 : Nat} (X : Cx Z cX11_mostIn 8 RX11 wsX11_mostIn rmX11_mostIn (some .int)) {Q : Int32 → MI → MJ → Prop} (R : RI Z Q) (h1 : a1 < 109) (h1_ : kd a1 = (1, n1)) (h2 : a2 < 109) (h2_ : kd a2 = (1, n2)) {k6 : Int32 → Int32 → Int32 → Int32 → MI → MJ → Prop} {k17 : Int32 → Int32 → Int32 → Int32 → Int32 → MI → MJ → Prop} (hk6 : ∀ (v3 : Int32) (v4 : Int32) (v5 : Int32) (v6 : Int32) (I : MI) (J : MJ), k6 v3 v4 v5 v6 I J → GW Z 8 I J 6 [(1, .ref (ea (zE Z) a1)), (2, .ref (ea (zE Z) a2)), (3, .int v3), (4, .int v4), (5, .int v5), (6, .int v6)] []) (hk17 : ∀ (v3 : Int32) (v4 : Int32) (v5 : Int32) (v6 : Int32) (v7 : Int32) (I : MI) (J : MJ), k17 v3 v4 v5 v6 v7 I J → GW Z 8 I J 17 [(1, .ref (ea (zE Z) a1)), (2, .ref (ea (zE Z) a2)), (3, .int v3), (4, .int v4), (5, .int v5), (6, .int v6), (7, .int v7)] []) (v3 : Int32) (v4 : Int32) (v6 : Int32) (v7 : Int32) (s0 : Int32) (I : MI) (J : MJ) (h : vc_X11_mostIn_B48 a1 n1 a2 n2 Q k6 k17 v3 v4 v6 v7 s0 I J) : GW Z 8 I J 48 [(1, .ref (ea (zE Z) a1)), (2, .ref (ea (zE Z) a2)), (3, .int v3), (4, .int v4), (6, .int v6), (7, .int v7)] [.int s0] := by
  refine g_istore X (lv' := [(5, .int s0), (1, .ref (ea (zE Z) a1)), (2, .ref (ea (zE Z) a2)), (3, .int v3), (4, .int v4), (6, .int v6), (7, .int v7)]) dX11_mostIn_48 (by decide) rfl ?_
  obtain ⟨x1, ex1⟩ : ∃ y : Int32, y = v7 + (-1) := ⟨_, rfl⟩
  have h := h x1 ex1
  refine g_iinc X (q := 6) (v := x1) (lv' := [(7, .int x1), (5, .int s0), (1, .ref (ea (zE Z) a1)), (2, .ref (ea (zE Z) a2)), (3, .int v3), (4, .int v4), (6, .int v6)]) dX11_mostIn_50 rfl (by rw [ex1]; rfl) (by decide) rfl ?_
  refine g_goto X (tgt := 17) dX11_mostIn_53 (by decide) ?_
  refine GW.sub (lv' := [(1, .ref (ea (zE Z) a1)), (2, .ref (ea (zE Z) a2)), (3, .int v3), (4, .int v4), (5, .int s0), (6, .int v6), (7, .int x1)]) [2, 3, 4, 5, 1, 6, 0] rfl ?_
  exact hk17 v3 v4 s0 v6 x1 I J h
def vc_X11_mostIn_L17s (a1 n1 : Nat) (a2 n2 : Nat) (Q : Int32 → MI → MJ → Prop) (k6 : Int32 → Int32 → Int32 → Int32 → MI → MJ → Prop) (k17 : Int32 → Int32 → Int32 → Int32 → Int32 → MI → MJ → Prop) (v3 : Int32) (v4 : Int32) (v5 : Int32) (v6 : Int32) (v7 : Int32) (I : MI) (J : MJ) : Prop := ((v7 ≤ v5 → ∀ x3 : Int32, x3 = v6 + 1 → k6 v3 v4 v5 x3 I J) ∧ (¬ v7 ≤ v5 → vc_X11_isIn a1 n1 a2 n2 ((7 * v6) + v3) v7 I J (fun (r6 : Int32) (I4 : MI) (J5 : MJ) => ((r6 = 0 → vc_X11_mostIn_B48 a1 n1 a2 n2 Q k6 k17 v3 v4 v6 v7 v5 I4 J5) ∧ (¬ r6 = 0 → vc_X11_mostIn_B48 a1 n1 a2 n2 Q k6 k17 v3 v4 v6 v7 v7 I4 J5)))))
def vc_X11_mostIn_L17 (a1 n1 : Nat) (a2 n2 : Nat) (Q : Int32 → MI → MJ → Prop) (k6 : Int32 → Int32 → Int32 → Int32 → MI → MJ → Prop) (n : Nat) : Int32 → Int32 → Int32 → Int32 → Int32 → MI → MJ → Prop := Nat.rec (fun _ _ _ _ _ _ _ => False) (fun _ ih => vc_X11_mostIn_L17s a1 n1 a2 n2 Q k6 ih) n
set_option maxRecDepth 100000 in
set_option maxHeartbeats 4000000 in
theorem w_X11_mostIn_L17s {Z : RT} {a1 n1 : Nat} {a2 n2 : Nat} (X : Cx Z cX11_mostIn 8 RX11 wsX11_mostIn rmX11_mostIn (some .int)) {Q : Int32 → MI → MJ → Prop} (R : RI Z Q) (h1 : a1 < 109) (h1_ : kd a1 = (1, n1)) (h2 : a2 < 109) (h2_ : kd a2 = (1, n2)) {k6 : Int32 → Int32 → Int32 → Int32 → MI → MJ → Prop} (hk6 : ∀ (v3 : Int32) (v4 : Int32) (v5 : Int32) (v6 : Int32) (I : MI) (J : MJ), k6 v3 v4 v5 v6 I J → GW Z 8 I J 6 [(1, .ref (ea (zE Z) a1)), (2, .ref (ea (zE Z) a2)), (3, .int v3), (4, .int v4), (5, .int v5), (6, .int v6)] []) {k17 : Int32 → Int32 → Int32 → Int32 → Int32 → MI → MJ → Prop} (hk17 : ∀ (v3 : Int32) (v4 : Int32) (v5 : Int32) (v6 : Int32) (v7 : Int32) (I : MI) (J : MJ), k17 v3 v4 v5 v6 v7 I J → GW Z 8 I J 17 [(1, .ref (ea (zE Z) a1)), (2, .ref (ea (zE Z) a2)), (3, .int v3), (4, .int v4), (5, .int v5), (6, .int v6), (7, .int v7)] []) (v3 : Int32) (v4 : Int32) (v5 : Int32) (v6 : Int32) (v7 : Int32) (I : MI) (J : MJ) (h : vc_X11_mostIn_L17s a1 n1 a2 n2 Q k6 k17 v3 v4 v5 v6 v7 I J) : GW Z 8 I J 17 [(1, .ref (ea (zE Z) a1)), (2, .ref (ea (zE Z) a2)), (3, .int v3), (4, .int v4), (5, .int v5), (6, .int v6), (7, .int v7)] [] := by
  refine g_iload X dX11_mostIn_17 6 rfl ?_
  refine g_iload X dX11_mostIn_19 4 rfl ?_
  refine g_icmp_le X (tgt := 56) dX11_mostIn_21 (by decide) (fun c2 => ?_) (fun c2 => ?_)
  · have h := h.1 c2
    obtain ⟨x3, ex3⟩ : ∃ y : Int32, y = v6 + 1 := ⟨_, rfl⟩
    have h := h x3 ex3
    refine g_iinc X (q := 5) (v := x3) (lv' := [(6, .int x3), (1, .ref (ea (zE Z) a1)), (2, .ref (ea (zE Z) a2)), (3, .int v3), (4, .int v4), (5, .int v5), (7, .int v7)]) dX11_mostIn_56 rfl (by rw [ex3]; rfl) (by decide) rfl ?_
    refine g_goto X (tgt := 6) dX11_mostIn_59 (by decide) ?_
    refine GW.sub (lv' := [(1, .ref (ea (zE Z) a1)), (2, .ref (ea (zE Z) a2)), (3, .int v3), (4, .int v4), (5, .int v5), (6, .int x3)]) [1, 2, 3, 4, 5, 0] rfl ?_
    exact hk6 v3 v4 v5 x3 I J h
  · have h := h.2 c2
    refine g_aload_n X dX11_mostIn_24 rfl 0 rfl ?_
    refine g_aload_n X dX11_mostIn_25 rfl 1 rfl ?_
    refine g_bipush X (v := 7) dX11_mostIn_26 (by decide) ?_
    refine g_iload X dX11_mostIn_28 5 rfl ?_
    refine g_imul X dX11_mostIn_30 ?_
    refine g_iload_n X dX11_mostIn_31 rfl 2 rfl ?_
    refine g_iadd X dX11_mostIn_32 ?_
    refine g_iload X dX11_mostIn_33 6 rfl ?_
    refine g_callSI X (As := [.ref (ea (zE Z) a1), .ref (ea (zE Z) a2), .int ((7 * v6) + v3), .int v7]) (rest := []) (c_X11_isIn (zl Z) (zE Z) h1 h1_ h2 h2_ ((7 * v6) + v3) v7) gX11_mostIn_X11_isIn yo_X11_isIn.2 rfl ⟨Nat.le_of_ble_eq_true rfl, Nat.le_of_ble_eq_true rfl⟩ rfl dX11_mostIn_35 h (fun r6 I4 J5 h => ?_)
    refine g_if_eq X (tgt := 46) dX11_mostIn_38 (by decide) (fun c7 => ?_) (fun c7 => ?_)
    · have h := h.1 c7
      refine g_iload X dX11_mostIn_46 4 rfl ?_
      refine GW.sub (lv' := [(1, .ref (ea (zE Z) a1)), (2, .ref (ea (zE Z) a2)), (3, .int v3), (4, .int v4), (6, .int v6), (7, .int v7)]) [0, 1, 2, 3, 5, 6] rfl ?_
      exact w_X11_mostIn_B48 X R h1 h1_ h2 h2_ hk6 hk17 v3 v4 v6 v7 v5 I4 J5 h
    · have h := h.2 c7
      refine g_iload X dX11_mostIn_41 6 rfl ?_
      refine g_goto X (tgt := 48) dX11_mostIn_43 (by decide) ?_
      refine GW.sub (lv' := [(1, .ref (ea (zE Z) a1)), (2, .ref (ea (zE Z) a2)), (3, .int v3), (4, .int v4), (6, .int v6), (7, .int v7)]) [0, 1, 2, 3, 5, 6] rfl ?_
      exact w_X11_mostIn_B48 X R h1 h1_ h2 h2_ hk6 hk17 v3 v4 v6 v7 v7 I4 J5 h
theorem w_X11_mostIn_L17 {Z : RT} {a1 n1 : Nat} {a2 n2 : Nat} (X : Cx Z cX11_mostIn 8 RX11 wsX11_mostIn rmX11_mostIn (some .int)) {Q : Int32 → MI → MJ → Prop} (R : RI Z Q) (h1 : a1 < 109) (h1_ : kd a1 = (1, n1)) (h2 : a2 < 109) (h2_ : kd a2 = (1, n2)) {k6 : Int32 → Int32 → Int32 → Int32 → MI → MJ → Prop} (hk6 : ∀ (v3 : Int32) (v4 : Int32) (v5 : Int32) (v6 : Int32) (I : MI) (J : MJ), k6 v3 v4 v5 v6 I J → GW Z 8 I J 6 [(1, .ref (ea (zE Z) a1)), (2, .ref (ea (zE Z) a2)), (3, .int v3), (4, .int v4), (5, .int v5), (6, .int v6)] []) : ∀ (n : Nat) (v3 : Int32) (v4 : Int32) (v5 : Int32) (v6 : Int32) (v7 : Int32) (I : MI) (J : MJ) (h : vc_X11_mostIn_L17 a1 n1 a2 n2 Q k6 n v3 v4 v5 v6 v7 I J), GW Z 8 I J 17 [(1, .ref (ea (zE Z) a1)), (2, .ref (ea (zE Z) a2)), (3, .int v3), (4, .int v4), (5, .int v5), (6, .int v6), (7, .int v7)] [] := by
  intro n
  induction n with
  | zero => intro v3 v4 v5 v6 v7 I J h; exact h.elim
  | succ n ih => intro v3 v4 v5 v6 v7 I J h; exact w_X11_mostIn_L17s X R h1 h1_ h2 h2_ hk6 ih v3 v4 v5 v6 v7 I J h
def vc_X11_mostIn_L6s (a1 n1 : Nat) (a2 n2 : Nat) (Q : Int32 → MI → MJ → Prop)  (k6 : Int32 → Int32 → Int32 → Int32 → MI → MJ → Prop) (v3 : Int32) (v4 : Int32) (v5 : Int32) (v6 : Int32) (I : MI) (J : MJ) : Prop := ((v4 < v6 → Q v5 I J) ∧ (¬ v4 < v6 → (∃ n, vc_X11_mostIn_L17 a1 n1 a2 n2 Q k6 n v3 v4 v5 v6 99 I J)))
def vc_X11_mostIn_L6 (a1 n1 : Nat) (a2 n2 : Nat) (Q : Int32 → MI → MJ → Prop)  (n : Nat) : Int32 → Int32 → Int32 → Int32 → MI → MJ → Prop := Nat.rec (fun _ _ _ _ _ _ => False) (fun _ ih => vc_X11_mostIn_L6s a1 n1 a2 n2 Q  ih) n
set_option maxRecDepth 100000 in
set_option maxHeartbeats 4000000 in
theorem w_X11_mostIn_L6s {Z : RT} {a1 n1 : Nat} {a2 n2 : Nat} (X : Cx Z cX11_mostIn 8 RX11 wsX11_mostIn rmX11_mostIn (some .int)) {Q : Int32 → MI → MJ → Prop} (R : RI Z Q) (h1 : a1 < 109) (h1_ : kd a1 = (1, n1)) (h2 : a2 < 109) (h2_ : kd a2 = (1, n2))   {k6 : Int32 → Int32 → Int32 → Int32 → MI → MJ → Prop} (hk6 : ∀ (v3 : Int32) (v4 : Int32) (v5 : Int32) (v6 : Int32) (I : MI) (J : MJ), k6 v3 v4 v5 v6 I J → GW Z 8 I J 6 [(1, .ref (ea (zE Z) a1)), (2, .ref (ea (zE Z) a2)), (3, .int v3), (4, .int v4), (5, .int v5), (6, .int v6)] []) (v3 : Int32) (v4 : Int32) (v5 : Int32) (v6 : Int32) (I : MI) (J : MJ) (h : vc_X11_mostIn_L6s a1 n1 a2 n2 Q  k6 v3 v4 v5 v6 I J) : GW Z 8 I J 6 [(1, .ref (ea (zE Z) a1)), (2, .ref (ea (zE Z) a2)), (3, .int v3), (4, .int v4), (5, .int v5), (6, .int v6)] [] := by
  refine g_iload X dX11_mostIn_6 5 rfl ?_
  refine g_iload X dX11_mostIn_8 3 rfl ?_
  refine g_icmp_gt X (tgt := 62) dX11_mostIn_10 (by decide) (fun c8 => ?_) (fun c8 => ?_)
  · have h := h.1 c8
    refine g_iload X dX11_mostIn_62 4 rfl ?_
    exact g_iret X R dX11_mostIn_64 h
  · have h := h.2 c8
    refine g_bipush X (v := 99) dX11_mostIn_13 (by decide) ?_
    refine g_istore X (lv' := [(7, .int 99), (1, .ref (ea (zE Z) a1)), (2, .ref (ea (zE Z) a2)), (3, .int v3), (4, .int v4), (5, .int v5), (6, .int v6)]) dX11_mostIn_15 (by decide) rfl ?_
    refine GW.sub (lv' := [(1, .ref (ea (zE Z) a1)), (2, .ref (ea (zE Z) a2)), (3, .int v3), (4, .int v4), (5, .int v5), (6, .int v6), (7, .int 99)]) [1, 2, 3, 4, 5, 6, 0] rfl ?_
    obtain ⟨n, h⟩ := h
    exact w_X11_mostIn_L17 X R h1 h1_ h2 h2_ hk6 n v3 v4 v5 v6 99 I J h
theorem w_X11_mostIn_L6 {Z : RT} {a1 n1 : Nat} {a2 n2 : Nat} (X : Cx Z cX11_mostIn 8 RX11 wsX11_mostIn rmX11_mostIn (some .int)) {Q : Int32 → MI → MJ → Prop} (R : RI Z Q) (h1 : a1 < 109) (h1_ : kd a1 = (1, n1)) (h2 : a2 < 109) (h2_ : kd a2 = (1, n2))   : ∀ (n : Nat) (v3 : Int32) (v4 : Int32) (v5 : Int32) (v6 : Int32) (I : MI) (J : MJ) (h : vc_X11_mostIn_L6 a1 n1 a2 n2 Q  n v3 v4 v5 v6 I J), GW Z 8 I J 6 [(1, .ref (ea (zE Z) a1)), (2, .ref (ea (zE Z) a2)), (3, .int v3), (4, .int v4), (5, .int v5), (6, .int v6)] [] := by
  intro n
  induction n with
  | zero => intro v3 v4 v5 v6 I J h; exact h.elim
  | succ n ih => intro v3 v4 v5 v6 I J h; exact w_X11_mostIn_L6s X R h1 h1_ h2 h2_  ih v3 v4 v5 v6 I J h
def vc_X11_mostIn (a1 n1 : Nat) (a2 n2 : Nat) (p3 : Int32) (p4 : Int32) (I : MI) (J : MJ) (Q : Int32 → MI → MJ → Prop) : Prop := (∃ n, vc_X11_mostIn_L6 a1 n1 a2 n2 Q  n p3 p4 (-1) 0 I J)
set_option maxRecDepth 100000 in
set_option maxHeartbeats 4000000 in
theorem c_X11_mostIn (l : Launch) (E : ET) {a1 n1 : Nat} {a2 n2 : Nat} (h1 : a1 < 109) (h1_ : kd a1 = (1, n1)) (h2 : a2 < 109) (h2_ : kd a2 = (1, n2)) (p3 : Int32) (p4 : Int32) : CI l yX11_mostIn wsX11_mostIn rmX11_mostIn E [.ref (ea E 87), .ref (ea E a1), .ref (ea E a2), .int p3, .int p4] (vc_X11_mostIn a1 n1 a2 n2 p3 p4) := by
  refine CI.of (cc := cX11_mostIn) (maxL := 8) (own := RX11) (by decide) rfl rfl (Nat.le_of_ble_eq_true rfl) ?_
  intro Z I J Q hE hl X R h
  subst hE
  subst hl
  show GW Z 8 I J 0 [(0, .ref (ea (zE Z) 87)), (1, .ref (ea (zE Z) a1)), (2, .ref (ea (zE Z) a2)), (3, .int p3), (4, .int p4)] []
  refine g_iconst X (v := (-1)) dX11_mostIn_0 (by decide) ?_
  refine g_istore X (lv' := [(5, .int (-1)), (0, .ref (ea (zE Z) 87)), (1, .ref (ea (zE Z) a1)), (2, .ref (ea (zE Z) a2)), (3, .int p3), (4, .int p4)]) dX11_mostIn_1 (by decide) rfl ?_
  refine g_iconst X (v := 0) dX11_mostIn_3 (by decide) ?_
  refine g_istore X (lv' := [(6, .int 0), (5, .int (-1)), (0, .ref (ea (zE Z) 87)), (1, .ref (ea (zE Z) a1)), (2, .ref (ea (zE Z) a2)), (3, .int p3), (4, .int p4)]) dX11_mostIn_4 (by decide) rfl ?_
  refine GW.sub (lv' := [(1, .ref (ea (zE Z) a1)), (2, .ref (ea (zE Z) a2)), (3, .int p3), (4, .int p4), (5, .int (-1)), (6, .int 0)]) [3, 4, 5, 6, 1, 0] rfl ?_
  obtain ⟨n, h⟩ := h
  exact w_X11_mostIn_L6 X R h1 h1_ h2 h2_  n p3 p4 (-1) 0 I J h

/-! X11_soonestIn.soonestIn([J[JII)I -/
def rmX11_soonestIn : Room := { frames := 1, cells := 0, slots := 0, locals := 23 }
theorem yo_X11_soonestIn : yX11_soonestIn.cls = RX11 ∧ yX11_soonestIn.cls ≠ "java/lang/invoke/MethodHandle" ∧ yX11_soonestIn.cls ≠ "java/lang/invoke/VarHandle" ∧ (parseMethodDescriptor yX11_soonestIn.desc).map (fun d => d.parameters.length) = some 4 := by decide +kernel
def vc_X11_soonestIn_L3s (a1 n1 : Nat) (a2 n2 : Nat) (Q : Int32 → MI → MJ → Prop)  (k3 : Int32 → Int32 → Int32 → MI → MJ → Prop) (v3 : Int32) (v4 : Int32) (v5 : Int32) (I : MI) (J : MJ) : Prop := vc_X11_isIn a1 n1 a2 n2 ((7 * v5) + v3) v4 I J (fun (r3 : Int32) (I1 : MI) (J2 : MJ) => ((¬ r3 = 0 → Q v5 I1 J2) ∧ (r3 = 0 → ∀ x5 : Int32, x5 = v5 + 1 → k3 v3 v4 x5 I1 J2)))
def vc_X11_soonestIn_L3 (a1 n1 : Nat) (a2 n2 : Nat) (Q : Int32 → MI → MJ → Prop)  (n : Nat) : Int32 → Int32 → Int32 → MI → MJ → Prop := Nat.rec (fun _ _ _ _ _ => False) (fun _ ih => vc_X11_soonestIn_L3s a1 n1 a2 n2 Q  ih) n
set_option maxRecDepth 100000 in
set_option maxHeartbeats 4000000 in
theorem w_X11_soonestIn_L3s {Z : RT} {a1 n1 : Nat} {a2 n2 : Nat} (X : Cx Z cX11_soonestIn 6 RX11 wsX11_soonestIn rmX11_soonestIn (some .int)) {Q : Int32 → MI → MJ → Prop} (R : RI Z Q) (h1 : a1 < 109) (h1_ : kd a1 = (1, n1)) (h2 : a2 < 109) (h2_ : kd a2 = (1, n2))   {k3 : Int32 → Int32 → Int32 → MI → MJ → Prop} (hk3 : ∀ (v3 : Int32) (v4 : Int32) (v5 : Int32) (I : MI) (J : MJ), k3 v3 v4 v5 I J → GW Z 6 I J 3 [(1, .ref (ea (zE Z) a1)), (2, .ref (ea (zE Z) a2)), (3, .int v3), (4, .int v4), (5, .int v5)] []) (v3 : Int32) (v4 : Int32) (v5 : Int32) (I : MI) (J : MJ) (h : vc_X11_soonestIn_L3s a1 n1 a2 n2 Q  k3 v3 v4 v5 I J) : GW Z 6 I J 3 [(1, .ref (ea (zE Z) a1)), (2, .ref (ea (zE Z) a2)), (3, .int v3), (4, .int v4), (5, .int v5)] [] := by
  refine g_aload_n X dX11_soonestIn_3 rfl 0 rfl ?_
  refine g_aload_n X dX11_soonestIn_4 rfl 1 rfl ?_
  refine g_bipush X (v := 7) dX11_soonestIn_5 (by decide) ?_
  refine g_iload X dX11_soonestIn_7 4 rfl ?_
  refine g_imul X dX11_soonestIn_9 ?_
  refine g_iload_n X dX11_soonestIn_10 rfl 2 rfl ?_
  refine g_iadd X dX11_soonestIn_11 ?_
  refine g_iload X dX11_soonestIn_12 3 rfl ?_
  refine g_callSI X (As := [.ref (ea (zE Z) a1), .ref (ea (zE Z) a2), .int ((7 * v5) + v3), .int v4]) (rest := []) (c_X11_isIn (zl Z) (zE Z) h1 h1_ h2 h2_ ((7 * v5) + v3) v4) gX11_soonestIn_X11_isIn yo_X11_isIn.2 rfl ⟨Nat.le_of_ble_eq_true rfl, Nat.le_of_ble_eq_true rfl⟩ rfl dX11_soonestIn_14 h (fun r3 I1 J2 h => ?_)
  refine g_if_ne X (tgt := 26) dX11_soonestIn_17 (by decide) (fun c4 => ?_) (fun c4 => ?_)
  · have h := h.1 c4
    refine g_iload X dX11_soonestIn_26 4 rfl ?_
    exact g_iret X R dX11_soonestIn_28 h
  · have h := h.2 c4
    obtain ⟨x5, ex5⟩ : ∃ y : Int32, y = v5 + 1 := ⟨_, rfl⟩
    have h := h x5 ex5
    refine g_iinc X (q := 4) (v := x5) (lv' := [(5, .int x5), (1, .ref (ea (zE Z) a1)), (2, .ref (ea (zE Z) a2)), (3, .int v3), (4, .int v4)]) dX11_soonestIn_20 rfl (by rw [ex5]; rfl) (by decide) rfl ?_
    refine g_goto X (tgt := 3) dX11_soonestIn_23 (by decide) ?_
    refine GW.sub (lv' := [(1, .ref (ea (zE Z) a1)), (2, .ref (ea (zE Z) a2)), (3, .int v3), (4, .int v4), (5, .int x5)]) [1, 2, 3, 4, 0] rfl ?_
    exact hk3 v3 v4 x5 I1 J2 h
theorem w_X11_soonestIn_L3 {Z : RT} {a1 n1 : Nat} {a2 n2 : Nat} (X : Cx Z cX11_soonestIn 6 RX11 wsX11_soonestIn rmX11_soonestIn (some .int)) {Q : Int32 → MI → MJ → Prop} (R : RI Z Q) (h1 : a1 < 109) (h1_ : kd a1 = (1, n1)) (h2 : a2 < 109) (h2_ : kd a2 = (1, n2))   : ∀ (n : Nat) (v3 : Int32) (v4 : Int32) (v5 : Int32) (I : MI) (J : MJ) (h : vc_X11_soonestIn_L3 a1 n1 a2 n2 Q  n v3 v4 v5 I J), GW Z 6 I J 3 [(1, .ref (ea (zE Z) a1)), (2, .ref (ea (zE Z) a2)), (3, .int v3), (4, .int v4), (5, .int v5)] [] := by
  intro n
  induction n with
  | zero => intro v3 v4 v5 I J h; exact h.elim
  | succ n ih => intro v3 v4 v5 I J h; exact w_X11_soonestIn_L3s X R h1 h1_ h2 h2_  ih v3 v4 v5 I J h
def vc_X11_soonestIn (a1 n1 : Nat) (a2 n2 : Nat) (p3 : Int32) (p4 : Int32) (I : MI) (J : MJ) (Q : Int32 → MI → MJ → Prop) : Prop := (∃ n, vc_X11_soonestIn_L3 a1 n1 a2 n2 Q  n p3 p4 0 I J)
set_option maxRecDepth 100000 in
set_option maxHeartbeats 4000000 in
theorem c_X11_soonestIn (l : Launch) (E : ET) {a1 n1 : Nat} {a2 n2 : Nat} (h1 : a1 < 109) (h1_ : kd a1 = (1, n1)) (h2 : a2 < 109) (h2_ : kd a2 = (1, n2)) (p3 : Int32) (p4 : Int32) : CI l yX11_soonestIn wsX11_soonestIn rmX11_soonestIn E [.ref (ea E 87), .ref (ea E a1), .ref (ea E a2), .int p3, .int p4] (vc_X11_soonestIn a1 n1 a2 n2 p3 p4) := by
  refine CI.of (cc := cX11_soonestIn) (maxL := 6) (own := RX11) (by decide) rfl rfl (Nat.le_of_ble_eq_true rfl) ?_
  intro Z I J Q hE hl X R h
  subst hE
  subst hl
  show GW Z 6 I J 0 [(0, .ref (ea (zE Z) 87)), (1, .ref (ea (zE Z) a1)), (2, .ref (ea (zE Z) a2)), (3, .int p3), (4, .int p4)] []
  refine g_iconst X (v := 0) dX11_soonestIn_0 (by decide) ?_
  refine g_istore X (lv' := [(5, .int 0), (0, .ref (ea (zE Z) 87)), (1, .ref (ea (zE Z) a1)), (2, .ref (ea (zE Z) a2)), (3, .int p3), (4, .int p4)]) dX11_soonestIn_1 (by decide) rfl ?_
  refine GW.sub (lv' := [(1, .ref (ea (zE Z) a1)), (2, .ref (ea (zE Z) a2)), (3, .int p3), (4, .int p4), (5, .int 0)]) [2, 3, 4, 5, 0] rfl ?_
  obtain ⟨n, h⟩ := h
  exact w_X11_soonestIn_L3 X R h1 h1_ h2 h2_  n p3 p4 0 I J h

/-! X11_comes.comes(III)I -/
def rmX11_comes : Room := { frames := 5, cells := 0, slots := 0, locals := 130 }
theorem yo_X11_comes : yX11_comes.cls = RX11 ∧ yX11_comes.cls ≠ "java/lang/invoke/MethodHandle" ∧ yX11_comes.cls ≠ "java/lang/invoke/VarHandle" ∧ (parseMethodDescriptor yX11_comes.desc).map (fun d => d.parameters.length) = some 3 := by decide +kernel
theorem kX11_comes_44 : Cond.fieldLink RX11 44 "SnowCourseModel" (TX11 29).2.1 (TX11 29).2.2.1 ∈ wsX11_comes := by decide +kernel
theorem iX11_comes_X11 : ∀ w ∈ u_ws RX11 TX11 39, w ∈ wsX11_comes := by decide +kernel
theorem kX11_comes_48 : Cond.fieldLink RX11 48 "SnowCourseModel" (TX11 30).2.1 (TX11 30).2.2.1 ∈ wsX11_comes := by decide +kernel
def vc_X11_comes_B159  (Q : Int32 → MI → MJ → Prop) (k106 : Int32 → Int32 → Int32 → MI → MJ → Prop) (k119 : Int32 → Int32 → Int32 → Int32 → Int32 → MI → MJ → Prop) (v2 : Int32) (v5 : Int32) (v6 : Int32) (v8 : Int32) (s0 : Int32) (I : MI) (J : MJ) : Prop := ∀ x1 : Int32, x1 = v8 + 1 → k119 v2 v5 v6 s0 x1 I J
set_option maxRecDepth 100000 in
set_option maxHeartbeats 4000000 in
theorem w_X11_comes_B159 {Z : RT}  (X : Cx Z cX11_comes 9 RX11 wsX11_comes rmX11_comes (some .int)) {Q : Int32 → MI → MJ → Prop} (R : RI Z Q)  {k106 : Int32 → Int32 → Int32 → MI → MJ → Prop} {k119 : Int32 → Int32 → Int32 → Int32 → Int32 → MI → MJ → Prop} (hk106 : ∀ (v2 : Int32) (v5 : Int32) (v6 : Int32) (I : MI) (J : MJ), k106 v2 v5 v6 I J → GW Z 9 I J 106 [(0, .ref (ea (zE Z) 87)), (2, .int v2), (5, .int v5), (6, .int v6)] []) (hk119 : ∀ (v2 : Int32) (v5 : Int32) (v6 : Int32) (v7 : Int32) (v8 : Int32) (I : MI) (J : MJ), k119 v2 v5 v6 v7 v8 I J → GW Z 9 I J 119 [(0, .ref (ea (zE Z) 87)), (2, .int v2), (5, .int v5), (6, .int v6), (7, .int v7), (8, .int v8)] []) (v2 : Int32) (v5 : Int32) (v6 : Int32) (v8 : Int32) (s0 : Int32) (I : MI) (J : MJ) (h : vc_X11_comes_B159  Q k106 k119 v2 v5 v6 v8 s0 I J) : GW Z 9 I J 159 [(0, .ref (ea (zE Z) 87)), (2, .int v2), (5, .int v5), (6, .int v6), (8, .int v8)] [.int s0] := by
  refine g_istore X (lv' := [(7, .int s0), (0, .ref (ea (zE Z) 87)), (2, .int v2), (5, .int v5), (6, .int v6), (8, .int v8)]) dX11_comes_159 (by decide) rfl ?_
  obtain ⟨x1, ex1⟩ : ∃ y : Int32, y = v8 + 1 := ⟨_, rfl⟩
  have h := h x1 ex1
  refine g_iinc X (q := 5) (v := x1) (lv' := [(8, .int x1), (7, .int s0), (0, .ref (ea (zE Z) 87)), (2, .int v2), (5, .int v5), (6, .int v6)]) dX11_comes_161 rfl (by rw [ex1]; rfl) (by decide) rfl ?_
  refine g_goto X (tgt := 119) dX11_comes_164 (by decide) ?_
  refine GW.sub (lv' := [(0, .ref (ea (zE Z) 87)), (2, .int v2), (5, .int v5), (6, .int v6), (7, .int s0), (8, .int x1)]) [2, 3, 4, 5, 1, 0] rfl ?_
  exact hk119 v2 v5 v6 s0 x1 I J h
def vc_X11_comes_B154  (Q : Int32 → MI → MJ → Prop) (k106 : Int32 → Int32 → Int32 → MI → MJ → Prop) (k119 : Int32 → Int32 → Int32 → Int32 → Int32 → MI → MJ → Prop) (v2 : Int32) (v5 : Int32) (v6 : Int32) (v8 : Int32) (I : MI) (J : MJ) : Prop := vc_X11_comes_B159  Q k106 k119 v2 v5 v6 v8 1 I J
set_option maxRecDepth 100000 in
set_option maxHeartbeats 4000000 in
theorem w_X11_comes_B154 {Z : RT}  (X : Cx Z cX11_comes 9 RX11 wsX11_comes rmX11_comes (some .int)) {Q : Int32 → MI → MJ → Prop} (R : RI Z Q)  {k106 : Int32 → Int32 → Int32 → MI → MJ → Prop} {k119 : Int32 → Int32 → Int32 → Int32 → Int32 → MI → MJ → Prop} (hk106 : ∀ (v2 : Int32) (v5 : Int32) (v6 : Int32) (I : MI) (J : MJ), k106 v2 v5 v6 I J → GW Z 9 I J 106 [(0, .ref (ea (zE Z) 87)), (2, .int v2), (5, .int v5), (6, .int v6)] []) (hk119 : ∀ (v2 : Int32) (v5 : Int32) (v6 : Int32) (v7 : Int32) (v8 : Int32) (I : MI) (J : MJ), k119 v2 v5 v6 v7 v8 I J → GW Z 9 I J 119 [(0, .ref (ea (zE Z) 87)), (2, .int v2), (5, .int v5), (6, .int v6), (7, .int v7), (8, .int v8)] []) (v2 : Int32) (v5 : Int32) (v6 : Int32) (v8 : Int32) (I : MI) (J : MJ) (h : vc_X11_comes_B154  Q k106 k119 v2 v5 v6 v8 I J) : GW Z 9 I J 154 [(0, .ref (ea (zE Z) 87)), (2, .int v2), (5, .int v5), (6, .int v6), (8, .int v8)] [] := by
  refine g_iconst X (v := 1) dX11_comes_154 (by decide) ?_
  refine g_goto X (tgt := 159) dX11_comes_155 (by decide) ?_
  refine GW.sub (lv' := [(0, .ref (ea (zE Z) 87)), (2, .int v2), (5, .int v5), (6, .int v6), (8, .int v8)]) [0, 1, 2, 3, 4] rfl ?_
  exact w_X11_comes_B159 X R  hk106 hk119 v2 v5 v6 v8 1 I J h
def vc_X11_comes_B179  (Q : Int32 → MI → MJ → Prop) (k106 : Int32 → Int32 → Int32 → MI → MJ → Prop) (v2 : Int32) (v6 : Int32) (s0 : Int32) (s1 : Int32) (I : MI) (J : MJ) : Prop := ∀ x2 : Int32, x2 = s0 + s1 → ∀ x3 : Int32, x3 = v6 + 1 → k106 v2 x2 x3 I J
set_option maxRecDepth 100000 in
set_option maxHeartbeats 4000000 in
theorem w_X11_comes_B179 {Z : RT}  (X : Cx Z cX11_comes 9 RX11 wsX11_comes rmX11_comes (some .int)) {Q : Int32 → MI → MJ → Prop} (R : RI Z Q)  {k106 : Int32 → Int32 → Int32 → MI → MJ → Prop} (hk106 : ∀ (v2 : Int32) (v5 : Int32) (v6 : Int32) (I : MI) (J : MJ), k106 v2 v5 v6 I J → GW Z 9 I J 106 [(0, .ref (ea (zE Z) 87)), (2, .int v2), (5, .int v5), (6, .int v6)] []) (v2 : Int32) (v6 : Int32) (s0 : Int32) (s1 : Int32) (I : MI) (J : MJ) (h : vc_X11_comes_B179  Q k106 v2 v6 s0 s1 I J) : GW Z 9 I J 179 [(0, .ref (ea (zE Z) 87)), (2, .int v2), (6, .int v6)] [.int s1, .int s0] := by
  refine g_iadd X dX11_comes_179 ?_
  refine g_topi (fun x2 ex2 => ?_)
  have h := h x2 ex2
  refine g_istore X (lv' := [(5, .int x2), (0, .ref (ea (zE Z) 87)), (2, .int v2), (6, .int v6)]) dX11_comes_180 (by decide) rfl ?_
  obtain ⟨x3, ex3⟩ : ∃ y : Int32, y = v6 + 1 := ⟨_, rfl⟩
  have h := h x3 ex3
  refine g_iinc X (q := 3) (v := x3) (lv' := [(6, .int x3), (5, .int x2), (0, .ref (ea (zE Z) 87)), (2, .int v2)]) dX11_comes_182 rfl (by rw [ex3]; rfl) (by decide) rfl ?_
  refine g_goto X (tgt := 106) dX11_comes_185 (by decide) ?_
  refine GW.sub (lv' := [(0, .ref (ea (zE Z) 87)), (2, .int v2), (5, .int x2), (6, .int x3)]) [2, 3, 1, 0] rfl ?_
  exact hk106 v2 x2 x3 I J h
def vc_X11_comes_L119s  (Q : Int32 → MI → MJ → Prop) (k106 : Int32 → Int32 → Int32 → MI → MJ → Prop) (k119 : Int32 → Int32 → Int32 → Int32 → Int32 → MI → MJ → Prop) (v2 : Int32) (v5 : Int32) (v6 : Int32) (v7 : Int32) (v8 : Int32) (I : MI) (J : MJ) : Prop := ((48 < v8 → ((v7 = 0 → vc_X11_comes_B179  Q k106 v2 v6 v5 0 I J) ∧ (¬ v7 = 0 → vc_X11_comes_B179  Q k106 v2 v6 v5 1 I J))) ∧ (¬ 48 < v8 → ((¬ v7 = 0 → vc_X11_comes_B154  Q k106 k119 v2 v5 v6 v8 I J) ∧ (v7 = 0 → vc_X11_isIn 99 343 100 343 ((7 * v8) + v2) v6 I J (fun (r9 : Int32) (I7 : MI) (J8 : MJ) => ((r9 = 0 → vc_X11_comes_B159  Q k106 k119 v2 v5 v6 v8 0 I7 J8) ∧ (¬ r9 = 0 → vc_X11_comes_B154  Q k106 k119 v2 v5 v6 v8 I7 J8)))))))
def vc_X11_comes_L119  (Q : Int32 → MI → MJ → Prop) (k106 : Int32 → Int32 → Int32 → MI → MJ → Prop) (n : Nat) : Int32 → Int32 → Int32 → Int32 → Int32 → MI → MJ → Prop := Nat.rec (fun _ _ _ _ _ _ _ => False) (fun _ ih => vc_X11_comes_L119s  Q k106 ih) n
set_option maxRecDepth 100000 in
set_option maxHeartbeats 4000000 in
theorem w_X11_comes_L119s {Z : RT}  (X : Cx Z cX11_comes 9 RX11 wsX11_comes rmX11_comes (some .int)) {Q : Int32 → MI → MJ → Prop} (R : RI Z Q)  {k106 : Int32 → Int32 → Int32 → MI → MJ → Prop} (hk106 : ∀ (v2 : Int32) (v5 : Int32) (v6 : Int32) (I : MI) (J : MJ), k106 v2 v5 v6 I J → GW Z 9 I J 106 [(0, .ref (ea (zE Z) 87)), (2, .int v2), (5, .int v5), (6, .int v6)] []) {k119 : Int32 → Int32 → Int32 → Int32 → Int32 → MI → MJ → Prop} (hk119 : ∀ (v2 : Int32) (v5 : Int32) (v6 : Int32) (v7 : Int32) (v8 : Int32) (I : MI) (J : MJ), k119 v2 v5 v6 v7 v8 I J → GW Z 9 I J 119 [(0, .ref (ea (zE Z) 87)), (2, .int v2), (5, .int v5), (6, .int v6), (7, .int v7), (8, .int v8)] []) (v2 : Int32) (v5 : Int32) (v6 : Int32) (v7 : Int32) (v8 : Int32) (I : MI) (J : MJ) (h : vc_X11_comes_L119s  Q k106 k119 v2 v5 v6 v7 v8 I J) : GW Z 9 I J 119 [(0, .ref (ea (zE Z) 87)), (2, .int v2), (5, .int v5), (6, .int v6), (7, .int v7), (8, .int v8)] [] := by
  refine g_iload X dX11_comes_119 5 rfl ?_
  refine g_bipush X (v := 48) dX11_comes_121 (by decide) ?_
  refine g_icmp_gt X (tgt := 167) dX11_comes_123 (by decide) (fun c4 => ?_) (fun c4 => ?_)
  · have h := h.1 c4
    refine g_iload X dX11_comes_167 2 rfl ?_
    refine g_iload X dX11_comes_169 4 rfl ?_
    refine g_if_eq X (tgt := 178) dX11_comes_171 (by decide) (fun c5 => ?_) (fun c5 => ?_)
    · have h := h.1 c5
      refine g_iconst X (v := 0) dX11_comes_178 (by decide) ?_
      refine GW.sub (lv' := [(0, .ref (ea (zE Z) 87)), (2, .int v2), (6, .int v6)]) [0, 1, 3] rfl ?_
      exact w_X11_comes_B179 X R  hk106 v2 v6 v5 0 I J h
    · have h := h.2 c5
      refine g_iconst X (v := 1) dX11_comes_174 (by decide) ?_
      refine g_goto X (tgt := 179) dX11_comes_175 (by decide) ?_
      refine GW.sub (lv' := [(0, .ref (ea (zE Z) 87)), (2, .int v2), (6, .int v6)]) [0, 1, 3] rfl ?_
      exact w_X11_comes_B179 X R  hk106 v2 v6 v5 1 I J h
  · have h := h.2 c4
    refine g_iload X dX11_comes_126 4 rfl ?_
    refine g_if_ne X (tgt := 154) dX11_comes_128 (by decide) (fun c6 => ?_) (fun c6 => ?_)
    · have h := h.1 c6
      refine GW.sub (lv' := [(0, .ref (ea (zE Z) 87)), (2, .int v2), (5, .int v5), (6, .int v6), (8, .int v8)]) [0, 1, 2, 3, 5] rfl ?_
      exact w_X11_comes_B154 X R  hk106 hk119 v2 v5 v6 v8 I J h
    · have h := h.2 c6
      refine g_aload_n X dX11_comes_131 rfl 0 rfl ?_
      refine g_getr X (C := RX11) (T := TX11) (N := 39) (ci := 9) (k := 29) iX11_comes_X11 rfl kX11_comes_44 (Nat.le_of_ble_eq_true rfl) rfl (by decide) rfl rfl dX11_comes_132 ?_
      refine g_aload_n X dX11_comes_135 rfl 0 rfl ?_
      refine g_getr X (C := RX11) (T := TX11) (N := 39) (ci := 9) (k := 30) iX11_comes_X11 rfl kX11_comes_48 (Nat.le_of_ble_eq_true rfl) rfl (by decide) rfl rfl dX11_comes_136 ?_
      refine g_bipush X (v := 7) dX11_comes_139 (by decide) ?_
      refine g_iload X dX11_comes_141 5 rfl ?_
      refine g_imul X dX11_comes_143 ?_
      refine g_iload_n X dX11_comes_144 rfl 1 rfl ?_
      refine g_iadd X dX11_comes_145 ?_
      refine g_iload X dX11_comes_146 3 rfl ?_
      refine g_callSI X (As := [.ref (ea (zE Z) 99), .ref (ea (zE Z) 100), .int ((7 * v8) + v2), .int v6]) (rest := []) (c_X11_isIn (zl Z) (zE Z) (Nat.le_of_ble_eq_true rfl) rfl (Nat.le_of_ble_eq_true rfl) rfl ((7 * v8) + v2) v6) gX11_comes_X11_isIn yo_X11_isIn.2 rfl ⟨Nat.le_of_ble_eq_true rfl, Nat.le_of_ble_eq_true rfl⟩ rfl dX11_comes_148 h (fun r9 I7 J8 h => ?_)
      refine g_if_eq X (tgt := 158) dX11_comes_151 (by decide) (fun c10 => ?_) (fun c10 => ?_)
      · have h := h.1 c10
        refine g_iconst X (v := 0) dX11_comes_158 (by decide) ?_
        refine GW.sub (lv' := [(0, .ref (ea (zE Z) 87)), (2, .int v2), (5, .int v5), (6, .int v6), (8, .int v8)]) [0, 1, 2, 3, 5] rfl ?_
        exact w_X11_comes_B159 X R  hk106 hk119 v2 v5 v6 v8 0 I7 J8 h
      · have h := h.2 c10
        refine GW.sub (lv' := [(0, .ref (ea (zE Z) 87)), (2, .int v2), (5, .int v5), (6, .int v6), (8, .int v8)]) [0, 1, 2, 3, 5] rfl ?_
        exact w_X11_comes_B154 X R  hk106 hk119 v2 v5 v6 v8 I7 J8 h
theorem w_X11_comes_L119 {Z : RT}  (X : Cx Z cX11_comes 9 RX11 wsX11_comes rmX11_comes (some .int)) {Q : Int32 → MI → MJ → Prop} (R : RI Z Q)  {k106 : Int32 → Int32 → Int32 → MI → MJ → Prop} (hk106 : ∀ (v2 : Int32) (v5 : Int32) (v6 : Int32) (I : MI) (J : MJ), k106 v2 v5 v6 I J → GW Z 9 I J 106 [(0, .ref (ea (zE Z) 87)), (2, .int v2), (5, .int v5), (6, .int v6)] []) : ∀ (n : Nat) (v2 : Int32) (v5 : Int32) (v6 : Int32) (v7 : Int32) (v8 : Int32) (I : MI) (J : MJ) (h : vc_X11_comes_L119  Q k106 n v2 v5 v6 v7 v8 I J), GW Z 9 I J 119 [(0, .ref (ea (zE Z) 87)), (2, .int v2), (5, .int v5), (6, .int v6), (7, .int v7), (8, .int v8)] [] := by
  intro n
  induction n with
  | zero => intro v2 v5 v6 v7 v8 I J h; exact h.elim
  | succ n ih => intro v2 v5 v6 v7 v8 I J h; exact w_X11_comes_L119s X R  hk106 ih v2 v5 v6 v7 v8 I J h
def vc_X11_comes_L106s  (Q : Int32 → MI → MJ → Prop)  (k106 : Int32 → Int32 → Int32 → MI → MJ → Prop) (v2 : Int32) (v5 : Int32) (v6 : Int32) (I : MI) (J : MJ) : Prop := ((99 < v6 → Q v5 I J) ∧ (¬ 99 < v6 → (∃ n, vc_X11_comes_L119  Q k106 n v2 v5 v6 0 0 I J)))
def vc_X11_comes_L106  (Q : Int32 → MI → MJ → Prop)  (n : Nat) : Int32 → Int32 → Int32 → MI → MJ → Prop := Nat.rec (fun _ _ _ _ _ => False) (fun _ ih => vc_X11_comes_L106s  Q  ih) n
set_option maxRecDepth 100000 in
set_option maxHeartbeats 4000000 in
theorem w_X11_comes_L106s {Z : RT}  (X : Cx Z cX11_comes 9 RX11 wsX11_comes rmX11_comes (some .int)) {Q : Int32 → MI → MJ → Prop} (R : RI Z Q)    {k106 : Int32 → Int32 → Int32 → MI → MJ → Prop} (hk106 : ∀ (v2 : Int32) (v5 : Int32) (v6 : Int32) (I : MI) (J : MJ), k106 v2 v5 v6 I J → GW Z 9 I J 106 [(0, .ref (ea (zE Z) 87)), (2, .int v2), (5, .int v5), (6, .int v6)] []) (v2 : Int32) (v5 : Int32) (v6 : Int32) (I : MI) (J : MJ) (h : vc_X11_comes_L106s  Q  k106 v2 v5 v6 I J) : GW Z 9 I J 106 [(0, .ref (ea (zE Z) 87)), (2, .int v2), (5, .int v5), (6, .int v6)] [] := by
  refine g_iload X dX11_comes_106 3 rfl ?_
  refine g_bipush X (v := 99) dX11_comes_108 (by decide) ?_
  refine g_icmp_gt X (tgt := 188) dX11_comes_110 (by decide) (fun c11 => ?_) (fun c11 => ?_)
  · have h := h.1 c11
    refine g_iload X dX11_comes_188 2 rfl ?_
    exact g_iret X R dX11_comes_190 h
  · have h := h.2 c11
    refine g_iconst X (v := 0) dX11_comes_113 (by decide) ?_
    refine g_istore X (lv' := [(7, .int 0), (0, .ref (ea (zE Z) 87)), (2, .int v2), (5, .int v5), (6, .int v6)]) dX11_comes_114 (by decide) rfl ?_
    refine g_iconst X (v := 0) dX11_comes_116 (by decide) ?_
    refine g_istore X (lv' := [(8, .int 0), (7, .int 0), (0, .ref (ea (zE Z) 87)), (2, .int v2), (5, .int v5), (6, .int v6)]) dX11_comes_117 (by decide) rfl ?_
    refine GW.sub (lv' := [(0, .ref (ea (zE Z) 87)), (2, .int v2), (5, .int v5), (6, .int v6), (7, .int 0), (8, .int 0)]) [2, 3, 4, 5, 1, 0] rfl ?_
    obtain ⟨n, h⟩ := h
    exact w_X11_comes_L119 X R  hk106 n v2 v5 v6 0 0 I J h
theorem w_X11_comes_L106 {Z : RT}  (X : Cx Z cX11_comes 9 RX11 wsX11_comes rmX11_comes (some .int)) {Q : Int32 → MI → MJ → Prop} (R : RI Z Q)    : ∀ (n : Nat) (v2 : Int32) (v5 : Int32) (v6 : Int32) (I : MI) (J : MJ) (h : vc_X11_comes_L106  Q  n v2 v5 v6 I J), GW Z 9 I J 106 [(0, .ref (ea (zE Z) 87)), (2, .int v2), (5, .int v5), (6, .int v6)] [] := by
  intro n
  induction n with
  | zero => intro v2 v5 v6 I J h; exact h.elim
  | succ n ih => intro v2 v5 v6 I J h; exact w_X11_comes_L106s X R   ih v2 v5 v6 I J h
def vc_X11_comes (p1 : Int32) (p2 : Int32) (p3 : Int32) (I : MI) (J : MJ) (Q : Int32 → MI → MJ → Prop) : Prop := vc_X11_isCart p1 I J (fun (r14 : Int32) (I12 : MI) (J13 : MJ) => ((r14 = 0 → Q (-2) I12 J13) ∧ (¬ r14 = 0 → vc_X11_isPlace p2 I12 J13 (fun (r18 : Int32) (I16 : MI) (J17 : MJ) => ((¬ r18 = 0 → vc_X11_in p3 0 2 I16 J17 (fun (r22 : Int32) (I20 : MI) (J21 : MJ) => ((¬ r22 = 0 → vc_X11_strawOf p1 I20 J21 (fun (r26 : Int32) (I24 : MI) (J25 : MJ) => vc_X11_layFrom 99 343 100 343 p1 r26 I24 J25 (fun (I27 : MI) (J28 : MJ) => vc_X11_mostIn 99 343 100 343 p2 48 I27 J28 (fun (r31 : Int32) (I29 : MI) (J30 : MJ) => ((r31 = (-1) → Q r31 I29 J30) ∧ (¬ r31 = (-1) → ((¬ p3 = 0 → ((¬ p3 = 1 → (∃ n, vc_X11_comes_L106  Q  n p2 0 0 I29 J30)) ∧ (p3 = 1 → vc_X11_soonestIn 99 343 100 343 p2 r31 I29 J30 (fun (r37 : Int32) (I35 : MI) (J36 : MJ) => Q r37 I35 J36)))) ∧ (p3 = 0 → Q r31 I29 J30)))))))) ∧ (r22 = 0 → Q (-3) I20 J21)))) ∧ (r18 = 0 → Q (-2) I16 J17))))))
set_option maxRecDepth 100000 in
set_option maxHeartbeats 4000000 in
theorem c_X11_comes (l : Launch) (E : ET)  (p1 : Int32) (p2 : Int32) (p3 : Int32) : CI l yX11_comes wsX11_comes rmX11_comes E [.ref (ea E 87), .int p1, .int p2, .int p3] (vc_X11_comes p1 p2 p3) := by
  refine CI.of (cc := cX11_comes) (maxL := 9) (own := RX11) (by decide) rfl rfl (Nat.le_of_ble_eq_true rfl) ?_
  intro Z I J Q hE hl X R h
  subst hE
  subst hl
  show GW Z 9 I J 0 [(0, .ref (ea (zE Z) 87)), (1, .int p1), (2, .int p2), (3, .int p3)] []
  refine g_aload_n X dX11_comes_0 rfl 0 rfl ?_
  refine g_iload_n X dX11_comes_1 rfl 1 rfl ?_
  refine g_callVI X (As := [.int p1]) (rest := []) (T := TX11) (N := 39) (c_X11_isCart (zl Z) (zE Z) p1) gX11_comes_X11_isCart yo_X11_isCart rfl ⟨Nat.le_of_ble_eq_true rfl, Nat.le_of_ble_eq_true rfl⟩ (Nat.le_of_ble_eq_true rfl) rfl rfl rfl dX11_comes_2 h (fun r14 I12 J13 h => ?_)
  refine g_if_eq X (tgt := 16) dX11_comes_5 (by decide) (fun c15 => ?_) (fun c15 => ?_)
  · have h := h.1 c15
    refine g_bipush X (v := (-2)) dX11_comes_16 (by decide) ?_
    exact g_iret X R dX11_comes_18 h
  · have h := h.2 c15
    refine g_aload_n X dX11_comes_8 rfl 0 rfl ?_
    refine g_iload_n X dX11_comes_9 rfl 2 rfl ?_
    refine g_callVI X (As := [.int p2]) (rest := []) (T := TX11) (N := 39) (c_X11_isPlace (zl Z) (zE Z) p2) gX11_comes_X11_isPlace yo_X11_isPlace rfl ⟨Nat.le_of_ble_eq_true rfl, Nat.le_of_ble_eq_true rfl⟩ (Nat.le_of_ble_eq_true rfl) rfl rfl rfl dX11_comes_10 h (fun r18 I16 J17 h => ?_)
    refine g_if_ne X (tgt := 19) dX11_comes_13 (by decide) (fun c19 => ?_) (fun c19 => ?_)
    · have h := h.1 c19
      refine g_iload_n X dX11_comes_19 rfl 3 rfl ?_
      refine g_iconst X (v := 0) dX11_comes_20 (by decide) ?_
      refine g_iconst X (v := 2) dX11_comes_21 (by decide) ?_
      refine g_callSI X (As := [.int p3, .int 0, .int 2]) (rest := []) (c_X11_in (zl Z) (zE Z) p3 0 2) gX11_comes_X11_in yo_X11_in.2 rfl ⟨Nat.le_of_ble_eq_true rfl, Nat.le_of_ble_eq_true rfl⟩ rfl dX11_comes_22 h (fun r22 I20 J21 h => ?_)
      refine g_if_ne X (tgt := 31) dX11_comes_25 (by decide) (fun c23 => ?_) (fun c23 => ?_)
      · have h := h.1 c23
        refine g_aload_n X dX11_comes_31 rfl 0 rfl ?_
        refine g_aload_n X dX11_comes_32 rfl 0 rfl ?_
        refine g_getr X (C := RX11) (T := TX11) (N := 39) (ci := 9) (k := 29) iX11_comes_X11 rfl kX11_comes_44 (Nat.le_of_ble_eq_true rfl) rfl (by decide) rfl rfl dX11_comes_33 ?_
        refine g_aload_n X dX11_comes_36 rfl 0 rfl ?_
        refine g_getr X (C := RX11) (T := TX11) (N := 39) (ci := 9) (k := 30) iX11_comes_X11 rfl kX11_comes_48 (Nat.le_of_ble_eq_true rfl) rfl (by decide) rfl rfl dX11_comes_37 ?_
        refine g_iload_n X dX11_comes_40 rfl 1 rfl ?_
        refine g_aload_n X dX11_comes_41 rfl 0 rfl ?_
        refine g_iload_n X dX11_comes_42 rfl 1 rfl ?_
        refine g_callVI X (As := [.int p1]) (rest := [.int p1, .ref (ea (zE Z) 100), .ref (ea (zE Z) 99), .ref (ea (zE Z) 87)]) (T := TX11) (N := 39) (c_X11_strawOf (zl Z) (zE Z) p1) gX11_comes_X11_strawOf yo_X11_strawOf rfl ⟨Nat.le_of_ble_eq_true rfl, Nat.le_of_ble_eq_true rfl⟩ (Nat.le_of_ble_eq_true rfl) rfl rfl rfl dX11_comes_43 h (fun r26 I24 J25 h => ?_)
        refine g_callVV X (As := [.ref (ea (zE Z) 99), .ref (ea (zE Z) 100), .int p1, .int r26]) (rest := []) (T := TX11) (N := 39) (c_X11_layFrom (zl Z) (zE Z) (Nat.le_of_ble_eq_true rfl) rfl (Nat.le_of_ble_eq_true rfl) rfl p1 r26) gX11_comes_X11_layFrom yo_X11_layFrom rfl ⟨Nat.le_of_ble_eq_true rfl, Nat.le_of_ble_eq_true rfl⟩ (Nat.le_of_ble_eq_true rfl) rfl rfl rfl dX11_comes_46 h (fun  I27 J28 h => ?_)
        refine g_aload_n X dX11_comes_49 rfl 0 rfl ?_
        refine g_aload_n X dX11_comes_50 rfl 0 rfl ?_
        refine g_getr X (C := RX11) (T := TX11) (N := 39) (ci := 9) (k := 29) iX11_comes_X11 rfl kX11_comes_44 (Nat.le_of_ble_eq_true rfl) rfl (by decide) rfl rfl dX11_comes_51 ?_
        refine g_aload_n X dX11_comes_54 rfl 0 rfl ?_
        refine g_getr X (C := RX11) (T := TX11) (N := 39) (ci := 9) (k := 30) iX11_comes_X11 rfl kX11_comes_48 (Nat.le_of_ble_eq_true rfl) rfl (by decide) rfl rfl dX11_comes_55 ?_
        refine g_iload_n X dX11_comes_58 rfl 2 rfl ?_
        refine g_bipush X (v := 48) dX11_comes_59 (by decide) ?_
        refine g_callVI X (As := [.ref (ea (zE Z) 99), .ref (ea (zE Z) 100), .int p2, .int 48]) (rest := []) (T := TX11) (N := 39) (c_X11_mostIn (zl Z) (zE Z) (Nat.le_of_ble_eq_true rfl) rfl (Nat.le_of_ble_eq_true rfl) rfl p2 48) gX11_comes_X11_mostIn yo_X11_mostIn rfl ⟨Nat.le_of_ble_eq_true rfl, Nat.le_of_ble_eq_true rfl⟩ (Nat.le_of_ble_eq_true rfl) rfl rfl rfl dX11_comes_61 h (fun r31 I29 J30 h => ?_)
        refine g_istore X (lv' := [(4, .int r31), (0, .ref (ea (zE Z) 87)), (1, .int p1), (2, .int p2), (3, .int p3)]) dX11_comes_64 (by decide) rfl ?_
        refine g_iload X dX11_comes_66 0 rfl ?_
        refine g_iconst X (v := (-1)) dX11_comes_68 (by decide) ?_
        refine g_icmp_eq X (tgt := 76) dX11_comes_69 (by decide) (fun c32 => ?_) (fun c32 => ?_)
        · have h := h.1 c32
          refine g_iload X dX11_comes_76 0 rfl ?_
          exact g_iret X R dX11_comes_78 h
        · have h := h.2 c32
          refine g_iload_n X dX11_comes_72 rfl 4 rfl ?_
          refine g_if_ne X (tgt := 79) dX11_comes_73 (by decide) (fun c33 => ?_) (fun c33 => ?_)
          · have h := h.1 c33
            refine g_iload_n X dX11_comes_79 rfl 4 rfl ?_
            refine g_iconst X (v := 1) dX11_comes_80 (by decide) ?_
            refine g_icmp_ne X (tgt := 100) dX11_comes_81 (by decide) (fun c34 => ?_) (fun c34 => ?_)
            · have h := h.1 c34
              refine g_iconst X (v := 0) dX11_comes_100 (by decide) ?_
              refine g_istore X (lv' := [(5, .int 0), (4, .int r31), (0, .ref (ea (zE Z) 87)), (1, .int p1), (2, .int p2), (3, .int p3)]) dX11_comes_101 (by decide) rfl ?_
              refine g_iconst X (v := 0) dX11_comes_103 (by decide) ?_
              refine g_istore X (lv' := [(6, .int 0), (5, .int 0), (4, .int r31), (0, .ref (ea (zE Z) 87)), (1, .int p1), (2, .int p2), (3, .int p3)]) dX11_comes_104 (by decide) rfl ?_
              refine GW.sub (lv' := [(0, .ref (ea (zE Z) 87)), (2, .int p2), (5, .int 0), (6, .int 0)]) [3, 5, 1, 0] rfl ?_
              obtain ⟨n, h⟩ := h
              exact w_X11_comes_L106 X R   n p2 0 0 I29 J30 h
            · have h := h.2 c34
              refine g_aload_n X dX11_comes_84 rfl 1 rfl ?_
              refine g_aload_n X dX11_comes_85 rfl 1 rfl ?_
              refine g_getr X (C := RX11) (T := TX11) (N := 39) (ci := 9) (k := 29) iX11_comes_X11 rfl kX11_comes_44 (Nat.le_of_ble_eq_true rfl) rfl (by decide) rfl rfl dX11_comes_86 ?_
              refine g_aload_n X dX11_comes_89 rfl 1 rfl ?_
              refine g_getr X (C := RX11) (T := TX11) (N := 39) (ci := 9) (k := 30) iX11_comes_X11 rfl kX11_comes_48 (Nat.le_of_ble_eq_true rfl) rfl (by decide) rfl rfl dX11_comes_90 ?_
              refine g_iload_n X dX11_comes_93 rfl 3 rfl ?_
              refine g_iload X dX11_comes_94 0 rfl ?_
              refine g_callVI X (As := [.ref (ea (zE Z) 99), .ref (ea (zE Z) 100), .int p2, .int r31]) (rest := []) (T := TX11) (N := 39) (c_X11_soonestIn (zl Z) (zE Z) (Nat.le_of_ble_eq_true rfl) rfl (Nat.le_of_ble_eq_true rfl) rfl p2 r31) gX11_comes_X11_soonestIn yo_X11_soonestIn rfl ⟨Nat.le_of_ble_eq_true rfl, Nat.le_of_ble_eq_true rfl⟩ (Nat.le_of_ble_eq_true rfl) rfl rfl rfl dX11_comes_96 h (fun r37 I35 J36 h => ?_)
              exact g_iret X R dX11_comes_99 h
          · have h := h.2 c33
            refine g_iload X dX11_comes_76 0 rfl ?_
            exact g_iret X R dX11_comes_78 h
      · have h := h.2 c23
        refine g_bipush X (v := (-3)) dX11_comes_28 (by decide) ?_
        exact g_iret X R dX11_comes_30 h
    · have h := h.2 c19
      refine g_bipush X (v := (-2)) dX11_comes_16 (by decide) ?_
      exact g_iret X R dX11_comes_18 h

/-! X11_straw.straw(IIII)I -/
def rmX11_straw : Room := { frames := 5, cells := 0, slots := 0, locals := 130 }
theorem yo_X11_straw : yX11_straw.cls = RX11 ∧ yX11_straw.cls ≠ "java/lang/invoke/MethodHandle" ∧ yX11_straw.cls ≠ "java/lang/invoke/VarHandle" ∧ (parseMethodDescriptor yX11_straw.desc).map (fun d => d.parameters.length) = some 4 := by decide +kernel
theorem kX11_straw_44 : Cond.fieldLink RX11 44 "SnowCourseModel" (TX11 29).2.1 (TX11 29).2.2.1 ∈ wsX11_straw := by decide +kernel
theorem iX11_straw_X11 : ∀ w ∈ u_ws RX11 TX11 39, w ∈ wsX11_straw := by decide +kernel
theorem kX11_straw_48 : Cond.fieldLink RX11 48 "SnowCourseModel" (TX11 30).2.1 (TX11 30).2.2.1 ∈ wsX11_straw := by decide +kernel
def vc_X11_straw_L46s  (Q : Int32 → MI → MJ → Prop)  (k46 : Int32 → Int32 → Int32 → Int32 → Int32 → MI → MJ → Prop) (v1 : Int32) (v2 : Int32) (v3 : Int32) (v4 : Int32) (v5 : Int32) (I : MI) (J : MJ) : Prop := ((4 ≤ v5 → Q (-1) I J) ∧ (¬ 4 ≤ v5 → vc_X11_layFrom 99 343 100 343 v1 v5 I J (fun (I2 : MI) (J3 : MJ) => vc_X11_mostIn 99 343 100 343 v2 v4 I2 J3 (fun (r6 : Int32) (I4 : MI) (J5 : MJ) => ((r6 = (-1) → ∀ x8 : Int32, x8 = v5 + 1 → k46 v1 v2 v3 v4 x8 I4 J5) ∧ (¬ r6 = (-1) → ((r6 < v3 → ∀ x10 : Int32, x10 = v5 + 1 → k46 v1 v2 v3 v4 x10 I4 J5) ∧ (¬ r6 < v3 → Q v5 I4 J5))))))))
def vc_X11_straw_L46  (Q : Int32 → MI → MJ → Prop)  (n : Nat) : Int32 → Int32 → Int32 → Int32 → Int32 → MI → MJ → Prop := Nat.rec (fun _ _ _ _ _ _ _ => False) (fun _ ih => vc_X11_straw_L46s  Q  ih) n
set_option maxRecDepth 100000 in
set_option maxHeartbeats 4000000 in
theorem w_X11_straw_L46s {Z : RT}  (X : Cx Z cX11_straw 7 RX11 wsX11_straw rmX11_straw (some .int)) {Q : Int32 → MI → MJ → Prop} (R : RI Z Q)    {k46 : Int32 → Int32 → Int32 → Int32 → Int32 → MI → MJ → Prop} (hk46 : ∀ (v1 : Int32) (v2 : Int32) (v3 : Int32) (v4 : Int32) (v5 : Int32) (I : MI) (J : MJ), k46 v1 v2 v3 v4 v5 I J → GW Z 7 I J 46 [(0, .ref (ea (zE Z) 87)), (1, .int v1), (2, .int v2), (3, .int v3), (4, .int v4), (5, .int v5)] []) (v1 : Int32) (v2 : Int32) (v3 : Int32) (v4 : Int32) (v5 : Int32) (I : MI) (J : MJ) (h : vc_X11_straw_L46s  Q  k46 v1 v2 v3 v4 v5 I J) : GW Z 7 I J 46 [(0, .ref (ea (zE Z) 87)), (1, .int v1), (2, .int v2), (3, .int v3), (4, .int v4), (5, .int v5)] [] := by
  refine g_iload X dX11_straw_46 5 rfl ?_
  refine g_iconst X (v := 4) dX11_straw_48 (by decide) ?_
  refine g_icmp_ge X (tgt := 105) dX11_straw_49 (by decide) (fun c1 => ?_) (fun c1 => ?_)
  · have h := h.1 c1
    refine g_iconst X (v := (-1)) dX11_straw_105 (by decide) ?_
    exact g_iret X R dX11_straw_106 h
  · have h := h.2 c1
    refine g_aload_n X dX11_straw_52 rfl 0 rfl ?_
    refine g_aload_n X dX11_straw_53 rfl 0 rfl ?_
    refine g_getr X (C := RX11) (T := TX11) (N := 39) (ci := 9) (k := 29) iX11_straw_X11 rfl kX11_straw_44 (Nat.le_of_ble_eq_true rfl) rfl (by decide) rfl rfl dX11_straw_54 ?_
    refine g_aload_n X dX11_straw_57 rfl 0 rfl ?_
    refine g_getr X (C := RX11) (T := TX11) (N := 39) (ci := 9) (k := 30) iX11_straw_X11 rfl kX11_straw_48 (Nat.le_of_ble_eq_true rfl) rfl (by decide) rfl rfl dX11_straw_58 ?_
    refine g_iload_n X dX11_straw_61 rfl 1 rfl ?_
    refine g_iload X dX11_straw_62 5 rfl ?_
    refine g_callVV X (As := [.ref (ea (zE Z) 99), .ref (ea (zE Z) 100), .int v1, .int v5]) (rest := []) (T := TX11) (N := 39) (c_X11_layFrom (zl Z) (zE Z) (Nat.le_of_ble_eq_true rfl) rfl (Nat.le_of_ble_eq_true rfl) rfl v1 v5) gX11_straw_X11_layFrom yo_X11_layFrom rfl ⟨Nat.le_of_ble_eq_true rfl, Nat.le_of_ble_eq_true rfl⟩ (Nat.le_of_ble_eq_true rfl) rfl rfl rfl dX11_straw_64 h (fun  I2 J3 h => ?_)
    refine g_aload_n X dX11_straw_67 rfl 0 rfl ?_
    refine g_aload_n X dX11_straw_68 rfl 0 rfl ?_
    refine g_getr X (C := RX11) (T := TX11) (N := 39) (ci := 9) (k := 29) iX11_straw_X11 rfl kX11_straw_44 (Nat.le_of_ble_eq_true rfl) rfl (by decide) rfl rfl dX11_straw_69 ?_
    refine g_aload_n X dX11_straw_72 rfl 0 rfl ?_
    refine g_getr X (C := RX11) (T := TX11) (N := 39) (ci := 9) (k := 30) iX11_straw_X11 rfl kX11_straw_48 (Nat.le_of_ble_eq_true rfl) rfl (by decide) rfl rfl dX11_straw_73 ?_
    refine g_iload_n X dX11_straw_76 rfl 2 rfl ?_
    refine g_iload X dX11_straw_77 4 rfl ?_
    refine g_callVI X (As := [.ref (ea (zE Z) 99), .ref (ea (zE Z) 100), .int v2, .int v4]) (rest := []) (T := TX11) (N := 39) (c_X11_mostIn (zl Z) (zE Z) (Nat.le_of_ble_eq_true rfl) rfl (Nat.le_of_ble_eq_true rfl) rfl v2 v4) gX11_straw_X11_mostIn yo_X11_mostIn rfl ⟨Nat.le_of_ble_eq_true rfl, Nat.le_of_ble_eq_true rfl⟩ (Nat.le_of_ble_eq_true rfl) rfl rfl rfl dX11_straw_79 h (fun r6 I4 J5 h => ?_)
    refine g_istore X (lv' := [(6, .int r6), (0, .ref (ea (zE Z) 87)), (1, .int v1), (2, .int v2), (3, .int v3), (4, .int v4), (5, .int v5)]) dX11_straw_82 (by decide) rfl ?_
    refine g_iload X dX11_straw_84 0 rfl ?_
    refine g_iconst X (v := (-1)) dX11_straw_86 (by decide) ?_
    refine g_icmp_eq X (tgt := 99) dX11_straw_87 (by decide) (fun c7 => ?_) (fun c7 => ?_)
    · have h := h.1 c7
      obtain ⟨x8, ex8⟩ : ∃ y : Int32, y = v5 + 1 := ⟨_, rfl⟩
      have h := h x8 ex8
      refine g_iinc X (q := 6) (v := x8) (lv' := [(5, .int x8), (6, .int r6), (0, .ref (ea (zE Z) 87)), (1, .int v1), (2, .int v2), (3, .int v3), (4, .int v4)]) dX11_straw_99 rfl (by rw [ex8]; rfl) (by decide) rfl ?_
      refine g_goto X (tgt := 46) dX11_straw_102 (by decide) ?_
      refine GW.sub (lv' := [(0, .ref (ea (zE Z) 87)), (1, .int v1), (2, .int v2), (3, .int v3), (4, .int v4), (5, .int x8)]) [2, 3, 4, 5, 6, 0] rfl ?_
      exact hk46 v1 v2 v3 v4 x8 I4 J5 h
    · have h := h.2 c7
      refine g_iload X dX11_straw_90 0 rfl ?_
      refine g_iload_n X dX11_straw_92 rfl 4 rfl ?_
      refine g_icmp_lt X (tgt := 99) dX11_straw_93 (by decide) (fun c9 => ?_) (fun c9 => ?_)
      · have h := h.1 c9
        obtain ⟨x10, ex10⟩ : ∃ y : Int32, y = v5 + 1 := ⟨_, rfl⟩
        have h := h x10 ex10
        refine g_iinc X (q := 6) (v := x10) (lv' := [(5, .int x10), (6, .int r6), (0, .ref (ea (zE Z) 87)), (1, .int v1), (2, .int v2), (3, .int v3), (4, .int v4)]) dX11_straw_99 rfl (by rw [ex10]; rfl) (by decide) rfl ?_
        refine g_goto X (tgt := 46) dX11_straw_102 (by decide) ?_
        refine GW.sub (lv' := [(0, .ref (ea (zE Z) 87)), (1, .int v1), (2, .int v2), (3, .int v3), (4, .int v4), (5, .int x10)]) [2, 3, 4, 5, 6, 0] rfl ?_
        exact hk46 v1 v2 v3 v4 x10 I4 J5 h
      · have h := h.2 c9
        refine g_iload X dX11_straw_96 6 rfl ?_
        exact g_iret X R dX11_straw_98 h
theorem w_X11_straw_L46 {Z : RT}  (X : Cx Z cX11_straw 7 RX11 wsX11_straw rmX11_straw (some .int)) {Q : Int32 → MI → MJ → Prop} (R : RI Z Q)    : ∀ (n : Nat) (v1 : Int32) (v2 : Int32) (v3 : Int32) (v4 : Int32) (v5 : Int32) (I : MI) (J : MJ) (h : vc_X11_straw_L46  Q  n v1 v2 v3 v4 v5 I J), GW Z 7 I J 46 [(0, .ref (ea (zE Z) 87)), (1, .int v1), (2, .int v2), (3, .int v3), (4, .int v4), (5, .int v5)] [] := by
  intro n
  induction n with
  | zero => intro v1 v2 v3 v4 v5 I J h; exact h.elim
  | succ n ih => intro v1 v2 v3 v4 v5 I J h; exact w_X11_straw_L46s X R   ih v1 v2 v3 v4 v5 I J h
def vc_X11_straw (p1 : Int32) (p2 : Int32) (p3 : Int32) (p4 : Int32) (I : MI) (J : MJ) (Q : Int32 → MI → MJ → Prop) : Prop := vc_X11_isCart p1 I J (fun (r13 : Int32) (I11 : MI) (J12 : MJ) => ((r13 = 0 → Q (-2) I11 J12) ∧ (¬ r13 = 0 → vc_X11_isPlace p2 I11 J12 (fun (r17 : Int32) (I15 : MI) (J16 : MJ) => ((¬ r17 = 0 → vc_X11_in p3 0 99 I15 J16 (fun (r21 : Int32) (I19 : MI) (J20 : MJ) => ((r21 = 0 → Q (-3) I19 J20) ∧ (¬ r21 = 0 → vc_X11_in p4 0 48 I19 J20 (fun (r25 : Int32) (I23 : MI) (J24 : MJ) => ((¬ r25 = 0 → (∃ n, vc_X11_straw_L46  Q  n p1 p2 p3 p4 0 I23 J24)) ∧ (r25 = 0 → Q (-3) I23 J24))))))) ∧ (r17 = 0 → Q (-2) I15 J16))))))
set_option maxRecDepth 100000 in
set_option maxHeartbeats 4000000 in
theorem c_X11_straw (l : Launch) (E : ET)  (p1 : Int32) (p2 : Int32) (p3 : Int32) (p4 : Int32) : CI l yX11_straw wsX11_straw rmX11_straw E [.ref (ea E 87), .int p1, .int p2, .int p3, .int p4] (vc_X11_straw p1 p2 p3 p4) := by
  refine CI.of (cc := cX11_straw) (maxL := 7) (own := RX11) (by decide) rfl rfl (Nat.le_of_ble_eq_true rfl) ?_
  intro Z I J Q hE hl X R h
  subst hE
  subst hl
  show GW Z 7 I J 0 [(0, .ref (ea (zE Z) 87)), (1, .int p1), (2, .int p2), (3, .int p3), (4, .int p4)] []
  refine g_aload_n X dX11_straw_0 rfl 0 rfl ?_
  refine g_iload_n X dX11_straw_1 rfl 1 rfl ?_
  refine g_callVI X (As := [.int p1]) (rest := []) (T := TX11) (N := 39) (c_X11_isCart (zl Z) (zE Z) p1) gX11_straw_X11_isCart yo_X11_isCart rfl ⟨Nat.le_of_ble_eq_true rfl, Nat.le_of_ble_eq_true rfl⟩ (Nat.le_of_ble_eq_true rfl) rfl rfl rfl dX11_straw_2 h (fun r13 I11 J12 h => ?_)
  refine g_if_eq X (tgt := 16) dX11_straw_5 (by decide) (fun c14 => ?_) (fun c14 => ?_)
  · have h := h.1 c14
    refine g_bipush X (v := (-2)) dX11_straw_16 (by decide) ?_
    exact g_iret X R dX11_straw_18 h
  · have h := h.2 c14
    refine g_aload_n X dX11_straw_8 rfl 0 rfl ?_
    refine g_iload_n X dX11_straw_9 rfl 2 rfl ?_
    refine g_callVI X (As := [.int p2]) (rest := []) (T := TX11) (N := 39) (c_X11_isPlace (zl Z) (zE Z) p2) gX11_straw_X11_isPlace yo_X11_isPlace rfl ⟨Nat.le_of_ble_eq_true rfl, Nat.le_of_ble_eq_true rfl⟩ (Nat.le_of_ble_eq_true rfl) rfl rfl rfl dX11_straw_10 h (fun r17 I15 J16 h => ?_)
    refine g_if_ne X (tgt := 19) dX11_straw_13 (by decide) (fun c18 => ?_) (fun c18 => ?_)
    · have h := h.1 c18
      refine g_iload_n X dX11_straw_19 rfl 3 rfl ?_
      refine g_iconst X (v := 0) dX11_straw_20 (by decide) ?_
      refine g_bipush X (v := 99) dX11_straw_21 (by decide) ?_
      refine g_callSI X (As := [.int p3, .int 0, .int 99]) (rest := []) (c_X11_in (zl Z) (zE Z) p3 0 99) gX11_straw_X11_in yo_X11_in.2 rfl ⟨Nat.le_of_ble_eq_true rfl, Nat.le_of_ble_eq_true rfl⟩ rfl dX11_straw_23 h (fun r21 I19 J20 h => ?_)
      refine g_if_eq X (tgt := 40) dX11_straw_26 (by decide) (fun c22 => ?_) (fun c22 => ?_)
      · have h := h.1 c22
        refine g_bipush X (v := (-3)) dX11_straw_40 (by decide) ?_
        exact g_iret X R dX11_straw_42 h
      · have h := h.2 c22
        refine g_iload X dX11_straw_29 4 rfl ?_
        refine g_iconst X (v := 0) dX11_straw_31 (by decide) ?_
        refine g_bipush X (v := 48) dX11_straw_32 (by decide) ?_
        refine g_callSI X (As := [.int p4, .int 0, .int 48]) (rest := []) (c_X11_in (zl Z) (zE Z) p4 0 48) gX11_straw_X11_in yo_X11_in.2 rfl ⟨Nat.le_of_ble_eq_true rfl, Nat.le_of_ble_eq_true rfl⟩ rfl dX11_straw_34 h (fun r25 I23 J24 h => ?_)
        refine g_if_ne X (tgt := 43) dX11_straw_37 (by decide) (fun c26 => ?_) (fun c26 => ?_)
        · have h := h.1 c26
          refine g_iconst X (v := 0) dX11_straw_43 (by decide) ?_
          refine g_istore X (lv' := [(5, .int 0), (0, .ref (ea (zE Z) 87)), (1, .int p1), (2, .int p2), (3, .int p3), (4, .int p4)]) dX11_straw_44 (by decide) rfl ?_
          refine GW.sub (lv' := [(0, .ref (ea (zE Z) 87)), (1, .int p1), (2, .int p2), (3, .int p3), (4, .int p4), (5, .int 0)]) [1, 2, 3, 4, 5, 0] rfl ?_
          obtain ⟨n, h⟩ := h
          exact w_X11_straw_L46 X R   n p1 p2 p3 p4 0 I23 J24 h
        · have h := h.2 c26
          refine g_bipush X (v := (-3)) dX11_straw_40 (by decide) ?_
          exact g_iret X R dX11_straw_42 h
    · have h := h.2 c18
      refine g_bipush X (v := (-2)) dX11_straw_16 (by decide) ?_
      exact g_iret X R dX11_straw_18 h

/-! X11_meet.meet(IIII)I -/
def rmX11_meet : Room := { frames := 5, cells := 0, slots := 0, locals := 130 }
theorem yo_X11_meet : yX11_meet.cls = RX11 ∧ yX11_meet.cls ≠ "java/lang/invoke/MethodHandle" ∧ yX11_meet.cls ≠ "java/lang/invoke/VarHandle" ∧ (parseMethodDescriptor yX11_meet.desc).map (fun d => d.parameters.length) = some 4 := by decide +kernel
theorem kX11_meet_44 : Cond.fieldLink RX11 44 "SnowCourseModel" (TX11 29).2.1 (TX11 29).2.2.1 ∈ wsX11_meet := by decide +kernel
theorem iX11_meet_X11 : ∀ w ∈ u_ws RX11 TX11 39, w ∈ wsX11_meet := by decide +kernel
theorem kX11_meet_48 : Cond.fieldLink RX11 48 "SnowCourseModel" (TX11 30).2.1 (TX11 30).2.2.1 ∈ wsX11_meet := by decide +kernel
theorem kX11_meet_51 : Cond.fieldLink RX11 51 "SnowCourseModel" (TX11 31).2.1 (TX11 31).2.2.1 ∈ wsX11_meet := by decide +kernel
theorem kX11_meet_54 : Cond.fieldLink RX11 54 "SnowCourseModel" (TX11 32).2.1 (TX11 32).2.2.1 ∈ wsX11_meet := by decide +kernel
theorem kX11_meet_57 : Cond.fieldLink RX11 57 "SnowCourseModel" (TX11 33).2.1 (TX11 33).2.2.1 ∈ wsX11_meet := by decide +kernel
theorem kX11_meet_60 : Cond.fieldLink RX11 60 "SnowCourseModel" (TX11 34).2.1 (TX11 34).2.2.1 ∈ wsX11_meet := by decide +kernel
def vc_X11_meet_L116s  (Q : Int32 → MI → MJ → Prop) (k95 : Int32 → Int32 → Int32 → Int32 → MI → MJ → Prop) (k106 : Int32 → Int32 → Int32 → Int32 → Int32 → MI → MJ → Prop) (k116 : Int32 → Int32 → Int32 → Int32 → Int32 → Int32 → MI → MJ → Prop) (v1 : Int32) (v3 : Int32) (v4 : Int32) (v5 : Int32) (v6 : Int32) (v7 : Int32) (I : MI) (J : MJ) : Prop := ((99 < (v6 + v7) → ∀ x2 : Int32, x2 = v6 + 1 → k106 v1 v3 v4 v5 x2 I J) ∧ (¬ 99 < (v6 + v7) → vc_X11_isIn 99 343 100 343 v5 v6 I J (fun (r5 : Int32) (I3 : MI) (J4 : MJ) => ((r5 = 0 → ∀ x7 : Int32, x7 = v6 + 1 → k106 v1 v3 v4 v5 x7 I3 J4) ∧ (¬ r5 = 0 → vc_X11_isIn 101 343 102 343 v5 v7 I3 J4 (fun (r10 : Int32) (I8 : MI) (J9 : MJ) => ((r10 = 0 → ∀ x12 : Int32, x12 = v7 + 1 → k116 v1 v3 v4 v5 v6 x12 I8 J9) ∧ (¬ r10 = 0 → vc_X11_lay 103 343 104 343 v5 (v6 + v7) I8 J9 (fun (I13 : MI) (J14 : MJ) => ∀ x15 : Int32, x15 = v7 + 1 → k116 v1 v3 v4 v5 v6 x15 I13 J14)))))))))
def vc_X11_meet_L116  (Q : Int32 → MI → MJ → Prop) (k95 : Int32 → Int32 → Int32 → Int32 → MI → MJ → Prop) (k106 : Int32 → Int32 → Int32 → Int32 → Int32 → MI → MJ → Prop) (n : Nat) : Int32 → Int32 → Int32 → Int32 → Int32 → Int32 → MI → MJ → Prop := Nat.rec (fun _ _ _ _ _ _ _ _ => False) (fun _ ih => vc_X11_meet_L116s  Q k95 k106 ih) n
set_option maxRecDepth 100000 in
set_option maxHeartbeats 4000000 in
theorem w_X11_meet_L116s {Z : RT}  (X : Cx Z cX11_meet 8 RX11 wsX11_meet rmX11_meet (some .int)) {Q : Int32 → MI → MJ → Prop} (R : RI Z Q)  {k95 : Int32 → Int32 → Int32 → Int32 → MI → MJ → Prop} {k106 : Int32 → Int32 → Int32 → Int32 → Int32 → MI → MJ → Prop} (hk95 : ∀ (v1 : Int32) (v3 : Int32) (v4 : Int32) (v5 : Int32) (I : MI) (J : MJ), k95 v1 v3 v4 v5 I J → GW Z 8 I J 95 [(0, .ref (ea (zE Z) 87)), (1, .int v1), (3, .int v3), (4, .int v4), (5, .int v5)] []) (hk106 : ∀ (v1 : Int32) (v3 : Int32) (v4 : Int32) (v5 : Int32) (v6 : Int32) (I : MI) (J : MJ), k106 v1 v3 v4 v5 v6 I J → GW Z 8 I J 106 [(0, .ref (ea (zE Z) 87)), (1, .int v1), (3, .int v3), (4, .int v4), (5, .int v5), (6, .int v6)] []) {k116 : Int32 → Int32 → Int32 → Int32 → Int32 → Int32 → MI → MJ → Prop} (hk116 : ∀ (v1 : Int32) (v3 : Int32) (v4 : Int32) (v5 : Int32) (v6 : Int32) (v7 : Int32) (I : MI) (J : MJ), k116 v1 v3 v4 v5 v6 v7 I J → GW Z 8 I J 116 [(0, .ref (ea (zE Z) 87)), (1, .int v1), (3, .int v3), (4, .int v4), (5, .int v5), (6, .int v6), (7, .int v7)] []) (v1 : Int32) (v3 : Int32) (v4 : Int32) (v5 : Int32) (v6 : Int32) (v7 : Int32) (I : MI) (J : MJ) (h : vc_X11_meet_L116s  Q k95 k106 k116 v1 v3 v4 v5 v6 v7 I J) : GW Z 8 I J 116 [(0, .ref (ea (zE Z) 87)), (1, .int v1), (3, .int v3), (4, .int v4), (5, .int v5), (6, .int v6), (7, .int v7)] [] := by
  refine g_iload X dX11_meet_116 5 rfl ?_
  refine g_iload X dX11_meet_118 6 rfl ?_
  refine g_iadd X dX11_meet_120 ?_
  refine g_bipush X (v := 99) dX11_meet_121 (by decide) ?_
  refine g_icmp_gt X (tgt := 186) dX11_meet_123 (by decide) (fun c1 => ?_) (fun c1 => ?_)
  · have h := h.1 c1
    obtain ⟨x2, ex2⟩ : ∃ y : Int32, y = v6 + 1 := ⟨_, rfl⟩
    have h := h x2 ex2
    refine g_iinc X (q := 5) (v := x2) (lv' := [(6, .int x2), (0, .ref (ea (zE Z) 87)), (1, .int v1), (3, .int v3), (4, .int v4), (5, .int v5), (7, .int v7)]) dX11_meet_186 rfl (by rw [ex2]; rfl) (by decide) rfl ?_
    refine g_goto X (tgt := 106) dX11_meet_189 (by decide) ?_
    refine GW.sub (lv' := [(0, .ref (ea (zE Z) 87)), (1, .int v1), (3, .int v3), (4, .int v4), (5, .int v5), (6, .int x2)]) [1, 2, 3, 4, 5, 0] rfl ?_
    exact hk106 v1 v3 v4 v5 x2 I J h
  · have h := h.2 c1
    refine g_aload_n X dX11_meet_126 rfl 0 rfl ?_
    refine g_getr X (C := RX11) (T := TX11) (N := 39) (ci := 9) (k := 29) iX11_meet_X11 rfl kX11_meet_44 (Nat.le_of_ble_eq_true rfl) rfl (by decide) rfl rfl dX11_meet_127 ?_
    refine g_aload_n X dX11_meet_130 rfl 0 rfl ?_
    refine g_getr X (C := RX11) (T := TX11) (N := 39) (ci := 9) (k := 30) iX11_meet_X11 rfl kX11_meet_48 (Nat.le_of_ble_eq_true rfl) rfl (by decide) rfl rfl dX11_meet_131 ?_
    refine g_iload X dX11_meet_134 4 rfl ?_
    refine g_iload X dX11_meet_136 5 rfl ?_
    refine g_callSI X (As := [.ref (ea (zE Z) 99), .ref (ea (zE Z) 100), .int v5, .int v6]) (rest := []) (c_X11_isIn (zl Z) (zE Z) (Nat.le_of_ble_eq_true rfl) rfl (Nat.le_of_ble_eq_true rfl) rfl v5 v6) gX11_meet_X11_isIn yo_X11_isIn.2 rfl ⟨Nat.le_of_ble_eq_true rfl, Nat.le_of_ble_eq_true rfl⟩ rfl dX11_meet_138 h (fun r5 I3 J4 h => ?_)
    refine g_if_eq X (tgt := 186) dX11_meet_141 (by decide) (fun c6 => ?_) (fun c6 => ?_)
    · have h := h.1 c6
      obtain ⟨x7, ex7⟩ : ∃ y : Int32, y = v6 + 1 := ⟨_, rfl⟩
      have h := h x7 ex7
      refine g_iinc X (q := 5) (v := x7) (lv' := [(6, .int x7), (0, .ref (ea (zE Z) 87)), (1, .int v1), (3, .int v3), (4, .int v4), (5, .int v5), (7, .int v7)]) dX11_meet_186 rfl (by rw [ex7]; rfl) (by decide) rfl ?_
      refine g_goto X (tgt := 106) dX11_meet_189 (by decide) ?_
      refine GW.sub (lv' := [(0, .ref (ea (zE Z) 87)), (1, .int v1), (3, .int v3), (4, .int v4), (5, .int v5), (6, .int x7)]) [1, 2, 3, 4, 5, 0] rfl ?_
      exact hk106 v1 v3 v4 v5 x7 I3 J4 h
    · have h := h.2 c6
      refine g_aload_n X dX11_meet_144 rfl 0 rfl ?_
      refine g_getr X (C := RX11) (T := TX11) (N := 39) (ci := 9) (k := 31) iX11_meet_X11 rfl kX11_meet_51 (Nat.le_of_ble_eq_true rfl) rfl (by decide) rfl rfl dX11_meet_145 ?_
      refine g_aload_n X dX11_meet_148 rfl 0 rfl ?_
      refine g_getr X (C := RX11) (T := TX11) (N := 39) (ci := 9) (k := 32) iX11_meet_X11 rfl kX11_meet_54 (Nat.le_of_ble_eq_true rfl) rfl (by decide) rfl rfl dX11_meet_149 ?_
      refine g_iload X dX11_meet_152 4 rfl ?_
      refine g_iload X dX11_meet_154 6 rfl ?_
      refine g_callSI X (As := [.ref (ea (zE Z) 101), .ref (ea (zE Z) 102), .int v5, .int v7]) (rest := []) (c_X11_isIn (zl Z) (zE Z) (Nat.le_of_ble_eq_true rfl) rfl (Nat.le_of_ble_eq_true rfl) rfl v5 v7) gX11_meet_X11_isIn yo_X11_isIn.2 rfl ⟨Nat.le_of_ble_eq_true rfl, Nat.le_of_ble_eq_true rfl⟩ rfl dX11_meet_156 h (fun r10 I8 J9 h => ?_)
      refine g_if_eq X (tgt := 180) dX11_meet_159 (by decide) (fun c11 => ?_) (fun c11 => ?_)
      · have h := h.1 c11
        obtain ⟨x12, ex12⟩ : ∃ y : Int32, y = v7 + 1 := ⟨_, rfl⟩
        have h := h x12 ex12
        refine g_iinc X (q := 6) (v := x12) (lv' := [(7, .int x12), (0, .ref (ea (zE Z) 87)), (1, .int v1), (3, .int v3), (4, .int v4), (5, .int v5), (6, .int v6)]) dX11_meet_180 rfl (by rw [ex12]; rfl) (by decide) rfl ?_
        refine g_goto X (tgt := 116) dX11_meet_183 (by decide) ?_
        refine GW.sub (lv' := [(0, .ref (ea (zE Z) 87)), (1, .int v1), (3, .int v3), (4, .int v4), (5, .int v5), (6, .int v6), (7, .int x12)]) [1, 2, 3, 4, 5, 6, 0] rfl ?_
        exact hk116 v1 v3 v4 v5 v6 x12 I8 J9 h
      · have h := h.2 c11
        refine g_aload_n X dX11_meet_162 rfl 0 rfl ?_
        refine g_getr X (C := RX11) (T := TX11) (N := 39) (ci := 9) (k := 33) iX11_meet_X11 rfl kX11_meet_57 (Nat.le_of_ble_eq_true rfl) rfl (by decide) rfl rfl dX11_meet_163 ?_
        refine g_aload_n X dX11_meet_166 rfl 0 rfl ?_
        refine g_getr X (C := RX11) (T := TX11) (N := 39) (ci := 9) (k := 34) iX11_meet_X11 rfl kX11_meet_60 (Nat.le_of_ble_eq_true rfl) rfl (by decide) rfl rfl dX11_meet_167 ?_
        refine g_iload X dX11_meet_170 4 rfl ?_
        refine g_iload X dX11_meet_172 5 rfl ?_
        refine g_iload X dX11_meet_174 6 rfl ?_
        refine g_iadd X dX11_meet_176 ?_
        refine g_callSV X (As := [.ref (ea (zE Z) 103), .ref (ea (zE Z) 104), .int v5, .int (v6 + v7)]) (rest := []) (c_X11_lay (zl Z) (zE Z) (Nat.le_of_ble_eq_true rfl) rfl (Nat.le_of_ble_eq_true rfl) rfl v5 (v6 + v7)) gX11_meet_X11_lay yo_X11_lay.2 rfl ⟨Nat.le_of_ble_eq_true rfl, Nat.le_of_ble_eq_true rfl⟩ rfl dX11_meet_177 h (fun  I13 J14 h => ?_)
        obtain ⟨x15, ex15⟩ : ∃ y : Int32, y = v7 + 1 := ⟨_, rfl⟩
        have h := h x15 ex15
        refine g_iinc X (q := 6) (v := x15) (lv' := [(7, .int x15), (0, .ref (ea (zE Z) 87)), (1, .int v1), (3, .int v3), (4, .int v4), (5, .int v5), (6, .int v6)]) dX11_meet_180 rfl (by rw [ex15]; rfl) (by decide) rfl ?_
        refine g_goto X (tgt := 116) dX11_meet_183 (by decide) ?_
        refine GW.sub (lv' := [(0, .ref (ea (zE Z) 87)), (1, .int v1), (3, .int v3), (4, .int v4), (5, .int v5), (6, .int v6), (7, .int x15)]) [1, 2, 3, 4, 5, 6, 0] rfl ?_
        exact hk116 v1 v3 v4 v5 v6 x15 I13 J14 h
theorem w_X11_meet_L116 {Z : RT}  (X : Cx Z cX11_meet 8 RX11 wsX11_meet rmX11_meet (some .int)) {Q : Int32 → MI → MJ → Prop} (R : RI Z Q)  {k95 : Int32 → Int32 → Int32 → Int32 → MI → MJ → Prop} {k106 : Int32 → Int32 → Int32 → Int32 → Int32 → MI → MJ → Prop} (hk95 : ∀ (v1 : Int32) (v3 : Int32) (v4 : Int32) (v5 : Int32) (I : MI) (J : MJ), k95 v1 v3 v4 v5 I J → GW Z 8 I J 95 [(0, .ref (ea (zE Z) 87)), (1, .int v1), (3, .int v3), (4, .int v4), (5, .int v5)] []) (hk106 : ∀ (v1 : Int32) (v3 : Int32) (v4 : Int32) (v5 : Int32) (v6 : Int32) (I : MI) (J : MJ), k106 v1 v3 v4 v5 v6 I J → GW Z 8 I J 106 [(0, .ref (ea (zE Z) 87)), (1, .int v1), (3, .int v3), (4, .int v4), (5, .int v5), (6, .int v6)] []) : ∀ (n : Nat) (v1 : Int32) (v3 : Int32) (v4 : Int32) (v5 : Int32) (v6 : Int32) (v7 : Int32) (I : MI) (J : MJ) (h : vc_X11_meet_L116  Q k95 k106 n v1 v3 v4 v5 v6 v7 I J), GW Z 8 I J 116 [(0, .ref (ea (zE Z) 87)), (1, .int v1), (3, .int v3), (4, .int v4), (5, .int v5), (6, .int v6), (7, .int v7)] [] := by
  intro n
  induction n with
  | zero => intro v1 v3 v4 v5 v6 v7 I J h; exact h.elim
  | succ n ih => intro v1 v3 v4 v5 v6 v7 I J h; exact w_X11_meet_L116s X R  hk95 hk106 ih v1 v3 v4 v5 v6 v7 I J h
def vc_X11_meet_L106s  (Q : Int32 → MI → MJ → Prop) (k95 : Int32 → Int32 → Int32 → Int32 → MI → MJ → Prop) (k106 : Int32 → Int32 → Int32 → Int32 → Int32 → MI → MJ → Prop) (v1 : Int32) (v3 : Int32) (v4 : Int32) (v5 : Int32) (v6 : Int32) (I : MI) (J : MJ) : Prop := ((99 < v6 → ∀ x17 : Int32, x17 = v5 + 1 → k95 v1 v3 v4 x17 I J) ∧ (¬ 99 < v6 → (∃ n, vc_X11_meet_L116  Q k95 k106 n v1 v3 v4 v5 v6 0 I J)))
def vc_X11_meet_L106  (Q : Int32 → MI → MJ → Prop) (k95 : Int32 → Int32 → Int32 → Int32 → MI → MJ → Prop) (n : Nat) : Int32 → Int32 → Int32 → Int32 → Int32 → MI → MJ → Prop := Nat.rec (fun _ _ _ _ _ _ _ => False) (fun _ ih => vc_X11_meet_L106s  Q k95 ih) n
set_option maxRecDepth 100000 in
set_option maxHeartbeats 4000000 in
theorem w_X11_meet_L106s {Z : RT}  (X : Cx Z cX11_meet 8 RX11 wsX11_meet rmX11_meet (some .int)) {Q : Int32 → MI → MJ → Prop} (R : RI Z Q)  {k95 : Int32 → Int32 → Int32 → Int32 → MI → MJ → Prop} (hk95 : ∀ (v1 : Int32) (v3 : Int32) (v4 : Int32) (v5 : Int32) (I : MI) (J : MJ), k95 v1 v3 v4 v5 I J → GW Z 8 I J 95 [(0, .ref (ea (zE Z) 87)), (1, .int v1), (3, .int v3), (4, .int v4), (5, .int v5)] []) {k106 : Int32 → Int32 → Int32 → Int32 → Int32 → MI → MJ → Prop} (hk106 : ∀ (v1 : Int32) (v3 : Int32) (v4 : Int32) (v5 : Int32) (v6 : Int32) (I : MI) (J : MJ), k106 v1 v3 v4 v5 v6 I J → GW Z 8 I J 106 [(0, .ref (ea (zE Z) 87)), (1, .int v1), (3, .int v3), (4, .int v4), (5, .int v5), (6, .int v6)] []) (v1 : Int32) (v3 : Int32) (v4 : Int32) (v5 : Int32) (v6 : Int32) (I : MI) (J : MJ) (h : vc_X11_meet_L106s  Q k95 k106 v1 v3 v4 v5 v6 I J) : GW Z 8 I J 106 [(0, .ref (ea (zE Z) 87)), (1, .int v1), (3, .int v3), (4, .int v4), (5, .int v5), (6, .int v6)] [] := by
  refine g_iload X dX11_meet_106 5 rfl ?_
  refine g_bipush X (v := 99) dX11_meet_108 (by decide) ?_
  refine g_icmp_gt X (tgt := 192) dX11_meet_110 (by decide) (fun c16 => ?_) (fun c16 => ?_)
  · have h := h.1 c16
    obtain ⟨x17, ex17⟩ : ∃ y : Int32, y = v5 + 1 := ⟨_, rfl⟩
    have h := h x17 ex17
    refine g_iinc X (q := 4) (v := x17) (lv' := [(5, .int x17), (0, .ref (ea (zE Z) 87)), (1, .int v1), (3, .int v3), (4, .int v4), (6, .int v6)]) dX11_meet_192 rfl (by rw [ex17]; rfl) (by decide) rfl ?_
    refine g_goto X (tgt := 95) dX11_meet_195 (by decide) ?_
    refine GW.sub (lv' := [(0, .ref (ea (zE Z) 87)), (1, .int v1), (3, .int v3), (4, .int v4), (5, .int x17)]) [1, 2, 3, 4, 0] rfl ?_
    exact hk95 v1 v3 v4 x17 I J h
  · have h := h.2 c16
    refine g_iconst X (v := 0) dX11_meet_113 (by decide) ?_
    refine g_istore X (lv' := [(7, .int 0), (0, .ref (ea (zE Z) 87)), (1, .int v1), (3, .int v3), (4, .int v4), (5, .int v5), (6, .int v6)]) dX11_meet_114 (by decide) rfl ?_
    refine GW.sub (lv' := [(0, .ref (ea (zE Z) 87)), (1, .int v1), (3, .int v3), (4, .int v4), (5, .int v5), (6, .int v6), (7, .int 0)]) [1, 2, 3, 4, 5, 6, 0] rfl ?_
    obtain ⟨n, h⟩ := h
    exact w_X11_meet_L116 X R  hk95 hk106 n v1 v3 v4 v5 v6 0 I J h
theorem w_X11_meet_L106 {Z : RT}  (X : Cx Z cX11_meet 8 RX11 wsX11_meet rmX11_meet (some .int)) {Q : Int32 → MI → MJ → Prop} (R : RI Z Q)  {k95 : Int32 → Int32 → Int32 → Int32 → MI → MJ → Prop} (hk95 : ∀ (v1 : Int32) (v3 : Int32) (v4 : Int32) (v5 : Int32) (I : MI) (J : MJ), k95 v1 v3 v4 v5 I J → GW Z 8 I J 95 [(0, .ref (ea (zE Z) 87)), (1, .int v1), (3, .int v3), (4, .int v4), (5, .int v5)] []) : ∀ (n : Nat) (v1 : Int32) (v3 : Int32) (v4 : Int32) (v5 : Int32) (v6 : Int32) (I : MI) (J : MJ) (h : vc_X11_meet_L106  Q k95 n v1 v3 v4 v5 v6 I J), GW Z 8 I J 106 [(0, .ref (ea (zE Z) 87)), (1, .int v1), (3, .int v3), (4, .int v4), (5, .int v5), (6, .int v6)] [] := by
  intro n
  induction n with
  | zero => intro v1 v3 v4 v5 v6 I J h; exact h.elim
  | succ n ih => intro v1 v3 v4 v5 v6 I J h; exact w_X11_meet_L106s X R  hk95 ih v1 v3 v4 v5 v6 I J h
def vc_X11_meet_L95s  (Q : Int32 → MI → MJ → Prop)  (k95 : Int32 → Int32 → Int32 → Int32 → MI → MJ → Prop) (v1 : Int32) (v3 : Int32) (v4 : Int32) (v5 : Int32) (I : MI) (J : MJ) : Prop := ((343 ≤ v5 → vc_X11_kindOf v1 I J (fun (r21 : Int32) (I19 : MI) (J20 : MJ) => vc_X11_strawOf v1 I19 J20 (fun (r24 : Int32) (I22 : MI) (J23 : MJ) => vc_X11_spread 103 343 104 343 r21 r24 I22 J23 (fun (I25 : MI) (J26 : MJ) => vc_X11_mostIn 103 343 104 343 v3 48 I25 J26 (fun (r29 : Int32) (I27 : MI) (J28 : MJ) => ((r29 = (-1) → Q r29 I27 J28) ∧ (¬ r29 = (-1) → ((¬ v4 = 0 → vc_X11_soonestIn 103 343 104 343 v3 r29 I27 J28 (fun (r34 : Int32) (I32 : MI) (J33 : MJ) => Q r34 I32 J33)) ∧ (v4 = 0 → Q r29 I27 J28))))))))) ∧ (¬ 343 ≤ v5 → (∃ n, vc_X11_meet_L106  Q k95 n v1 v3 v4 v5 0 I J)))
def vc_X11_meet_L95  (Q : Int32 → MI → MJ → Prop)  (n : Nat) : Int32 → Int32 → Int32 → Int32 → MI → MJ → Prop := Nat.rec (fun _ _ _ _ _ _ => False) (fun _ ih => vc_X11_meet_L95s  Q  ih) n
set_option maxRecDepth 100000 in
set_option maxHeartbeats 4000000 in
theorem w_X11_meet_L95s {Z : RT}  (X : Cx Z cX11_meet 8 RX11 wsX11_meet rmX11_meet (some .int)) {Q : Int32 → MI → MJ → Prop} (R : RI Z Q)    {k95 : Int32 → Int32 → Int32 → Int32 → MI → MJ → Prop} (hk95 : ∀ (v1 : Int32) (v3 : Int32) (v4 : Int32) (v5 : Int32) (I : MI) (J : MJ), k95 v1 v3 v4 v5 I J → GW Z 8 I J 95 [(0, .ref (ea (zE Z) 87)), (1, .int v1), (3, .int v3), (4, .int v4), (5, .int v5)] []) (v1 : Int32) (v3 : Int32) (v4 : Int32) (v5 : Int32) (I : MI) (J : MJ) (h : vc_X11_meet_L95s  Q  k95 v1 v3 v4 v5 I J) : GW Z 8 I J 95 [(0, .ref (ea (zE Z) 87)), (1, .int v1), (3, .int v3), (4, .int v4), (5, .int v5)] [] := by
  refine g_iload X dX11_meet_95 4 rfl ?_
  refine g_sipush X (v := 343) dX11_meet_97 (by decide) ?_
  refine g_icmp_ge X (tgt := 198) dX11_meet_100 (by decide) (fun c18 => ?_) (fun c18 => ?_)
  · have h := h.1 c18
    refine g_aload_n X dX11_meet_198 rfl 0 rfl ?_
    refine g_aload_n X dX11_meet_199 rfl 0 rfl ?_
    refine g_getr X (C := RX11) (T := TX11) (N := 39) (ci := 9) (k := 33) iX11_meet_X11 rfl kX11_meet_57 (Nat.le_of_ble_eq_true rfl) rfl (by decide) rfl rfl dX11_meet_200 ?_
    refine g_aload_n X dX11_meet_203 rfl 0 rfl ?_
    refine g_getr X (C := RX11) (T := TX11) (N := 39) (ci := 9) (k := 34) iX11_meet_X11 rfl kX11_meet_60 (Nat.le_of_ble_eq_true rfl) rfl (by decide) rfl rfl dX11_meet_204 ?_
    refine g_aload_n X dX11_meet_207 rfl 0 rfl ?_
    refine g_iload_n X dX11_meet_208 rfl 1 rfl ?_
    refine g_callVI X (As := [.int v1]) (rest := [.ref (ea (zE Z) 104), .ref (ea (zE Z) 103), .ref (ea (zE Z) 87)]) (T := TX11) (N := 39) (c_X11_kindOf (zl Z) (zE Z) v1) gX11_meet_X11_kindOf yo_X11_kindOf rfl ⟨Nat.le_of_ble_eq_true rfl, Nat.le_of_ble_eq_true rfl⟩ (Nat.le_of_ble_eq_true rfl) rfl rfl rfl dX11_meet_209 h (fun r21 I19 J20 h => ?_)
    refine g_aload_n X dX11_meet_212 rfl 0 rfl ?_
    refine g_iload_n X dX11_meet_213 rfl 1 rfl ?_
    refine g_callVI X (As := [.int v1]) (rest := [.int r21, .ref (ea (zE Z) 104), .ref (ea (zE Z) 103), .ref (ea (zE Z) 87)]) (T := TX11) (N := 39) (c_X11_strawOf (zl Z) (zE Z) v1) gX11_meet_X11_strawOf yo_X11_strawOf rfl ⟨Nat.le_of_ble_eq_true rfl, Nat.le_of_ble_eq_true rfl⟩ (Nat.le_of_ble_eq_true rfl) rfl rfl rfl dX11_meet_214 h (fun r24 I22 J23 h => ?_)
    refine g_callVV X (As := [.ref (ea (zE Z) 103), .ref (ea (zE Z) 104), .int r21, .int r24]) (rest := []) (T := TX11) (N := 39) (c_X11_spread (zl Z) (zE Z) (Nat.le_of_ble_eq_true rfl) rfl (Nat.le_of_ble_eq_true rfl) rfl r21 r24) gX11_meet_X11_spread yo_X11_spread rfl ⟨Nat.le_of_ble_eq_true rfl, Nat.le_of_ble_eq_true rfl⟩ (Nat.le_of_ble_eq_true rfl) rfl rfl rfl dX11_meet_217 h (fun  I25 J26 h => ?_)
    refine g_aload_n X dX11_meet_220 rfl 0 rfl ?_
    refine g_aload_n X dX11_meet_221 rfl 0 rfl ?_
    refine g_getr X (C := RX11) (T := TX11) (N := 39) (ci := 9) (k := 33) iX11_meet_X11 rfl kX11_meet_57 (Nat.le_of_ble_eq_true rfl) rfl (by decide) rfl rfl dX11_meet_222 ?_
    refine g_aload_n X dX11_meet_225 rfl 0 rfl ?_
    refine g_getr X (C := RX11) (T := TX11) (N := 39) (ci := 9) (k := 34) iX11_meet_X11 rfl kX11_meet_60 (Nat.le_of_ble_eq_true rfl) rfl (by decide) rfl rfl dX11_meet_226 ?_
    refine g_iload_n X dX11_meet_229 rfl 2 rfl ?_
    refine g_bipush X (v := 48) dX11_meet_230 (by decide) ?_
    refine g_callVI X (As := [.ref (ea (zE Z) 103), .ref (ea (zE Z) 104), .int v3, .int 48]) (rest := []) (T := TX11) (N := 39) (c_X11_mostIn (zl Z) (zE Z) (Nat.le_of_ble_eq_true rfl) rfl (Nat.le_of_ble_eq_true rfl) rfl v3 48) gX11_meet_X11_mostIn yo_X11_mostIn rfl ⟨Nat.le_of_ble_eq_true rfl, Nat.le_of_ble_eq_true rfl⟩ (Nat.le_of_ble_eq_true rfl) rfl rfl rfl dX11_meet_232 h (fun r29 I27 J28 h => ?_)
    refine g_istore X (lv' := [(5, .int r29), (0, .ref (ea (zE Z) 87)), (1, .int v1), (3, .int v3), (4, .int v4)]) dX11_meet_235 (by decide) rfl ?_
    refine g_iload X dX11_meet_237 0 rfl ?_
    refine g_iconst X (v := (-1)) dX11_meet_239 (by decide) ?_
    refine g_icmp_eq X (tgt := 248) dX11_meet_240 (by decide) (fun c30 => ?_) (fun c30 => ?_)
    · have h := h.1 c30
      refine g_iload X dX11_meet_248 0 rfl ?_
      refine g_goto X (tgt := 268) dX11_meet_250 (by decide) ?_
      exact g_iret X R dX11_meet_268 h
    · have h := h.2 c30
      refine g_iload X dX11_meet_243 4 rfl ?_
      refine g_if_ne X (tgt := 253) dX11_meet_245 (by decide) (fun c31 => ?_) (fun c31 => ?_)
      · have h := h.1 c31
        refine g_aload_n X dX11_meet_253 rfl 1 rfl ?_
        refine g_aload_n X dX11_meet_254 rfl 1 rfl ?_
        refine g_getr X (C := RX11) (T := TX11) (N := 39) (ci := 9) (k := 33) iX11_meet_X11 rfl kX11_meet_57 (Nat.le_of_ble_eq_true rfl) rfl (by decide) rfl rfl dX11_meet_255 ?_
        refine g_aload_n X dX11_meet_258 rfl 1 rfl ?_
        refine g_getr X (C := RX11) (T := TX11) (N := 39) (ci := 9) (k := 34) iX11_meet_X11 rfl kX11_meet_60 (Nat.le_of_ble_eq_true rfl) rfl (by decide) rfl rfl dX11_meet_259 ?_
        refine g_iload_n X dX11_meet_262 rfl 3 rfl ?_
        refine g_iload X dX11_meet_263 0 rfl ?_
        refine g_callVI X (As := [.ref (ea (zE Z) 103), .ref (ea (zE Z) 104), .int v3, .int r29]) (rest := []) (T := TX11) (N := 39) (c_X11_soonestIn (zl Z) (zE Z) (Nat.le_of_ble_eq_true rfl) rfl (Nat.le_of_ble_eq_true rfl) rfl v3 r29) gX11_meet_X11_soonestIn yo_X11_soonestIn rfl ⟨Nat.le_of_ble_eq_true rfl, Nat.le_of_ble_eq_true rfl⟩ (Nat.le_of_ble_eq_true rfl) rfl rfl rfl dX11_meet_265 h (fun r34 I32 J33 h => ?_)
        exact g_iret X R dX11_meet_268 h
      · have h := h.2 c31
        refine g_iload X dX11_meet_248 0 rfl ?_
        refine g_goto X (tgt := 268) dX11_meet_250 (by decide) ?_
        exact g_iret X R dX11_meet_268 h
  · have h := h.2 c18
    refine g_iconst X (v := 0) dX11_meet_103 (by decide) ?_
    refine g_istore X (lv' := [(6, .int 0), (0, .ref (ea (zE Z) 87)), (1, .int v1), (3, .int v3), (4, .int v4), (5, .int v5)]) dX11_meet_104 (by decide) rfl ?_
    refine GW.sub (lv' := [(0, .ref (ea (zE Z) 87)), (1, .int v1), (3, .int v3), (4, .int v4), (5, .int v5), (6, .int 0)]) [1, 2, 3, 4, 5, 0] rfl ?_
    obtain ⟨n, h⟩ := h
    exact w_X11_meet_L106 X R  hk95 n v1 v3 v4 v5 0 I J h
theorem w_X11_meet_L95 {Z : RT}  (X : Cx Z cX11_meet 8 RX11 wsX11_meet rmX11_meet (some .int)) {Q : Int32 → MI → MJ → Prop} (R : RI Z Q)    : ∀ (n : Nat) (v1 : Int32) (v3 : Int32) (v4 : Int32) (v5 : Int32) (I : MI) (J : MJ) (h : vc_X11_meet_L95  Q  n v1 v3 v4 v5 I J), GW Z 8 I J 95 [(0, .ref (ea (zE Z) 87)), (1, .int v1), (3, .int v3), (4, .int v4), (5, .int v5)] [] := by
  intro n
  induction n with
  | zero => intro v1 v3 v4 v5 I J h; exact h.elim
  | succ n ih => intro v1 v3 v4 v5 I J h; exact w_X11_meet_L95s X R   ih v1 v3 v4 v5 I J h
def vc_X11_meet (p1 : Int32) (p2 : Int32) (p3 : Int32) (p4 : Int32) (I : MI) (J : MJ) (Q : Int32 → MI → MJ → Prop) : Prop := vc_X11_isCart p1 I J (fun (r37 : Int32) (I35 : MI) (J36 : MJ) => ((r37 = 0 → Q (-2) I35 J36) ∧ (¬ r37 = 0 → vc_X11_isCart p2 I35 J36 (fun (r41 : Int32) (I39 : MI) (J40 : MJ) => ((r41 = 0 → Q (-2) I39 J40) ∧ (¬ r41 = 0 → ((p1 = p2 → Q (-2) I39 J40) ∧ (¬ p1 = p2 → vc_X11_isPlace p3 I39 J40 (fun (r46 : Int32) (I44 : MI) (J45 : MJ) => ((¬ r46 = 0 → vc_X11_in p4 0 1 I44 J45 (fun (r50 : Int32) (I48 : MI) (J49 : MJ) => ((¬ r50 = 0 → vc_X11_strawOf p1 I48 J49 (fun (r54 : Int32) (I52 : MI) (J53 : MJ) => vc_X11_layFrom 99 343 100 343 p1 r54 I52 J53 (fun (I55 : MI) (J56 : MJ) => vc_X11_strawOf p2 I55 J56 (fun (r59 : Int32) (I57 : MI) (J58 : MJ) => vc_X11_layFrom 101 343 102 343 p2 r59 I57 J58 (fun (I60 : MI) (J61 : MJ) => vc_X11_clear 103 343 104 343 I60 J61 (fun (I62 : MI) (J63 : MJ) => (∃ n, vc_X11_meet_L95  Q  n p1 p3 p4 0 I62 J63))))))) ∧ (r50 = 0 → Q (-3) I48 J49)))) ∧ (r46 = 0 → Q (-2) I44 J45)))))))))))
set_option maxRecDepth 100000 in
set_option maxHeartbeats 4000000 in
theorem c_X11_meet (l : Launch) (E : ET)  (p1 : Int32) (p2 : Int32) (p3 : Int32) (p4 : Int32) : CI l yX11_meet wsX11_meet rmX11_meet E [.ref (ea E 87), .int p1, .int p2, .int p3, .int p4] (vc_X11_meet p1 p2 p3 p4) := by
  refine CI.of (cc := cX11_meet) (maxL := 8) (own := RX11) (by decide) rfl rfl (Nat.le_of_ble_eq_true rfl) ?_
  intro Z I J Q hE hl X R h
  subst hE
  subst hl
  show GW Z 8 I J 0 [(0, .ref (ea (zE Z) 87)), (1, .int p1), (2, .int p2), (3, .int p3), (4, .int p4)] []
  refine g_aload_n X dX11_meet_0 rfl 0 rfl ?_
  refine g_iload_n X dX11_meet_1 rfl 1 rfl ?_
  refine g_callVI X (As := [.int p1]) (rest := []) (T := TX11) (N := 39) (c_X11_isCart (zl Z) (zE Z) p1) gX11_meet_X11_isCart yo_X11_isCart rfl ⟨Nat.le_of_ble_eq_true rfl, Nat.le_of_ble_eq_true rfl⟩ (Nat.le_of_ble_eq_true rfl) rfl rfl rfl dX11_meet_2 h (fun r37 I35 J36 h => ?_)
  refine g_if_eq X (tgt := 29) dX11_meet_5 (by decide) (fun c38 => ?_) (fun c38 => ?_)
  · have h := h.1 c38
    refine g_bipush X (v := (-2)) dX11_meet_29 (by decide) ?_
    exact g_iret X R dX11_meet_31 h
  · have h := h.2 c38
    refine g_aload_n X dX11_meet_8 rfl 0 rfl ?_
    refine g_iload_n X dX11_meet_9 rfl 2 rfl ?_
    refine g_callVI X (As := [.int p2]) (rest := []) (T := TX11) (N := 39) (c_X11_isCart (zl Z) (zE Z) p2) gX11_meet_X11_isCart yo_X11_isCart rfl ⟨Nat.le_of_ble_eq_true rfl, Nat.le_of_ble_eq_true rfl⟩ (Nat.le_of_ble_eq_true rfl) rfl rfl rfl dX11_meet_10 h (fun r41 I39 J40 h => ?_)
    refine g_if_eq X (tgt := 29) dX11_meet_13 (by decide) (fun c42 => ?_) (fun c42 => ?_)
    · have h := h.1 c42
      refine g_bipush X (v := (-2)) dX11_meet_29 (by decide) ?_
      exact g_iret X R dX11_meet_31 h
    · have h := h.2 c42
      refine g_iload_n X dX11_meet_16 rfl 1 rfl ?_
      refine g_iload_n X dX11_meet_17 rfl 2 rfl ?_
      refine g_icmp_eq X (tgt := 29) dX11_meet_18 (by decide) (fun c43 => ?_) (fun c43 => ?_)
      · have h := h.1 c43
        refine g_bipush X (v := (-2)) dX11_meet_29 (by decide) ?_
        exact g_iret X R dX11_meet_31 h
      · have h := h.2 c43
        refine g_aload_n X dX11_meet_21 rfl 0 rfl ?_
        refine g_iload_n X dX11_meet_22 rfl 3 rfl ?_
        refine g_callVI X (As := [.int p3]) (rest := []) (T := TX11) (N := 39) (c_X11_isPlace (zl Z) (zE Z) p3) gX11_meet_X11_isPlace yo_X11_isPlace rfl ⟨Nat.le_of_ble_eq_true rfl, Nat.le_of_ble_eq_true rfl⟩ (Nat.le_of_ble_eq_true rfl) rfl rfl rfl dX11_meet_23 h (fun r46 I44 J45 h => ?_)
        refine g_if_ne X (tgt := 32) dX11_meet_26 (by decide) (fun c47 => ?_) (fun c47 => ?_)
        · have h := h.1 c47
          refine g_iload X dX11_meet_32 4 rfl ?_
          refine g_iconst X (v := 0) dX11_meet_34 (by decide) ?_
          refine g_iconst X (v := 1) dX11_meet_35 (by decide) ?_
          refine g_callSI X (As := [.int p4, .int 0, .int 1]) (rest := []) (c_X11_in (zl Z) (zE Z) p4 0 1) gX11_meet_X11_in yo_X11_in.2 rfl ⟨Nat.le_of_ble_eq_true rfl, Nat.le_of_ble_eq_true rfl⟩ rfl dX11_meet_36 h (fun r50 I48 J49 h => ?_)
          refine g_if_ne X (tgt := 45) dX11_meet_39 (by decide) (fun c51 => ?_) (fun c51 => ?_)
          · have h := h.1 c51
            refine g_aload_n X dX11_meet_45 rfl 0 rfl ?_
            refine g_aload_n X dX11_meet_46 rfl 0 rfl ?_
            refine g_getr X (C := RX11) (T := TX11) (N := 39) (ci := 9) (k := 29) iX11_meet_X11 rfl kX11_meet_44 (Nat.le_of_ble_eq_true rfl) rfl (by decide) rfl rfl dX11_meet_47 ?_
            refine g_aload_n X dX11_meet_50 rfl 0 rfl ?_
            refine g_getr X (C := RX11) (T := TX11) (N := 39) (ci := 9) (k := 30) iX11_meet_X11 rfl kX11_meet_48 (Nat.le_of_ble_eq_true rfl) rfl (by decide) rfl rfl dX11_meet_51 ?_
            refine g_iload_n X dX11_meet_54 rfl 1 rfl ?_
            refine g_aload_n X dX11_meet_55 rfl 0 rfl ?_
            refine g_iload_n X dX11_meet_56 rfl 1 rfl ?_
            refine g_callVI X (As := [.int p1]) (rest := [.int p1, .ref (ea (zE Z) 100), .ref (ea (zE Z) 99), .ref (ea (zE Z) 87)]) (T := TX11) (N := 39) (c_X11_strawOf (zl Z) (zE Z) p1) gX11_meet_X11_strawOf yo_X11_strawOf rfl ⟨Nat.le_of_ble_eq_true rfl, Nat.le_of_ble_eq_true rfl⟩ (Nat.le_of_ble_eq_true rfl) rfl rfl rfl dX11_meet_57 h (fun r54 I52 J53 h => ?_)
            refine g_callVV X (As := [.ref (ea (zE Z) 99), .ref (ea (zE Z) 100), .int p1, .int r54]) (rest := []) (T := TX11) (N := 39) (c_X11_layFrom (zl Z) (zE Z) (Nat.le_of_ble_eq_true rfl) rfl (Nat.le_of_ble_eq_true rfl) rfl p1 r54) gX11_meet_X11_layFrom yo_X11_layFrom rfl ⟨Nat.le_of_ble_eq_true rfl, Nat.le_of_ble_eq_true rfl⟩ (Nat.le_of_ble_eq_true rfl) rfl rfl rfl dX11_meet_60 h (fun  I55 J56 h => ?_)
            refine g_aload_n X dX11_meet_63 rfl 0 rfl ?_
            refine g_aload_n X dX11_meet_64 rfl 0 rfl ?_
            refine g_getr X (C := RX11) (T := TX11) (N := 39) (ci := 9) (k := 31) iX11_meet_X11 rfl kX11_meet_51 (Nat.le_of_ble_eq_true rfl) rfl (by decide) rfl rfl dX11_meet_65 ?_
            refine g_aload_n X dX11_meet_68 rfl 0 rfl ?_
            refine g_getr X (C := RX11) (T := TX11) (N := 39) (ci := 9) (k := 32) iX11_meet_X11 rfl kX11_meet_54 (Nat.le_of_ble_eq_true rfl) rfl (by decide) rfl rfl dX11_meet_69 ?_
            refine g_iload_n X dX11_meet_72 rfl 2 rfl ?_
            refine g_aload_n X dX11_meet_73 rfl 0 rfl ?_
            refine g_iload_n X dX11_meet_74 rfl 2 rfl ?_
            refine g_callVI X (As := [.int p2]) (rest := [.int p2, .ref (ea (zE Z) 102), .ref (ea (zE Z) 101), .ref (ea (zE Z) 87)]) (T := TX11) (N := 39) (c_X11_strawOf (zl Z) (zE Z) p2) gX11_meet_X11_strawOf yo_X11_strawOf rfl ⟨Nat.le_of_ble_eq_true rfl, Nat.le_of_ble_eq_true rfl⟩ (Nat.le_of_ble_eq_true rfl) rfl rfl rfl dX11_meet_75 h (fun r59 I57 J58 h => ?_)
            refine g_callVV X (As := [.ref (ea (zE Z) 101), .ref (ea (zE Z) 102), .int p2, .int r59]) (rest := []) (T := TX11) (N := 39) (c_X11_layFrom (zl Z) (zE Z) (Nat.le_of_ble_eq_true rfl) rfl (Nat.le_of_ble_eq_true rfl) rfl p2 r59) gX11_meet_X11_layFrom yo_X11_layFrom rfl ⟨Nat.le_of_ble_eq_true rfl, Nat.le_of_ble_eq_true rfl⟩ (Nat.le_of_ble_eq_true rfl) rfl rfl rfl dX11_meet_78 h (fun  I60 J61 h => ?_)
            refine g_aload_n X dX11_meet_81 rfl 0 rfl ?_
            refine g_getr X (C := RX11) (T := TX11) (N := 39) (ci := 9) (k := 33) iX11_meet_X11 rfl kX11_meet_57 (Nat.le_of_ble_eq_true rfl) rfl (by decide) rfl rfl dX11_meet_82 ?_
            refine g_aload_n X dX11_meet_85 rfl 0 rfl ?_
            refine g_getr X (C := RX11) (T := TX11) (N := 39) (ci := 9) (k := 34) iX11_meet_X11 rfl kX11_meet_60 (Nat.le_of_ble_eq_true rfl) rfl (by decide) rfl rfl dX11_meet_86 ?_
            refine g_callSV X (As := [.ref (ea (zE Z) 103), .ref (ea (zE Z) 104)]) (rest := []) (c_X11_clear (zl Z) (zE Z) (Nat.le_of_ble_eq_true rfl) rfl (Nat.le_of_ble_eq_true rfl) rfl) gX11_meet_X11_clear yo_X11_clear.2 rfl ⟨Nat.le_of_ble_eq_true rfl, Nat.le_of_ble_eq_true rfl⟩ rfl dX11_meet_89 h (fun  I62 J63 h => ?_)
            refine g_iconst X (v := 0) dX11_meet_92 (by decide) ?_
            refine g_istore X (lv' := [(5, .int 0), (0, .ref (ea (zE Z) 87)), (1, .int p1), (2, .int p2), (3, .int p3), (4, .int p4)]) dX11_meet_93 (by decide) rfl ?_
            refine GW.sub (lv' := [(0, .ref (ea (zE Z) 87)), (1, .int p1), (3, .int p3), (4, .int p4), (5, .int 0)]) [1, 2, 4, 5, 0] rfl ?_
            obtain ⟨n, h⟩ := h
            exact w_X11_meet_L95 X R   n p1 p3 p4 0 I62 J63 h
          · have h := h.2 c51
            refine g_bipush X (v := (-3)) dX11_meet_42 (by decide) ?_
            exact g_iret X R dX11_meet_44 h
        · have h := h.2 c47
          refine g_bipush X (v := (-2)) dX11_meet_29 (by decide) ?_
          exact g_iret X R dX11_meet_31 h

/-! X11_taker.taker(I)I -/
def rmX11_taker : Room := { frames := 1, cells := 0, slots := 0, locals := 22 }
theorem yo_X11_taker : yX11_taker.cls = RX11 ∧ yX11_taker.cls ≠ "java/lang/invoke/MethodHandle" ∧ yX11_taker.cls ≠ "java/lang/invoke/VarHandle" ∧ (parseMethodDescriptor yX11_taker.desc).map (fun d => d.parameters.length) = some 1 := by decide +kernel
theorem kX11_taker_85 : Cond.fieldLink RX11 85 "SnowCourseModel" (TX11 26).2.1 (TX11 26).2.2.1 ∈ wsX11_taker := by decide +kernel
theorem iX11_taker_X11 : ∀ w ∈ u_ws RX11 TX11 39, w ∈ wsX11_taker := by decide +kernel
theorem kX11_taker_38 : Cond.fieldLink RX11 38 "SnowCourseModel" (TX11 25).2.1 (TX11 25).2.2.1 ∈ wsX11_taker := by decide +kernel
def vc_X11_taker (p1 : Int32) (I : MI) (J : MJ) (Q : Int32 → MI → MJ → Prop) : Prop := vc_X11_in p1 1 30 I J (fun (r3 : Int32) (I1 : MI) (J2 : MJ) => ((¬ r3 = 0 → ((¬ (I1 87 26) = 5 → vp_in (I1 87 26) 5 ∧ ∀ I7 : MI, I7 = wI I1 97 (Int32.toNatClampNeg (I1 87 26)) p1 → ∀ I8 : MI, I8 = wI I7 87 26 ((I7 87 26) + 1) → Q (I8 87 26) I8 J2) ∧ ((I1 87 26) = 5 → Q (-5) I1 J2))) ∧ (r3 = 0 → Q (-3) I1 J2)))
set_option maxRecDepth 100000 in
set_option maxHeartbeats 4000000 in
theorem c_X11_taker (l : Launch) (E : ET)  (p1 : Int32) : CI l yX11_taker wsX11_taker rmX11_taker E [.ref (ea E 87), .int p1] (vc_X11_taker p1) := by
  refine CI.of (cc := cX11_taker) (maxL := 2) (own := RX11) (by decide) rfl rfl (Nat.le_of_ble_eq_true rfl) ?_
  intro Z I J Q hE hl X R h
  subst hE
  subst hl
  show GW Z 2 I J 0 [(0, .ref (ea (zE Z) 87)), (1, .int p1)] []
  refine g_iload_n X dX11_taker_0 rfl 1 rfl ?_
  refine g_iconst X (v := 1) dX11_taker_1 (by decide) ?_
  refine g_bipush X (v := 30) dX11_taker_2 (by decide) ?_
  refine g_callSI X (As := [.int p1, .int 1, .int 30]) (rest := []) (c_X11_in (zl Z) (zE Z) p1 1 30) gX11_taker_X11_in yo_X11_in.2 rfl ⟨Nat.le_of_ble_eq_true rfl, Nat.le_of_ble_eq_true rfl⟩ rfl dX11_taker_4 h (fun r3 I1 J2 h => ?_)
  refine g_if_ne X (tgt := 13) dX11_taker_7 (by decide) (fun c4 => ?_) (fun c4 => ?_)
  · have h := h.1 c4
    refine g_aload_n X dX11_taker_13 rfl 0 rfl ?_
    refine g_geti X (C := RX11) (T := TX11) (N := 39) (ci := 9) (k := 26) iX11_taker_X11 rfl kX11_taker_85 (Nat.le_of_ble_eq_true rfl) rfl (by decide) rfl rfl dX11_taker_14 ?_
    refine g_iconst X (v := 5) dX11_taker_17 (by decide) ?_
    refine g_icmp_ne X (tgt := 24) dX11_taker_18 (by decide) (fun c5 => ?_) (fun c5 => ?_)
    · have h := h.1 c5
      refine g_aload_n X dX11_taker_24 rfl 0 rfl ?_
      refine g_getr X (C := RX11) (T := TX11) (N := 39) (ci := 9) (k := 25) iX11_taker_X11 rfl kX11_taker_38 (Nat.le_of_ble_eq_true rfl) rfl (by decide) rfl rfl dX11_taker_25 ?_
      refine g_aload_n X dX11_taker_28 rfl 0 rfl ?_
      refine g_geti X (C := RX11) (T := TX11) (N := 39) (ci := 9) (k := 26) iX11_taker_X11 rfl kX11_taker_85 (Nat.le_of_ble_eq_true rfl) rfl (by decide) rfl rfl dX11_taker_29 ?_
      refine g_iload_n X dX11_taker_32 rfl 1 rfl ?_
      obtain ⟨b6, h⟩ := h
      refine g_iast X (Nat.le_of_ble_eq_true rfl) rfl b6 dX11_taker_33 ?_
      refine g_nmI (fun I7 eI7 => ?_)
      have h := h I7 eI7
      refine g_aload_n X dX11_taker_34 rfl 0 rfl ?_
      refine g_dup X dX11_taker_35 rfl ?_
      refine g_geti X (C := RX11) (T := TX11) (N := 39) (ci := 9) (k := 26) iX11_taker_X11 rfl kX11_taker_85 (Nat.le_of_ble_eq_true rfl) rfl (by decide) rfl rfl dX11_taker_36 ?_
      refine g_iconst X (v := 1) dX11_taker_39 (by decide) ?_
      refine g_iadd X dX11_taker_40 ?_
      refine g_puti X (C := RX11) (T := TX11) (N := 39) (ci := 9) (k := 26) (ty0 := tyX11) iX11_taker_X11 tyX11_ok nmX11 rfl kX11_taker_85 (Nat.le_of_ble_eq_true rfl) rfl (by decide) rfl rfl (by decide +kernel) rfl dX11_taker_41 ?_
      refine g_nmI (fun I8 eI8 => ?_)
      have h := h I8 eI8
      refine g_aload_n X dX11_taker_44 rfl 0 rfl ?_
      refine g_geti X (C := RX11) (T := TX11) (N := 39) (ci := 9) (k := 26) iX11_taker_X11 rfl kX11_taker_85 (Nat.le_of_ble_eq_true rfl) rfl (by decide) rfl rfl dX11_taker_45 ?_
      exact g_iret X R dX11_taker_48 h
    · have h := h.2 c5
      refine g_bipush X (v := (-5)) dX11_taker_21 (by decide) ?_
      exact g_iret X R dX11_taker_23 h
  · have h := h.2 c4
    refine g_bipush X (v := (-3)) dX11_taker_10 (by decide) ?_
    exact g_iret X R dX11_taker_12 h

/-! X11_dismiss.dismiss()I -/
def rmX11_dismiss : Room := { frames := 0, cells := 0, slots := 0, locals := 0 }
theorem yo_X11_dismiss : yX11_dismiss.cls = RX11 ∧ yX11_dismiss.cls ≠ "java/lang/invoke/MethodHandle" ∧ yX11_dismiss.cls ≠ "java/lang/invoke/VarHandle" ∧ (parseMethodDescriptor yX11_dismiss.desc).map (fun d => d.parameters.length) = some 0 := by decide +kernel
theorem kX11_dismiss_85 : Cond.fieldLink RX11 85 "SnowCourseModel" (TX11 26).2.1 (TX11 26).2.2.1 ∈ wsX11_dismiss := by decide +kernel
theorem iX11_dismiss_X11 : ∀ w ∈ u_ws RX11 TX11 39, w ∈ wsX11_dismiss := by decide +kernel
def vc_X11_dismiss  (I : MI) (J : MJ) (Q : Int32 → MI → MJ → Prop) : Prop := ∀ x1 : Int32, x1 = I 87 26 → ∀ I2 : MI, I2 = wI I 87 26 0 → Q x1 I2 J
set_option maxRecDepth 100000 in
set_option maxHeartbeats 4000000 in
theorem c_X11_dismiss (l : Launch) (E : ET)   : CI l yX11_dismiss wsX11_dismiss rmX11_dismiss E [.ref (ea E 87)] (vc_X11_dismiss ) := by
  refine CI.of (cc := cX11_dismiss) (maxL := 2) (own := RX11) (by decide) rfl rfl (Nat.le_of_ble_eq_true rfl) ?_
  intro Z I J Q hE hl X R h
  subst hE
  subst hl
  show GW Z 2 I J 0 [(0, .ref (ea (zE Z) 87))] []
  refine g_aload_n X dX11_dismiss_0 rfl 0 rfl ?_
  refine g_geti X (C := RX11) (T := TX11) (N := 39) (ci := 9) (k := 26) iX11_dismiss_X11 rfl kX11_dismiss_85 (Nat.le_of_ble_eq_true rfl) rfl (by decide) rfl rfl dX11_dismiss_1 ?_
  refine g_topi (fun x1 ex1 => ?_)
  have h := h x1 ex1
  refine g_istore_n X (lv' := [(1, .int x1), (0, .ref (ea (zE Z) 87))]) dX11_dismiss_4 rfl (by decide) rfl ?_
  refine g_aload_n X dX11_dismiss_5 rfl 1 rfl ?_
  refine g_iconst X (v := 0) dX11_dismiss_6 (by decide) ?_
  refine g_puti X (C := RX11) (T := TX11) (N := 39) (ci := 9) (k := 26) (ty0 := tyX11) iX11_dismiss_X11 tyX11_ok nmX11 rfl kX11_dismiss_85 (Nat.le_of_ble_eq_true rfl) rfl (by decide) rfl rfl (by decide +kernel) rfl dX11_dismiss_7 ?_
  refine g_nmI (fun I2 eI2 => ?_)
  have h := h I2 eI2
  refine g_iload_n X dX11_dismiss_10 rfl 0 rfl ?_
  exact g_iret X R dX11_dismiss_11 h

/-! X11_leftBy.leftBy(II)I -/
def rmX11_leftBy : Room := { frames := 2, cells := 0, slots := 0, locals := 41 }
theorem yo_X11_leftBy : yX11_leftBy.cls = RX11 ∧ yX11_leftBy.cls ≠ "java/lang/invoke/MethodHandle" ∧ yX11_leftBy.cls ≠ "java/lang/invoke/VarHandle" ∧ (parseMethodDescriptor yX11_leftBy.desc).map (fun d => d.parameters.length) = some 2 := by decide +kernel
theorem kX11_leftBy_85 : Cond.fieldLink RX11 85 "SnowCourseModel" (TX11 26).2.1 (TX11 26).2.2.1 ∈ wsX11_leftBy := by decide +kernel
theorem iX11_leftBy_X11 : ∀ w ∈ u_ws RX11 TX11 39, w ∈ wsX11_leftBy := by decide +kernel
theorem kX11_leftBy_38 : Cond.fieldLink RX11 38 "SnowCourseModel" (TX11 25).2.1 (TX11 25).2.2.1 ∈ wsX11_leftBy := by decide +kernel
def vc_X11_leftBy_B46  (Q : Int32 → MI → MJ → Prop)  (v3 : Int32) (I : MI) (J : MJ) : Prop := ((0 ≤ v3 → Q v3 I J) ∧ (¬ 0 ≤ v3 → Q (-1) I J))
set_option maxRecDepth 100000 in
set_option maxHeartbeats 4000000 in
theorem w_X11_leftBy_B46 {Z : RT}  (X : Cx Z cX11_leftBy 5 RX11 wsX11_leftBy rmX11_leftBy (some .int)) {Q : Int32 → MI → MJ → Prop} (R : RI Z Q)    (v3 : Int32) (I : MI) (J : MJ) (h : vc_X11_leftBy_B46  Q  v3 I J) : GW Z 5 I J 46 [(3, .int v3)] [] := by
  refine g_iload_n X dX11_leftBy_46 rfl 0 rfl ?_
  refine g_if_ge X (tgt := 54) dX11_leftBy_47 (by decide) (fun c1 => ?_) (fun c1 => ?_)
  · have h := h.1 c1
    refine g_iload_n X dX11_leftBy_54 rfl 0 rfl ?_
    exact g_iret X R dX11_leftBy_55 h
  · have h := h.2 c1
    refine g_iconst X (v := (-1)) dX11_leftBy_50 (by decide) ?_
    refine g_goto X (tgt := 55) dX11_leftBy_51 (by decide) ?_
    exact g_iret X R dX11_leftBy_55 h
def vc_X11_leftBy_L5s  (Q : Int32 → MI → MJ → Prop)  (k5 : Int32 → Int32 → Int32 → MI → MJ → Prop) (v2 : Int32) (v3 : Int32) (v4 : Int32) (I : MI) (J : MJ) : Prop := (((I 87 26) ≤ v4 → vc_X11_leftBy_B46  Q  v3 I J) ∧ (¬ (I 87 26) ≤ v4 → ((v3 < 0 → vc_X11_leftBy_B46  Q  v3 I J) ∧ (¬ v3 < 0 → vc_X11_has v2 v4 I J (fun (r6 : Int32) (I4 : MI) (J5 : MJ) => ((r6 = 0 → ∀ x8 : Int32, x8 = v4 + 1 → k5 v2 v3 x8 I4 J5) ∧ (¬ r6 = 0 → vc_X11_opened v3 I4 J5 (fun (r11 : Int32) (I9 : MI) (J10 : MJ) => vp_in v4 5 ∧ ∀ x13 : Int32, x13 = r11 - (I9 97 (Int32.toNatClampNeg v4)) → ∀ x14 : Int32, x14 = v4 + 1 → k5 v2 x13 x14 I9 J10))))))))
def vc_X11_leftBy_L5  (Q : Int32 → MI → MJ → Prop)  (n : Nat) : Int32 → Int32 → Int32 → MI → MJ → Prop := Nat.rec (fun _ _ _ _ _ => False) (fun _ ih => vc_X11_leftBy_L5s  Q  ih) n
set_option maxRecDepth 100000 in
set_option maxHeartbeats 4000000 in
theorem w_X11_leftBy_L5s {Z : RT}  (X : Cx Z cX11_leftBy 5 RX11 wsX11_leftBy rmX11_leftBy (some .int)) {Q : Int32 → MI → MJ → Prop} (R : RI Z Q)    {k5 : Int32 → Int32 → Int32 → MI → MJ → Prop} (hk5 : ∀ (v2 : Int32) (v3 : Int32) (v4 : Int32) (I : MI) (J : MJ), k5 v2 v3 v4 I J → GW Z 5 I J 5 [(0, .ref (ea (zE Z) 87)), (2, .int v2), (3, .int v3), (4, .int v4)] []) (v2 : Int32) (v3 : Int32) (v4 : Int32) (I : MI) (J : MJ) (h : vc_X11_leftBy_L5s  Q  k5 v2 v3 v4 I J) : GW Z 5 I J 5 [(0, .ref (ea (zE Z) 87)), (2, .int v2), (3, .int v3), (4, .int v4)] [] := by
  refine g_iload X dX11_leftBy_5 3 rfl ?_
  refine g_aload_n X dX11_leftBy_7 rfl 0 rfl ?_
  refine g_geti X (C := RX11) (T := TX11) (N := 39) (ci := 9) (k := 26) iX11_leftBy_X11 rfl kX11_leftBy_85 (Nat.le_of_ble_eq_true rfl) rfl (by decide) rfl rfl dX11_leftBy_8 ?_
  refine g_icmp_ge X (tgt := 46) dX11_leftBy_11 (by decide) (fun c2 => ?_) (fun c2 => ?_)
  · have h := h.1 c2
    refine GW.sub (lv' := [(3, .int v3)]) [2] rfl ?_
    exact w_X11_leftBy_B46 X R   v3 I J h
  · have h := h.2 c2
    refine g_iload_n X dX11_leftBy_14 rfl 2 rfl ?_
    refine g_if_lt X (tgt := 46) dX11_leftBy_15 (by decide) (fun c3 => ?_) (fun c3 => ?_)
    · have h := h.1 c3
      refine GW.sub (lv' := [(3, .int v3)]) [2] rfl ?_
      exact w_X11_leftBy_B46 X R   v3 I J h
    · have h := h.2 c3
      refine g_iload_n X dX11_leftBy_18 rfl 1 rfl ?_
      refine g_iload X dX11_leftBy_19 3 rfl ?_
      refine g_callSI X (As := [.int v2, .int v4]) (rest := []) (c_X11_has (zl Z) (zE Z) v2 v4) gX11_leftBy_X11_has yo_X11_has.2 rfl ⟨Nat.le_of_ble_eq_true rfl, Nat.le_of_ble_eq_true rfl⟩ rfl dX11_leftBy_21 h (fun r6 I4 J5 h => ?_)
      refine g_if_eq X (tgt := 40) dX11_leftBy_24 (by decide) (fun c7 => ?_) (fun c7 => ?_)
      · have h := h.1 c7
        obtain ⟨x8, ex8⟩ : ∃ y : Int32, y = v4 + 1 := ⟨_, rfl⟩
        have h := h x8 ex8
        refine g_iinc X (q := 3) (v := x8) (lv' := [(4, .int x8), (0, .ref (ea (zE Z) 87)), (2, .int v2), (3, .int v3)]) dX11_leftBy_40 rfl (by rw [ex8]; rfl) (by decide) rfl ?_
        refine g_goto X (tgt := 5) dX11_leftBy_43 (by decide) ?_
        refine GW.sub (lv' := [(0, .ref (ea (zE Z) 87)), (2, .int v2), (3, .int v3), (4, .int x8)]) [1, 2, 3, 0] rfl ?_
        exact hk5 v2 v3 x8 I4 J5 h
      · have h := h.2 c7
        refine g_iload_n X dX11_leftBy_27 rfl 2 rfl ?_
        refine g_callSI X (As := [.int v3]) (rest := []) (c_X11_opened (zl Z) (zE Z) v3) gX11_leftBy_X11_opened yo_X11_opened.2 rfl ⟨Nat.le_of_ble_eq_true rfl, Nat.le_of_ble_eq_true rfl⟩ rfl dX11_leftBy_28 h (fun r11 I9 J10 h => ?_)
        refine g_aload_n X dX11_leftBy_31 rfl 0 rfl ?_
        refine g_getr X (C := RX11) (T := TX11) (N := 39) (ci := 9) (k := 25) iX11_leftBy_X11 rfl kX11_leftBy_38 (Nat.le_of_ble_eq_true rfl) rfl (by decide) rfl rfl dX11_leftBy_32 ?_
        refine g_iload X dX11_leftBy_35 3 rfl ?_
        obtain ⟨b12, h⟩ := h
        refine g_iald X (Nat.le_of_ble_eq_true rfl) rfl b12 dX11_leftBy_37 ?_
        refine g_isub X dX11_leftBy_38 ?_
        refine g_topi (fun x13 ex13 => ?_)
        have h := h x13 ex13
        refine g_istore_n X (lv' := [(3, .int x13), (0, .ref (ea (zE Z) 87)), (2, .int v2), (4, .int v4)]) dX11_leftBy_39 rfl (by decide) rfl ?_
        obtain ⟨x14, ex14⟩ : ∃ y : Int32, y = v4 + 1 := ⟨_, rfl⟩
        have h := h x14 ex14
        refine g_iinc X (q := 3) (v := x14) (lv' := [(4, .int x14), (3, .int x13), (0, .ref (ea (zE Z) 87)), (2, .int v2)]) dX11_leftBy_40 rfl (by rw [ex14]; rfl) (by decide) rfl ?_
        refine g_goto X (tgt := 5) dX11_leftBy_43 (by decide) ?_
        refine GW.sub (lv' := [(0, .ref (ea (zE Z) 87)), (2, .int v2), (3, .int x13), (4, .int x14)]) [2, 3, 1, 0] rfl ?_
        exact hk5 v2 x13 x14 I9 J10 h
theorem w_X11_leftBy_L5 {Z : RT}  (X : Cx Z cX11_leftBy 5 RX11 wsX11_leftBy rmX11_leftBy (some .int)) {Q : Int32 → MI → MJ → Prop} (R : RI Z Q)    : ∀ (n : Nat) (v2 : Int32) (v3 : Int32) (v4 : Int32) (I : MI) (J : MJ) (h : vc_X11_leftBy_L5  Q  n v2 v3 v4 I J), GW Z 5 I J 5 [(0, .ref (ea (zE Z) 87)), (2, .int v2), (3, .int v3), (4, .int v4)] [] := by
  intro n
  induction n with
  | zero => intro v2 v3 v4 I J h; exact h.elim
  | succ n ih => intro v2 v3 v4 I J h; exact w_X11_leftBy_L5s X R   ih v2 v3 v4 I J h
def vc_X11_leftBy (p1 : Int32) (p2 : Int32) (I : MI) (J : MJ) (Q : Int32 → MI → MJ → Prop) : Prop := (∃ n, vc_X11_leftBy_L5  Q  n p2 p1 0 I J)
set_option maxRecDepth 100000 in
set_option maxHeartbeats 4000000 in
theorem c_X11_leftBy (l : Launch) (E : ET)  (p1 : Int32) (p2 : Int32) : CI l yX11_leftBy wsX11_leftBy rmX11_leftBy E [.ref (ea E 87), .int p1, .int p2] (vc_X11_leftBy p1 p2) := by
  refine CI.of (cc := cX11_leftBy) (maxL := 5) (own := RX11) (by decide) rfl rfl (Nat.le_of_ble_eq_true rfl) ?_
  intro Z I J Q hE hl X R h
  subst hE
  subst hl
  show GW Z 5 I J 0 [(0, .ref (ea (zE Z) 87)), (1, .int p1), (2, .int p2)] []
  refine g_iload_n X dX11_leftBy_0 rfl 1 rfl ?_
  refine g_istore_n X (lv' := [(3, .int p1), (0, .ref (ea (zE Z) 87)), (1, .int p1), (2, .int p2)]) dX11_leftBy_1 rfl (by decide) rfl ?_
  refine g_iconst X (v := 0) dX11_leftBy_2 (by decide) ?_
  refine g_istore X (lv' := [(4, .int 0), (3, .int p1), (0, .ref (ea (zE Z) 87)), (1, .int p1), (2, .int p2)]) dX11_leftBy_3 (by decide) rfl ?_
  refine GW.sub (lv' := [(0, .ref (ea (zE Z) 87)), (2, .int p2), (3, .int p1), (4, .int 0)]) [2, 4, 1, 0] rfl ?_
  obtain ⟨n, h⟩ := h
  exact w_X11_leftBy_L5 X R   n p2 p1 0 I J h

/-! X11_left.left(III)I -/
def rmX11_left : Room := { frames := 3, cells := 0, slots := 0, locals := 65 }
theorem yo_X11_left : yX11_left.cls = RX11 ∧ yX11_left.cls ≠ "java/lang/invoke/MethodHandle" ∧ yX11_left.cls ≠ "java/lang/invoke/VarHandle" ∧ (parseMethodDescriptor yX11_left.desc).map (fun d => d.parameters.length) = some 3 := by decide +kernel
theorem kX11_left_85 : Cond.fieldLink RX11 85 "SnowCourseModel" (TX11 26).2.1 (TX11 26).2.2.1 ∈ wsX11_left := by decide +kernel
theorem iX11_left_X11 : ∀ w ∈ u_ws RX11 TX11 39, w ∈ wsX11_left := by decide +kernel
def vc_X11_left_L50s  (Q : Int32 → MI → MJ → Prop)  (k50 : Int32 → Int32 → Int32 → Int32 → Int32 → Int32 → MI → MJ → Prop) (v1 : Int32) (v2 : Int32) (v3 : Int32) (v4 : Int32) (v5 : Int32) (v6 : Int32) (I : MI) (J : MJ) : Prop := ((v6 < 0 → ((¬ v3 = 0 → Q v5 I J) ∧ (v3 = 0 → Q v4 I J))) ∧ (¬ v6 < 0 → vc_X11_leftBy v1 v6 I J (fun (r5 : Int32) (I3 : MI) (J4 : MJ) => ((¬ r5 = v2 → ∀ x7 : Int32, x7 = v6 + (-1) → k50 v1 v2 v3 v4 v5 x7 I3 J4) ∧ (r5 = v2 → ∀ x8 : Int32, x8 = v4 + 1 → ∀ x9 : Int32, x9 = v6 + (-1) → k50 v1 v2 v3 x8 v6 x9 I3 J4)))))
def vc_X11_left_L50  (Q : Int32 → MI → MJ → Prop)  (n : Nat) : Int32 → Int32 → Int32 → Int32 → Int32 → Int32 → MI → MJ → Prop := Nat.rec (fun _ _ _ _ _ _ _ _ => False) (fun _ ih => vc_X11_left_L50s  Q  ih) n
set_option maxRecDepth 100000 in
set_option maxHeartbeats 4000000 in
theorem w_X11_left_L50s {Z : RT}  (X : Cx Z cX11_left 7 RX11 wsX11_left rmX11_left (some .int)) {Q : Int32 → MI → MJ → Prop} (R : RI Z Q)    {k50 : Int32 → Int32 → Int32 → Int32 → Int32 → Int32 → MI → MJ → Prop} (hk50 : ∀ (v1 : Int32) (v2 : Int32) (v3 : Int32) (v4 : Int32) (v5 : Int32) (v6 : Int32) (I : MI) (J : MJ), k50 v1 v2 v3 v4 v5 v6 I J → GW Z 7 I J 50 [(0, .ref (ea (zE Z) 87)), (1, .int v1), (2, .int v2), (3, .int v3), (4, .int v4), (5, .int v5), (6, .int v6)] []) (v1 : Int32) (v2 : Int32) (v3 : Int32) (v4 : Int32) (v5 : Int32) (v6 : Int32) (I : MI) (J : MJ) (h : vc_X11_left_L50s  Q  k50 v1 v2 v3 v4 v5 v6 I J) : GW Z 7 I J 50 [(0, .ref (ea (zE Z) 87)), (1, .int v1), (2, .int v2), (3, .int v3), (4, .int v4), (5, .int v5), (6, .int v6)] [] := by
  refine g_iload X dX11_left_50 6 rfl ?_
  refine g_if_lt X (tgt := 79) dX11_left_52 (by decide) (fun c1 => ?_) (fun c1 => ?_)
  · have h := h.1 c1
    refine g_iload_n X dX11_left_79 rfl 3 rfl ?_
    refine g_if_ne X (tgt := 88) dX11_left_80 (by decide) (fun c2 => ?_) (fun c2 => ?_)
    · have h := h.1 c2
      refine g_iload X dX11_left_88 5 rfl ?_
      exact g_iret X R dX11_left_90 h
    · have h := h.2 c2
      refine g_iload X dX11_left_83 4 rfl ?_
      refine g_goto X (tgt := 90) dX11_left_85 (by decide) ?_
      exact g_iret X R dX11_left_90 h
  · have h := h.2 c1
    refine g_aload_n X dX11_left_55 rfl 0 rfl ?_
    refine g_iload_n X dX11_left_56 rfl 1 rfl ?_
    refine g_iload X dX11_left_57 6 rfl ?_
    refine g_callVI X (As := [.int v1, .int v6]) (rest := []) (T := TX11) (N := 39) (c_X11_leftBy (zl Z) (zE Z) v1 v6) gX11_left_X11_leftBy yo_X11_leftBy rfl ⟨Nat.le_of_ble_eq_true rfl, Nat.le_of_ble_eq_true rfl⟩ (Nat.le_of_ble_eq_true rfl) rfl rfl rfl dX11_left_59 h (fun r5 I3 J4 h => ?_)
    refine g_iload_n X dX11_left_62 rfl 2 rfl ?_
    refine g_icmp_ne X (tgt := 73) dX11_left_63 (by decide) (fun c6 => ?_) (fun c6 => ?_)
    · have h := h.1 c6
      obtain ⟨x7, ex7⟩ : ∃ y : Int32, y = v6 + (-1) := ⟨_, rfl⟩
      have h := h x7 ex7
      refine g_iinc X (q := 6) (v := x7) (lv' := [(6, .int x7), (0, .ref (ea (zE Z) 87)), (1, .int v1), (2, .int v2), (3, .int v3), (4, .int v4), (5, .int v5)]) dX11_left_73 rfl (by rw [ex7]; rfl) (by decide) rfl ?_
      refine g_goto X (tgt := 50) dX11_left_76 (by decide) ?_
      refine GW.sub (lv' := [(0, .ref (ea (zE Z) 87)), (1, .int v1), (2, .int v2), (3, .int v3), (4, .int v4), (5, .int v5), (6, .int x7)]) [1, 2, 3, 4, 5, 6, 0] rfl ?_
      exact hk50 v1 v2 v3 v4 v5 x7 I3 J4 h
    · have h := h.2 c6
      obtain ⟨x8, ex8⟩ : ∃ y : Int32, y = v4 + 1 := ⟨_, rfl⟩
      have h := h x8 ex8
      refine g_iinc X (q := 4) (v := x8) (lv' := [(4, .int x8), (0, .ref (ea (zE Z) 87)), (1, .int v1), (2, .int v2), (3, .int v3), (5, .int v5), (6, .int v6)]) dX11_left_66 rfl (by rw [ex8]; rfl) (by decide) rfl ?_
      refine g_iload X dX11_left_69 6 rfl ?_
      refine g_istore X (lv' := [(5, .int v6), (4, .int x8), (0, .ref (ea (zE Z) 87)), (1, .int v1), (2, .int v2), (3, .int v3), (6, .int v6)]) dX11_left_71 (by decide) rfl ?_
      obtain ⟨x9, ex9⟩ : ∃ y : Int32, y = v6 + (-1) := ⟨_, rfl⟩
      have h := h x9 ex9
      refine g_iinc X (q := 6) (v := x9) (lv' := [(6, .int x9), (5, .int v6), (4, .int x8), (0, .ref (ea (zE Z) 87)), (1, .int v1), (2, .int v2), (3, .int v3)]) dX11_left_73 rfl (by rw [ex9]; rfl) (by decide) rfl ?_
      refine g_goto X (tgt := 50) dX11_left_76 (by decide) ?_
      refine GW.sub (lv' := [(0, .ref (ea (zE Z) 87)), (1, .int v1), (2, .int v2), (3, .int v3), (4, .int x8), (5, .int v6), (6, .int x9)]) [3, 4, 5, 6, 2, 1, 0] rfl ?_
      exact hk50 v1 v2 v3 x8 v6 x9 I3 J4 h
theorem w_X11_left_L50 {Z : RT}  (X : Cx Z cX11_left 7 RX11 wsX11_left rmX11_left (some .int)) {Q : Int32 → MI → MJ → Prop} (R : RI Z Q)    : ∀ (n : Nat) (v1 : Int32) (v2 : Int32) (v3 : Int32) (v4 : Int32) (v5 : Int32) (v6 : Int32) (I : MI) (J : MJ) (h : vc_X11_left_L50  Q  n v1 v2 v3 v4 v5 v6 I J), GW Z 7 I J 50 [(0, .ref (ea (zE Z) 87)), (1, .int v1), (2, .int v2), (3, .int v3), (4, .int v4), (5, .int v5), (6, .int v6)] [] := by
  intro n
  induction n with
  | zero => intro v1 v2 v3 v4 v5 v6 I J h; exact h.elim
  | succ n ih => intro v1 v2 v3 v4 v5 v6 I J h; exact w_X11_left_L50s X R   ih v1 v2 v3 v4 v5 v6 I J h
def vc_X11_left (p1 : Int32) (p2 : Int32) (p3 : Int32) (I : MI) (J : MJ) (Q : Int32 → MI → MJ → Prop) : Prop := vc_X11_in p1 0 999 I J (fun (r12 : Int32) (I10 : MI) (J11 : MJ) => ((r12 = 0 → Q (-3) I10 J11) ∧ (¬ r12 = 0 → vc_X11_in p2 0 999 I10 J11 (fun (r16 : Int32) (I14 : MI) (J15 : MJ) => ((r16 = 0 → Q (-3) I14 J15) ∧ (¬ r16 = 0 → vc_X11_in p3 0 1 I14 J15 (fun (r20 : Int32) (I18 : MI) (J19 : MJ) => ((¬ r20 = 0 → ∀ x22 : Int32, x22 = (1 <<< ((I18 87 26) &&& 31)) - 1 → (∃ n, vc_X11_left_L50  Q  n p1 p2 p3 0 (-1) x22 I18 J19)) ∧ (r20 = 0 → Q (-3) I18 J19)))))))))
set_option maxRecDepth 100000 in
set_option maxHeartbeats 4000000 in
theorem c_X11_left (l : Launch) (E : ET)  (p1 : Int32) (p2 : Int32) (p3 : Int32) : CI l yX11_left wsX11_left rmX11_left E [.ref (ea E 87), .int p1, .int p2, .int p3] (vc_X11_left p1 p2 p3) := by
  refine CI.of (cc := cX11_left) (maxL := 7) (own := RX11) (by decide) rfl rfl (Nat.le_of_ble_eq_true rfl) ?_
  intro Z I J Q hE hl X R h
  subst hE
  subst hl
  show GW Z 7 I J 0 [(0, .ref (ea (zE Z) 87)), (1, .int p1), (2, .int p2), (3, .int p3)] []
  refine g_iload_n X dX11_left_0 rfl 1 rfl ?_
  refine g_iconst X (v := 0) dX11_left_1 (by decide) ?_
  refine g_sipush X (v := 999) dX11_left_2 (by decide) ?_
  refine g_callSI X (As := [.int p1, .int 0, .int 999]) (rest := []) (c_X11_in (zl Z) (zE Z) p1 0 999) gX11_left_X11_in yo_X11_in.2 rfl ⟨Nat.le_of_ble_eq_true rfl, Nat.le_of_ble_eq_true rfl⟩ rfl dX11_left_5 h (fun r12 I10 J11 h => ?_)
  refine g_if_eq X (tgt := 31) dX11_left_8 (by decide) (fun c13 => ?_) (fun c13 => ?_)
  · have h := h.1 c13
    refine g_bipush X (v := (-3)) dX11_left_31 (by decide) ?_
    exact g_iret X R dX11_left_33 h
  · have h := h.2 c13
    refine g_iload_n X dX11_left_11 rfl 2 rfl ?_
    refine g_iconst X (v := 0) dX11_left_12 (by decide) ?_
    refine g_sipush X (v := 999) dX11_left_13 (by decide) ?_
    refine g_callSI X (As := [.int p2, .int 0, .int 999]) (rest := []) (c_X11_in (zl Z) (zE Z) p2 0 999) gX11_left_X11_in yo_X11_in.2 rfl ⟨Nat.le_of_ble_eq_true rfl, Nat.le_of_ble_eq_true rfl⟩ rfl dX11_left_16 h (fun r16 I14 J15 h => ?_)
    refine g_if_eq X (tgt := 31) dX11_left_19 (by decide) (fun c17 => ?_) (fun c17 => ?_)
    · have h := h.1 c17
      refine g_bipush X (v := (-3)) dX11_left_31 (by decide) ?_
      exact g_iret X R dX11_left_33 h
    · have h := h.2 c17
      refine g_iload_n X dX11_left_22 rfl 3 rfl ?_
      refine g_iconst X (v := 0) dX11_left_23 (by decide) ?_
      refine g_iconst X (v := 1) dX11_left_24 (by decide) ?_
      refine g_callSI X (As := [.int p3, .int 0, .int 1]) (rest := []) (c_X11_in (zl Z) (zE Z) p3 0 1) gX11_left_X11_in yo_X11_in.2 rfl ⟨Nat.le_of_ble_eq_true rfl, Nat.le_of_ble_eq_true rfl⟩ rfl dX11_left_25 h (fun r20 I18 J19 h => ?_)
      refine g_if_ne X (tgt := 34) dX11_left_28 (by decide) (fun c21 => ?_) (fun c21 => ?_)
      · have h := h.1 c21
        refine g_iconst X (v := 0) dX11_left_34 (by decide) ?_
        refine g_istore X (lv' := [(4, .int 0), (0, .ref (ea (zE Z) 87)), (1, .int p1), (2, .int p2), (3, .int p3)]) dX11_left_35 (by decide) rfl ?_
        refine g_iconst X (v := (-1)) dX11_left_37 (by decide) ?_
        refine g_istore X (lv' := [(5, .int (-1)), (4, .int 0), (0, .ref (ea (zE Z) 87)), (1, .int p1), (2, .int p2), (3, .int p3)]) dX11_left_38 (by decide) rfl ?_
        refine g_iconst X (v := 1) dX11_left_40 (by decide) ?_
        refine g_aload_n X dX11_left_41 rfl 2 rfl ?_
        refine g_geti X (C := RX11) (T := TX11) (N := 39) (ci := 9) (k := 26) iX11_left_X11 rfl kX11_left_85 (Nat.le_of_ble_eq_true rfl) rfl (by decide) rfl rfl dX11_left_42 ?_
        refine g_ishl X dX11_left_45 ?_
        refine g_iconst X (v := 1) dX11_left_46 (by decide) ?_
        refine g_isub X dX11_left_47 ?_
        refine g_topi (fun x22 ex22 => ?_)
        have h := h x22 ex22
        refine g_istore X (lv' := [(6, .int x22), (5, .int (-1)), (4, .int 0), (0, .ref (ea (zE Z) 87)), (1, .int p1), (2, .int p2), (3, .int p3)]) dX11_left_48 (by decide) rfl ?_
        refine GW.sub (lv' := [(0, .ref (ea (zE Z) 87)), (1, .int p1), (2, .int p2), (3, .int p3), (4, .int 0), (5, .int (-1)), (6, .int x22)]) [3, 4, 5, 6, 2, 1, 0] rfl ?_
        obtain ⟨n, h⟩ := h
        exact w_X11_left_L50 X R   n p1 p2 p3 0 (-1) x22 I18 J19 h
      · have h := h.2 c21
        refine g_bipush X (v := (-3)) dX11_left_31 (by decide) ?_
        exact g_iret X R dX11_left_33 h

/-! X11_drip.drip(III)I -/
def rmX11_drip : Room := { frames := 3, cells := 0, slots := 0, locals := 75 }
theorem yo_X11_drip : yX11_drip.cls = RX11 ∧ yX11_drip.cls ≠ "java/lang/invoke/MethodHandle" ∧ yX11_drip.cls ≠ "java/lang/invoke/VarHandle" ∧ (parseMethodDescriptor yX11_drip.desc).map (fun d => d.parameters.length) = some 3 := by decide +kernel
theorem kX11_drip_25 : Cond.fieldLink RX11 25 "SnowCourseModel" (TX11 20).2.1 (TX11 20).2.2.1 ∈ wsX11_drip := by decide +kernel
theorem iX11_drip_X11 : ∀ w ∈ u_ws RX11 TX11 39, w ∈ wsX11_drip := by decide +kernel
theorem kX11_drip_98 : Cond.fieldLink RX11 98 "SnowCourseModel" (TX11 2).2.1 (TX11 2).2.2.1 ∈ wsX11_drip := by decide +kernel
theorem kX11_drip_13 : Cond.fieldLink RX11 13 "SnowCourseModel" (TX11 3).2.1 (TX11 3).2.2.1 ∈ wsX11_drip := by decide +kernel
def vc_X11_drip_B157  (Q : Int32 → MI → MJ → Prop) (k48 : Int32 → Int32 → Int32 → Int32 → Int32 → MI → MJ → Prop) (v1 : Int32) (v2 : Int32) (v3 : Int32) (v5 : Int32) (s0 : Int32) (s1 : Int32) (I : MI) (J : MJ) : Prop := ∀ x1 : Int32, x1 = s0 ||| s1 → ∀ x2 : Int32, x2 = v5 + 1 → k48 v1 v2 v3 x1 x2 I J
set_option maxRecDepth 100000 in
set_option maxHeartbeats 4000000 in
theorem w_X11_drip_B157 {Z : RT}  (X : Cx Z cX11_drip 7 RX11 wsX11_drip rmX11_drip (some .int)) {Q : Int32 → MI → MJ → Prop} (R : RI Z Q)  {k48 : Int32 → Int32 → Int32 → Int32 → Int32 → MI → MJ → Prop} (hk48 : ∀ (v1 : Int32) (v2 : Int32) (v3 : Int32) (v4 : Int32) (v5 : Int32) (I : MI) (J : MJ), k48 v1 v2 v3 v4 v5 I J → GW Z 7 I J 48 [(0, .ref (ea (zE Z) 87)), (1, .int v1), (2, .int v2), (3, .int v3), (4, .int v4), (5, .int v5)] []) (v1 : Int32) (v2 : Int32) (v3 : Int32) (v5 : Int32) (s0 : Int32) (s1 : Int32) (I : MI) (J : MJ) (h : vc_X11_drip_B157  Q k48 v1 v2 v3 v5 s0 s1 I J) : GW Z 7 I J 157 [(0, .ref (ea (zE Z) 87)), (1, .int v1), (2, .int v2), (3, .int v3), (5, .int v5)] [.int s1, .int s0] := by
  refine g_ior X dX11_drip_157 ?_
  refine g_topi (fun x1 ex1 => ?_)
  have h := h x1 ex1
  refine g_istore X (lv' := [(4, .int x1), (0, .ref (ea (zE Z) 87)), (1, .int v1), (2, .int v2), (3, .int v3), (5, .int v5)]) dX11_drip_158 (by decide) rfl ?_
  obtain ⟨x2, ex2⟩ : ∃ y : Int32, y = v5 + 1 := ⟨_, rfl⟩
  have h := h x2 ex2
  refine g_iinc X (q := 5) (v := x2) (lv' := [(5, .int x2), (4, .int x1), (0, .ref (ea (zE Z) 87)), (1, .int v1), (2, .int v2), (3, .int v3)]) dX11_drip_160 rfl (by rw [ex2]; rfl) (by decide) rfl ?_
  refine g_goto X (tgt := 48) dX11_drip_163 (by decide) ?_
  refine GW.sub (lv' := [(0, .ref (ea (zE Z) 87)), (1, .int v1), (2, .int v2), (3, .int v3), (4, .int x1), (5, .int x2)]) [2, 3, 4, 5, 1, 0] rfl ?_
  exact hk48 v1 v2 v3 x1 x2 I J h
def vc_X11_drip_B156  (Q : Int32 → MI → MJ → Prop) (k48 : Int32 → Int32 → Int32 → Int32 → Int32 → MI → MJ → Prop) (v1 : Int32) (v2 : Int32) (v3 : Int32) (v5 : Int32) (s0 : Int32) (I : MI) (J : MJ) : Prop := vc_X11_drip_B157  Q k48 v1 v2 v3 v5 s0 0 I J
set_option maxRecDepth 100000 in
set_option maxHeartbeats 4000000 in
theorem w_X11_drip_B156 {Z : RT}  (X : Cx Z cX11_drip 7 RX11 wsX11_drip rmX11_drip (some .int)) {Q : Int32 → MI → MJ → Prop} (R : RI Z Q)  {k48 : Int32 → Int32 → Int32 → Int32 → Int32 → MI → MJ → Prop} (hk48 : ∀ (v1 : Int32) (v2 : Int32) (v3 : Int32) (v4 : Int32) (v5 : Int32) (I : MI) (J : MJ), k48 v1 v2 v3 v4 v5 I J → GW Z 7 I J 48 [(0, .ref (ea (zE Z) 87)), (1, .int v1), (2, .int v2), (3, .int v3), (4, .int v4), (5, .int v5)] []) (v1 : Int32) (v2 : Int32) (v3 : Int32) (v5 : Int32) (s0 : Int32) (I : MI) (J : MJ) (h : vc_X11_drip_B156  Q k48 v1 v2 v3 v5 s0 I J) : GW Z 7 I J 156 [(0, .ref (ea (zE Z) 87)), (1, .int v1), (2, .int v2), (3, .int v3), (5, .int v5)] [.int s0] := by
  refine g_iconst X (v := 0) dX11_drip_156 (by decide) ?_
  refine GW.sub (lv' := [(0, .ref (ea (zE Z) 87)), (1, .int v1), (2, .int v2), (3, .int v3), (5, .int v5)]) [0, 1, 2, 3, 4] rfl ?_
  exact w_X11_drip_B157 X R  hk48 v1 v2 v3 v5 s0 0 I J h
def vc_X11_drip_B103  (Q : Int32 → MI → MJ → Prop) (k48 : Int32 → Int32 → Int32 → Int32 → Int32 → MI → MJ → Prop) (v1 : Int32) (v2 : Int32) (v3 : Int32) (v4 : Int32) (v5 : Int32) (s0 : Int32) (I : MI) (J : MJ) : Prop := ((s0 = 0 → vc_X11_drip_B156  Q k48 v1 v2 v3 v5 v4 I J) ∧ (¬ s0 = 0 → vp_in (8 + v1) 20 ∧ vc_X11_kindOf v1 I J (fun (r7 : Int32) (I5 : MI) (J6 : MJ) => vc_X11_strawOf v1 I5 J6 (fun (r10 : Int32) (I8 : MI) (J9 : MJ) => vp_in (4 + v1) 20 ∧ vc_X11_comesBy v5 (I 93 (Int32.toNatClampNeg (8 + v1))) r7 r10 (I8 93 (Int32.toNatClampNeg (4 + v1))) I8 J9 (fun (r14 : Int32) (I12 : MI) (J13 : MJ) => ((¬ r14 = v3 → vc_X11_drip_B156  Q k48 v1 v2 v3 v5 v4 I12 J13) ∧ (r14 = v3 → vc_X11_drip_B157  Q k48 v1 v2 v3 v5 v4 (1 <<< (v5 &&& 31)) I12 J13)))))))
set_option maxRecDepth 100000 in
set_option maxHeartbeats 4000000 in
theorem w_X11_drip_B103 {Z : RT}  (X : Cx Z cX11_drip 7 RX11 wsX11_drip rmX11_drip (some .int)) {Q : Int32 → MI → MJ → Prop} (R : RI Z Q)  {k48 : Int32 → Int32 → Int32 → Int32 → Int32 → MI → MJ → Prop} (hk48 : ∀ (v1 : Int32) (v2 : Int32) (v3 : Int32) (v4 : Int32) (v5 : Int32) (I : MI) (J : MJ), k48 v1 v2 v3 v4 v5 I J → GW Z 7 I J 48 [(0, .ref (ea (zE Z) 87)), (1, .int v1), (2, .int v2), (3, .int v3), (4, .int v4), (5, .int v5)] []) (v1 : Int32) (v2 : Int32) (v3 : Int32) (v4 : Int32) (v5 : Int32) (s0 : Int32) (I : MI) (J : MJ) (h : vc_X11_drip_B103  Q k48 v1 v2 v3 v4 v5 s0 I J) : GW Z 7 I J 103 [(0, .ref (ea (zE Z) 87)), (1, .int v1), (2, .int v2), (3, .int v3), (4, .int v4), (5, .int v5)] [.int s0] := by
  refine g_istore X (lv' := [(6, .int s0), (0, .ref (ea (zE Z) 87)), (1, .int v1), (2, .int v2), (3, .int v3), (4, .int v4), (5, .int v5)]) dX11_drip_103 (by decide) rfl ?_
  refine g_iload X dX11_drip_105 5 rfl ?_
  refine g_iload X dX11_drip_107 0 rfl ?_
  refine g_if_eq X (tgt := 156) dX11_drip_109 (by decide) (fun c3 => ?_) (fun c3 => ?_)
  · have h := h.1 c3
    refine GW.sub (lv' := [(0, .ref (ea (zE Z) 87)), (1, .int v1), (2, .int v2), (3, .int v3), (5, .int v5)]) [1, 2, 3, 4, 6] rfl ?_
    exact w_X11_drip_B156 X R  hk48 v1 v2 v3 v5 v4 I J h
  · have h := h.2 c3
    refine g_aload_n X dX11_drip_112 rfl 1 rfl ?_
    refine g_iload X dX11_drip_113 6 rfl ?_
    refine g_aload_n X dX11_drip_115 rfl 1 rfl ?_
    refine g_getr X (C := RX11) (T := TX11) (N := 39) (ci := 9) (k := 20) iX11_drip_X11 rfl kX11_drip_25 (Nat.le_of_ble_eq_true rfl) rfl (by decide) rfl rfl dX11_drip_116 ?_
    refine g_bipush X (v := 8) dX11_drip_119 (by decide) ?_
    refine g_iload_n X dX11_drip_121 rfl 2 rfl ?_
    refine g_iadd X dX11_drip_122 ?_
    obtain ⟨b4, h⟩ := h
    refine g_iald X (Nat.le_of_ble_eq_true rfl) rfl b4 dX11_drip_123 ?_
    refine g_aload_n X dX11_drip_124 rfl 1 rfl ?_
    refine g_iload_n X dX11_drip_125 rfl 2 rfl ?_
    refine g_callVI X (As := [.int v1]) (rest := [.int (I 93 (Int32.toNatClampNeg (8 + v1))), .int v5, .ref (ea (zE Z) 87), .int v4]) (T := TX11) (N := 39) (c_X11_kindOf (zl Z) (zE Z) v1) gX11_drip_X11_kindOf yo_X11_kindOf rfl ⟨Nat.le_of_ble_eq_true rfl, Nat.le_of_ble_eq_true rfl⟩ (Nat.le_of_ble_eq_true rfl) rfl rfl rfl dX11_drip_126 h (fun r7 I5 J6 h => ?_)
    refine g_aload_n X dX11_drip_129 rfl 1 rfl ?_
    refine g_iload_n X dX11_drip_130 rfl 2 rfl ?_
    refine g_callVI X (As := [.int v1]) (rest := [.int r7, .int (I 93 (Int32.toNatClampNeg (8 + v1))), .int v5, .ref (ea (zE Z) 87), .int v4]) (T := TX11) (N := 39) (c_X11_strawOf (zl Z) (zE Z) v1) gX11_drip_X11_strawOf yo_X11_strawOf rfl ⟨Nat.le_of_ble_eq_true rfl, Nat.le_of_ble_eq_true rfl⟩ (Nat.le_of_ble_eq_true rfl) rfl rfl rfl dX11_drip_131 h (fun r10 I8 J9 h => ?_)
    refine g_aload_n X dX11_drip_134 rfl 1 rfl ?_
    refine g_getr X (C := RX11) (T := TX11) (N := 39) (ci := 9) (k := 20) iX11_drip_X11 rfl kX11_drip_25 (Nat.le_of_ble_eq_true rfl) rfl (by decide) rfl rfl dX11_drip_135 ?_
    refine g_iconst X (v := 4) dX11_drip_138 (by decide) ?_
    refine g_iload_n X dX11_drip_139 rfl 2 rfl ?_
    refine g_iadd X dX11_drip_140 ?_
    obtain ⟨b11, h⟩ := h
    refine g_iald X (Nat.le_of_ble_eq_true rfl) rfl b11 dX11_drip_141 ?_
    refine g_callVI X (As := [.int v5, .int (I 93 (Int32.toNatClampNeg (8 + v1))), .int r7, .int r10, .int (I8 93 (Int32.toNatClampNeg (4 + v1)))]) (rest := [.int v4]) (T := TX11) (N := 39) (c_X11_comesBy (zl Z) (zE Z) v5 (I 93 (Int32.toNatClampNeg (8 + v1))) r7 r10 (I8 93 (Int32.toNatClampNeg (4 + v1)))) gX11_drip_X11_comesBy yo_X11_comesBy rfl ⟨Nat.le_of_ble_eq_true rfl, Nat.le_of_ble_eq_true rfl⟩ (Nat.le_of_ble_eq_true rfl) rfl rfl rfl dX11_drip_142 h (fun r14 I12 J13 h => ?_)
    refine g_iload_n X dX11_drip_145 rfl 4 rfl ?_
    refine g_icmp_ne X (tgt := 156) dX11_drip_146 (by decide) (fun c15 => ?_) (fun c15 => ?_)
    · have h := h.1 c15
      refine GW.sub (lv' := [(0, .ref (ea (zE Z) 87)), (1, .int v1), (2, .int v2), (3, .int v3), (5, .int v5)]) [1, 2, 3, 4, 6] rfl ?_
      exact w_X11_drip_B156 X R  hk48 v1 v2 v3 v5 v4 I12 J13 h
    · have h := h.2 c15
      refine g_iconst X (v := 1) dX11_drip_149 (by decide) ?_
      refine g_iload X dX11_drip_150 6 rfl ?_
      refine g_ishl X dX11_drip_152 ?_
      refine g_goto X (tgt := 157) dX11_drip_153 (by decide) ?_
      refine GW.sub (lv' := [(0, .ref (ea (zE Z) 87)), (1, .int v1), (2, .int v2), (3, .int v3), (5, .int v5)]) [1, 2, 3, 4, 6] rfl ?_
      exact w_X11_drip_B157 X R  hk48 v1 v2 v3 v5 v4 (1 <<< (v5 &&& 31)) I12 J13 h
def vc_X11_drip_B102  (Q : Int32 → MI → MJ → Prop) (k48 : Int32 → Int32 → Int32 → Int32 → Int32 → MI → MJ → Prop) (v1 : Int32) (v2 : Int32) (v3 : Int32) (v4 : Int32) (v5 : Int32) (I : MI) (J : MJ) : Prop := vc_X11_drip_B103  Q k48 v1 v2 v3 v4 v5 0 I J
set_option maxRecDepth 100000 in
set_option maxHeartbeats 4000000 in
theorem w_X11_drip_B102 {Z : RT}  (X : Cx Z cX11_drip 7 RX11 wsX11_drip rmX11_drip (some .int)) {Q : Int32 → MI → MJ → Prop} (R : RI Z Q)  {k48 : Int32 → Int32 → Int32 → Int32 → Int32 → MI → MJ → Prop} (hk48 : ∀ (v1 : Int32) (v2 : Int32) (v3 : Int32) (v4 : Int32) (v5 : Int32) (I : MI) (J : MJ), k48 v1 v2 v3 v4 v5 I J → GW Z 7 I J 48 [(0, .ref (ea (zE Z) 87)), (1, .int v1), (2, .int v2), (3, .int v3), (4, .int v4), (5, .int v5)] []) (v1 : Int32) (v2 : Int32) (v3 : Int32) (v4 : Int32) (v5 : Int32) (I : MI) (J : MJ) (h : vc_X11_drip_B102  Q k48 v1 v2 v3 v4 v5 I J) : GW Z 7 I J 102 [(0, .ref (ea (zE Z) 87)), (1, .int v1), (2, .int v2), (3, .int v3), (4, .int v4), (5, .int v5)] [] := by
  refine g_iconst X (v := 0) dX11_drip_102 (by decide) ?_
  refine GW.sub (lv' := [(0, .ref (ea (zE Z) 87)), (1, .int v1), (2, .int v2), (3, .int v3), (4, .int v4), (5, .int v5)]) [0, 1, 2, 3, 4, 5] rfl ?_
  exact w_X11_drip_B103 X R  hk48 v1 v2 v3 v4 v5 0 I J h
def vc_X11_drip_L48s  (Q : Int32 → MI → MJ → Prop)  (k48 : Int32 → Int32 → Int32 → Int32 → Int32 → MI → MJ → Prop) (v1 : Int32) (v2 : Int32) (v3 : Int32) (v4 : Int32) (v5 : Int32) (I : MI) (J : MJ) : Prop := (((I 87 2) ≤ v5 → Q v4 I J) ∧ (¬ (I 87 2) ≤ v5 → vp_in v1 20 ∧ vc_X11_endOf v5 (I 93 (Int32.toNatClampNeg v1)) I J (fun (r20 : Int32) (I18 : MI) (J19 : MJ) => ((¬ r20 = v2 → vc_X11_drip_B102  Q k48 v1 v2 v3 v4 v5 I18 J19) ∧ (r20 = v2 → vp_in (4 + v1) 20 ∧ vp_in ((4 * v5) + 2) 36 ∧ ((48 < ((I18 93 (Int32.toNatClampNeg (4 + v1))) + (I18 89 (Int32.toNatClampNeg ((4 * v5) + 2)))) → vc_X11_drip_B102  Q k48 v1 v2 v3 v4 v5 I18 J19) ∧ (¬ 48 < ((I18 93 (Int32.toNatClampNeg (4 + v1))) + (I18 89 (Int32.toNatClampNeg ((4 * v5) + 2)))) → vc_X11_drip_B103  Q k48 v1 v2 v3 v4 v5 1 I18 J19)))))))
def vc_X11_drip_L48  (Q : Int32 → MI → MJ → Prop)  (n : Nat) : Int32 → Int32 → Int32 → Int32 → Int32 → MI → MJ → Prop := Nat.rec (fun _ _ _ _ _ _ _ => False) (fun _ ih => vc_X11_drip_L48s  Q  ih) n
set_option maxRecDepth 100000 in
set_option maxHeartbeats 4000000 in
theorem w_X11_drip_L48s {Z : RT}  (X : Cx Z cX11_drip 7 RX11 wsX11_drip rmX11_drip (some .int)) {Q : Int32 → MI → MJ → Prop} (R : RI Z Q)    {k48 : Int32 → Int32 → Int32 → Int32 → Int32 → MI → MJ → Prop} (hk48 : ∀ (v1 : Int32) (v2 : Int32) (v3 : Int32) (v4 : Int32) (v5 : Int32) (I : MI) (J : MJ), k48 v1 v2 v3 v4 v5 I J → GW Z 7 I J 48 [(0, .ref (ea (zE Z) 87)), (1, .int v1), (2, .int v2), (3, .int v3), (4, .int v4), (5, .int v5)] []) (v1 : Int32) (v2 : Int32) (v3 : Int32) (v4 : Int32) (v5 : Int32) (I : MI) (J : MJ) (h : vc_X11_drip_L48s  Q  k48 v1 v2 v3 v4 v5 I J) : GW Z 7 I J 48 [(0, .ref (ea (zE Z) 87)), (1, .int v1), (2, .int v2), (3, .int v3), (4, .int v4), (5, .int v5)] [] := by
  refine g_iload X dX11_drip_48 5 rfl ?_
  refine g_aload_n X dX11_drip_50 rfl 0 rfl ?_
  refine g_geti X (C := RX11) (T := TX11) (N := 39) (ci := 9) (k := 2) iX11_drip_X11 rfl kX11_drip_98 (Nat.le_of_ble_eq_true rfl) rfl (by decide) rfl rfl dX11_drip_51 ?_
  refine g_icmp_ge X (tgt := 166) dX11_drip_54 (by decide) (fun c16 => ?_) (fun c16 => ?_)
  · have h := h.1 c16
    refine g_iload X dX11_drip_166 4 rfl ?_
    exact g_iret X R dX11_drip_168 h
  · have h := h.2 c16
    refine g_aload_n X dX11_drip_57 rfl 0 rfl ?_
    refine g_iload X dX11_drip_58 5 rfl ?_
    refine g_aload_n X dX11_drip_60 rfl 0 rfl ?_
    refine g_getr X (C := RX11) (T := TX11) (N := 39) (ci := 9) (k := 20) iX11_drip_X11 rfl kX11_drip_25 (Nat.le_of_ble_eq_true rfl) rfl (by decide) rfl rfl dX11_drip_61 ?_
    refine g_iload_n X dX11_drip_64 rfl 1 rfl ?_
    obtain ⟨b17, h⟩ := h
    refine g_iald X (Nat.le_of_ble_eq_true rfl) rfl b17 dX11_drip_65 ?_
    refine g_callVI X (As := [.int v5, .int (I 93 (Int32.toNatClampNeg v1))]) (rest := []) (T := TX11) (N := 39) (c_X11_endOf (zl Z) (zE Z) v5 (I 93 (Int32.toNatClampNeg v1))) gX11_drip_X11_endOf yo_X11_endOf rfl ⟨Nat.le_of_ble_eq_true rfl, Nat.le_of_ble_eq_true rfl⟩ (Nat.le_of_ble_eq_true rfl) rfl rfl rfl dX11_drip_66 h (fun r20 I18 J19 h => ?_)
    refine g_iload_n X dX11_drip_69 rfl 2 rfl ?_
    refine g_icmp_ne X (tgt := 102) dX11_drip_70 (by decide) (fun c21 => ?_) (fun c21 => ?_)
    · have h := h.1 c21
      refine GW.sub (lv' := [(0, .ref (ea (zE Z) 87)), (1, .int v1), (2, .int v2), (3, .int v3), (4, .int v4), (5, .int v5)]) [0, 1, 2, 3, 4, 5] rfl ?_
      exact w_X11_drip_B102 X R  hk48 v1 v2 v3 v4 v5 I18 J19 h
    · have h := h.2 c21
      refine g_aload_n X dX11_drip_73 rfl 0 rfl ?_
      refine g_getr X (C := RX11) (T := TX11) (N := 39) (ci := 9) (k := 20) iX11_drip_X11 rfl kX11_drip_25 (Nat.le_of_ble_eq_true rfl) rfl (by decide) rfl rfl dX11_drip_74 ?_
      refine g_iconst X (v := 4) dX11_drip_77 (by decide) ?_
      refine g_iload_n X dX11_drip_78 rfl 1 rfl ?_
      refine g_iadd X dX11_drip_79 ?_
      obtain ⟨b22, h⟩ := h
      refine g_iald X (Nat.le_of_ble_eq_true rfl) rfl b22 dX11_drip_80 ?_
      refine g_aload_n X dX11_drip_81 rfl 0 rfl ?_
      refine g_getr X (C := RX11) (T := TX11) (N := 39) (ci := 9) (k := 3) iX11_drip_X11 rfl kX11_drip_13 (Nat.le_of_ble_eq_true rfl) rfl (by decide) rfl rfl dX11_drip_82 ?_
      refine g_iconst X (v := 4) dX11_drip_85 (by decide) ?_
      refine g_iload X dX11_drip_86 5 rfl ?_
      refine g_imul X dX11_drip_88 ?_
      refine g_iconst X (v := 2) dX11_drip_89 (by decide) ?_
      refine g_iadd X dX11_drip_90 ?_
      obtain ⟨b23, h⟩ := h
      refine g_iald X (Nat.le_of_ble_eq_true rfl) rfl b23 dX11_drip_91 ?_
      refine g_iadd X dX11_drip_92 ?_
      refine g_bipush X (v := 48) dX11_drip_93 (by decide) ?_
      refine g_icmp_gt X (tgt := 102) dX11_drip_95 (by decide) (fun c24 => ?_) (fun c24 => ?_)
      · have h := h.1 c24
        refine GW.sub (lv' := [(0, .ref (ea (zE Z) 87)), (1, .int v1), (2, .int v2), (3, .int v3), (4, .int v4), (5, .int v5)]) [0, 1, 2, 3, 4, 5] rfl ?_
        exact w_X11_drip_B102 X R  hk48 v1 v2 v3 v4 v5 I18 J19 h
      · have h := h.2 c24
        refine g_iconst X (v := 1) dX11_drip_98 (by decide) ?_
        refine g_goto X (tgt := 103) dX11_drip_99 (by decide) ?_
        refine GW.sub (lv' := [(0, .ref (ea (zE Z) 87)), (1, .int v1), (2, .int v2), (3, .int v3), (4, .int v4), (5, .int v5)]) [0, 1, 2, 3, 4, 5] rfl ?_
        exact w_X11_drip_B103 X R  hk48 v1 v2 v3 v4 v5 1 I18 J19 h
theorem w_X11_drip_L48 {Z : RT}  (X : Cx Z cX11_drip 7 RX11 wsX11_drip rmX11_drip (some .int)) {Q : Int32 → MI → MJ → Prop} (R : RI Z Q)    : ∀ (n : Nat) (v1 : Int32) (v2 : Int32) (v3 : Int32) (v4 : Int32) (v5 : Int32) (I : MI) (J : MJ) (h : vc_X11_drip_L48  Q  n v1 v2 v3 v4 v5 I J), GW Z 7 I J 48 [(0, .ref (ea (zE Z) 87)), (1, .int v1), (2, .int v2), (3, .int v3), (4, .int v4), (5, .int v5)] [] := by
  intro n
  induction n with
  | zero => intro v1 v2 v3 v4 v5 I J h; exact h.elim
  | succ n ih => intro v1 v2 v3 v4 v5 I J h; exact w_X11_drip_L48s X R   ih v1 v2 v3 v4 v5 I J h
def vc_X11_drip (p1 : Int32) (p2 : Int32) (p3 : Int32) (I : MI) (J : MJ) (Q : Int32 → MI → MJ → Prop) : Prop := vc_X11_isCart p1 I J (fun (r27 : Int32) (I25 : MI) (J26 : MJ) => ((r27 = 0 → Q (-2) I25 J26) ∧ (¬ r27 = 0 → vc_X11_isPlace p2 I25 J26 (fun (r31 : Int32) (I29 : MI) (J30 : MJ) => ((r31 = 0 → Q (-2) I29 J30) ∧ (¬ r31 = 0 → vp_in p1 20 ∧ ((¬ (I29 93 (Int32.toNatClampNeg p1)) = p2 → vc_X11_in p3 0 99 I29 J30 (fun (r37 : Int32) (I35 : MI) (J36 : MJ) => ((¬ r37 = 0 → (∃ n, vc_X11_drip_L48  Q  n p1 p2 p3 0 0 I35 J36)) ∧ (r37 = 0 → Q (-3) I35 J36)))) ∧ ((I29 93 (Int32.toNatClampNeg p1)) = p2 → Q (-2) I29 J30))))))))
set_option maxRecDepth 100000 in
set_option maxHeartbeats 4000000 in
theorem c_X11_drip (l : Launch) (E : ET)  (p1 : Int32) (p2 : Int32) (p3 : Int32) : CI l yX11_drip wsX11_drip rmX11_drip E [.ref (ea E 87), .int p1, .int p2, .int p3] (vc_X11_drip p1 p2 p3) := by
  refine CI.of (cc := cX11_drip) (maxL := 7) (own := RX11) (by decide) rfl rfl (Nat.le_of_ble_eq_true rfl) ?_
  intro Z I J Q hE hl X R h
  subst hE
  subst hl
  show GW Z 7 I J 0 [(0, .ref (ea (zE Z) 87)), (1, .int p1), (2, .int p2), (3, .int p3)] []
  refine g_aload_n X dX11_drip_0 rfl 0 rfl ?_
  refine g_iload_n X dX11_drip_1 rfl 1 rfl ?_
  refine g_callVI X (As := [.int p1]) (rest := []) (T := TX11) (N := 39) (c_X11_isCart (zl Z) (zE Z) p1) gX11_drip_X11_isCart yo_X11_isCart rfl ⟨Nat.le_of_ble_eq_true rfl, Nat.le_of_ble_eq_true rfl⟩ (Nat.le_of_ble_eq_true rfl) rfl rfl rfl dX11_drip_2 h (fun r27 I25 J26 h => ?_)
  refine g_if_eq X (tgt := 26) dX11_drip_5 (by decide) (fun c28 => ?_) (fun c28 => ?_)
  · have h := h.1 c28
    refine g_bipush X (v := (-2)) dX11_drip_26 (by decide) ?_
    exact g_iret X R dX11_drip_28 h
  · have h := h.2 c28
    refine g_aload_n X dX11_drip_8 rfl 0 rfl ?_
    refine g_iload_n X dX11_drip_9 rfl 2 rfl ?_
    refine g_callVI X (As := [.int p2]) (rest := []) (T := TX11) (N := 39) (c_X11_isPlace (zl Z) (zE Z) p2) gX11_drip_X11_isPlace yo_X11_isPlace rfl ⟨Nat.le_of_ble_eq_true rfl, Nat.le_of_ble_eq_true rfl⟩ (Nat.le_of_ble_eq_true rfl) rfl rfl rfl dX11_drip_10 h (fun r31 I29 J30 h => ?_)
    refine g_if_eq X (tgt := 26) dX11_drip_13 (by decide) (fun c32 => ?_) (fun c32 => ?_)
    · have h := h.1 c32
      refine g_bipush X (v := (-2)) dX11_drip_26 (by decide) ?_
      exact g_iret X R dX11_drip_28 h
    · have h := h.2 c32
      refine g_aload_n X dX11_drip_16 rfl 0 rfl ?_
      refine g_getr X (C := RX11) (T := TX11) (N := 39) (ci := 9) (k := 20) iX11_drip_X11 rfl kX11_drip_25 (Nat.le_of_ble_eq_true rfl) rfl (by decide) rfl rfl dX11_drip_17 ?_
      refine g_iload_n X dX11_drip_20 rfl 1 rfl ?_
      obtain ⟨b33, h⟩ := h
      refine g_iald X (Nat.le_of_ble_eq_true rfl) rfl b33 dX11_drip_21 ?_
      refine g_iload_n X dX11_drip_22 rfl 2 rfl ?_
      refine g_icmp_ne X (tgt := 29) dX11_drip_23 (by decide) (fun c34 => ?_) (fun c34 => ?_)
      · have h := h.1 c34
        refine g_iload_n X dX11_drip_29 rfl 3 rfl ?_
        refine g_iconst X (v := 0) dX11_drip_30 (by decide) ?_
        refine g_bipush X (v := 99) dX11_drip_31 (by decide) ?_
        refine g_callSI X (As := [.int p3, .int 0, .int 99]) (rest := []) (c_X11_in (zl Z) (zE Z) p3 0 99) gX11_drip_X11_in yo_X11_in.2 rfl ⟨Nat.le_of_ble_eq_true rfl, Nat.le_of_ble_eq_true rfl⟩ rfl dX11_drip_33 h (fun r37 I35 J36 h => ?_)
        refine g_if_ne X (tgt := 42) dX11_drip_36 (by decide) (fun c38 => ?_) (fun c38 => ?_)
        · have h := h.1 c38
          refine g_iconst X (v := 0) dX11_drip_42 (by decide) ?_
          refine g_istore X (lv' := [(4, .int 0), (0, .ref (ea (zE Z) 87)), (1, .int p1), (2, .int p2), (3, .int p3)]) dX11_drip_43 (by decide) rfl ?_
          refine g_iconst X (v := 0) dX11_drip_45 (by decide) ?_
          refine g_istore X (lv' := [(5, .int 0), (4, .int 0), (0, .ref (ea (zE Z) 87)), (1, .int p1), (2, .int p2), (3, .int p3)]) dX11_drip_46 (by decide) rfl ?_
          refine GW.sub (lv' := [(0, .ref (ea (zE Z) 87)), (1, .int p1), (2, .int p2), (3, .int p3), (4, .int 0), (5, .int 0)]) [2, 3, 4, 5, 1, 0] rfl ?_
          obtain ⟨n, h⟩ := h
          exact w_X11_drip_L48 X R   n p1 p2 p3 0 0 I35 J36 h
        · have h := h.2 c38
          refine g_bipush X (v := (-3)) dX11_drip_39 (by decide) ?_
          exact g_iret X R dX11_drip_41 h
      · have h := h.2 c34
        refine g_bipush X (v := (-2)) dX11_drip_26 (by decide) ?_
        exact g_iret X R dX11_drip_28 h

/-! X11_seal.seal(IIII)J -/
def rmX11_seal : Room := { frames := 1, cells := 0, slots := 0, locals := 22 }
theorem yo_X11_seal : yX11_seal.cls = RX11 ∧ yX11_seal.cls ≠ "java/lang/invoke/MethodHandle" ∧ yX11_seal.cls ≠ "java/lang/invoke/VarHandle" ∧ (parseMethodDescriptor yX11_seal.desc).map (fun d => d.parameters.length) = some 4 := by decide +kernel
theorem kX11_seal_72 : Cond.fieldLink RX11 72 "SnowCourseModel" (TX11 38).2.1 (TX11 38).2.2.1 ∈ wsX11_seal := by decide +kernel
theorem iX11_seal_X11 : ∀ w ∈ u_ws RX11 TX11 39, w ∈ wsX11_seal := by decide +kernel
theorem kX11_seal_c293 : Cond.constantLong RX11 293 (10) ∈ wsX11_seal := by decide +kernel
theorem kX11_seal_c289 : Cond.constantLong RX11 289 (5) ∈ wsX11_seal := by decide +kernel
theorem kX11_seal_c291 : Cond.constantLong RX11 291 (3) ∈ wsX11_seal := by decide +kernel
theorem kX11_seal_c130 : Cond.constantLong RX11 130 (-3) ∈ wsX11_seal := by decide +kernel
def vc_X11_seal_B180  (Q : Int64 → MI → MJ → Prop) (k74 : Int32 → Int32 → Int32 → Int32 → Int64 → Int32 → MI → MJ → Prop) (k84 : Int32 → Int32 → Int32 → Int32 → Int64 → Int32 → Int32 → MI → MJ → Prop) (v1 : Int32) (v2 : Int32) (v3 : Int32) (v4 : Int32) (v5 : Int64) (v7 : Int32) (v8 : Int32) (v11 : Int64) (s0 : Int64) (I : MI) (J : MJ) : Prop := vp_in v8 100 ∧ ∀ J2 : MJ, J2 = wJ J 108 (Int32.toNatClampNeg v8) (((Int32.toInt64 v3) * v11) + ((Int32.toInt64 (10 - v3)) * s0)) → ∀ x3 : Int32, x3 = v8 + (-1) → k84 v1 v2 v3 v4 v5 v7 x3 I J2
set_option maxRecDepth 100000 in
set_option maxHeartbeats 4000000 in
theorem w_X11_seal_B180 {Z : RT}  (X : Cx Z cX11_seal 15 RX11 wsX11_seal rmX11_seal (some .long)) {Q : Int64 → MI → MJ → Prop} (R : RL_ Z Q)  {k74 : Int32 → Int32 → Int32 → Int32 → Int64 → Int32 → MI → MJ → Prop} {k84 : Int32 → Int32 → Int32 → Int32 → Int64 → Int32 → Int32 → MI → MJ → Prop} (hk74 : ∀ (v1 : Int32) (v2 : Int32) (v3 : Int32) (v4 : Int32) (v5 : Int64) (v7 : Int32) (I : MI) (J : MJ), k74 v1 v2 v3 v4 v5 v7 I J → GW Z 15 I J 74 [(0, .ref (ea (zE Z) 87)), (1, .int v1), (2, .int v2), (3, .int v3), (4, .int v4), (5, .long v5), (7, .int v7)] []) (hk84 : ∀ (v1 : Int32) (v2 : Int32) (v3 : Int32) (v4 : Int32) (v5 : Int64) (v7 : Int32) (v8 : Int32) (I : MI) (J : MJ), k84 v1 v2 v3 v4 v5 v7 v8 I J → GW Z 15 I J 84 [(0, .ref (ea (zE Z) 87)), (1, .int v1), (2, .int v2), (3, .int v3), (4, .int v4), (5, .long v5), (7, .int v7), (8, .int v8)] []) (v1 : Int32) (v2 : Int32) (v3 : Int32) (v4 : Int32) (v5 : Int64) (v7 : Int32) (v8 : Int32) (v11 : Int64) (s0 : Int64) (I : MI) (J : MJ) (h : vc_X11_seal_B180  Q k74 k84 v1 v2 v3 v4 v5 v7 v8 v11 s0 I J) : GW Z 15 I J 180 [(0, .ref (ea (zE Z) 87)), (1, .int v1), (2, .int v2), (3, .int v3), (4, .int v4), (5, .long v5), (7, .int v7), (8, .int v8), (11, .long v11)] [.long s0] := by
  refine g_lstore X (lv' := [(13, .long s0), (0, .ref (ea (zE Z) 87)), (1, .int v1), (2, .int v2), (3, .int v3), (4, .int v4), (5, .long v5), (7, .int v7), (8, .int v8), (11, .long v11)]) dX11_seal_180 (by decide) rfl ?_
  refine g_aload_n X dX11_seal_182 rfl 1 rfl ?_
  refine g_getr X (C := RX11) (T := TX11) (N := 39) (ci := 9) (k := 38) iX11_seal_X11 rfl kX11_seal_72 (Nat.le_of_ble_eq_true rfl) rfl (by decide) rfl rfl dX11_seal_183 ?_
  refine g_iload X dX11_seal_186 8 rfl ?_
  refine g_iload_n X dX11_seal_188 rfl 4 rfl ?_
  refine g_i2l X dX11_seal_189 ?_
  refine g_lload X dX11_seal_190 9 rfl ?_
  refine g_lmul X dX11_seal_192 ?_
  refine g_bipush X (v := 10) dX11_seal_193 (by decide) ?_
  refine g_iload_n X dX11_seal_195 rfl 4 rfl ?_
  refine g_isub X dX11_seal_196 ?_
  refine g_i2l X dX11_seal_197 ?_
  refine g_lload X dX11_seal_198 0 rfl ?_
  refine g_lmul X dX11_seal_200 ?_
  refine g_ladd X dX11_seal_201 ?_
  obtain ⟨b1, h⟩ := h
  refine g_last X (Nat.le_of_ble_eq_true rfl) rfl b1 dX11_seal_202 ?_
  refine g_nmJ (fun J2 eJ2 => ?_)
  have h := h J2 eJ2
  obtain ⟨x3, ex3⟩ : ∃ y : Int32, y = v8 + (-1) := ⟨_, rfl⟩
  have h := h x3 ex3
  refine g_iinc X (q := 8) (v := x3) (lv' := [(8, .int x3), (13, .long s0), (0, .ref (ea (zE Z) 87)), (1, .int v1), (2, .int v2), (3, .int v3), (4, .int v4), (5, .long v5), (7, .int v7), (11, .long v11)]) dX11_seal_203 rfl (by rw [ex3]; rfl) (by decide) rfl ?_
  refine g_goto X (tgt := 84) dX11_seal_206 (by decide) ?_
  refine GW.sub (lv' := [(0, .ref (ea (zE Z) 87)), (1, .int v1), (2, .int v2), (3, .int v3), (4, .int v4), (5, .long v5), (7, .int v7), (8, .int x3)]) [2, 3, 4, 5, 6, 7, 8, 0] rfl ?_
  exact hk84 v1 v2 v3 v4 v5 v7 x3 I J2 h
def vc_X11_seal_B178  (Q : Int64 → MI → MJ → Prop) (k74 : Int32 → Int32 → Int32 → Int32 → Int64 → Int32 → MI → MJ → Prop) (k84 : Int32 → Int32 → Int32 → Int32 → Int64 → Int32 → Int32 → MI → MJ → Prop) (v1 : Int32) (v2 : Int32) (v3 : Int32) (v4 : Int32) (v5 : Int64) (v7 : Int32) (v8 : Int32) (v11 : Int64) (v13 : Int64) (I : MI) (J : MJ) : Prop := vc_X11_seal_B180  Q k74 k84 v1 v2 v3 v4 v5 v7 v8 v11 v13 I J
set_option maxRecDepth 100000 in
set_option maxHeartbeats 4000000 in
theorem w_X11_seal_B178 {Z : RT}  (X : Cx Z cX11_seal 15 RX11 wsX11_seal rmX11_seal (some .long)) {Q : Int64 → MI → MJ → Prop} (R : RL_ Z Q)  {k74 : Int32 → Int32 → Int32 → Int32 → Int64 → Int32 → MI → MJ → Prop} {k84 : Int32 → Int32 → Int32 → Int32 → Int64 → Int32 → Int32 → MI → MJ → Prop} (hk74 : ∀ (v1 : Int32) (v2 : Int32) (v3 : Int32) (v4 : Int32) (v5 : Int64) (v7 : Int32) (I : MI) (J : MJ), k74 v1 v2 v3 v4 v5 v7 I J → GW Z 15 I J 74 [(0, .ref (ea (zE Z) 87)), (1, .int v1), (2, .int v2), (3, .int v3), (4, .int v4), (5, .long v5), (7, .int v7)] []) (hk84 : ∀ (v1 : Int32) (v2 : Int32) (v3 : Int32) (v4 : Int32) (v5 : Int64) (v7 : Int32) (v8 : Int32) (I : MI) (J : MJ), k84 v1 v2 v3 v4 v5 v7 v8 I J → GW Z 15 I J 84 [(0, .ref (ea (zE Z) 87)), (1, .int v1), (2, .int v2), (3, .int v3), (4, .int v4), (5, .long v5), (7, .int v7), (8, .int v8)] []) (v1 : Int32) (v2 : Int32) (v3 : Int32) (v4 : Int32) (v5 : Int64) (v7 : Int32) (v8 : Int32) (v11 : Int64) (v13 : Int64) (I : MI) (J : MJ) (h : vc_X11_seal_B178  Q k74 k84 v1 v2 v3 v4 v5 v7 v8 v11 v13 I J) : GW Z 15 I J 178 [(0, .ref (ea (zE Z) 87)), (1, .int v1), (2, .int v2), (3, .int v3), (4, .int v4), (5, .long v5), (7, .int v7), (8, .int v8), (11, .long v11), (13, .long v13)] [] := by
  refine g_lload X dX11_seal_178 9 rfl ?_
  refine GW.sub (lv' := [(0, .ref (ea (zE Z) 87)), (1, .int v1), (2, .int v2), (3, .int v3), (4, .int v4), (5, .long v5), (7, .int v7), (8, .int v8), (11, .long v11)]) [0, 1, 2, 3, 4, 5, 6, 7, 8] rfl ?_
  exact w_X11_seal_B180 X R  hk74 hk84 v1 v2 v3 v4 v5 v7 v8 v11 v13 I J h
def vc_X11_seal_B148  (Q : Int64 → MI → MJ → Prop) (k74 : Int32 → Int32 → Int32 → Int32 → Int64 → Int32 → MI → MJ → Prop) (k84 : Int32 → Int32 → Int32 → Int32 → Int64 → Int32 → Int32 → MI → MJ → Prop) (v1 : Int32) (v2 : Int32) (v3 : Int32) (v4 : Int32) (v5 : Int64) (v7 : Int32) (v8 : Int32) (v13 : Int64) (s0 : Int64) (I : MI) (J : MJ) : Prop := ((v7 ≤ 0 → vc_X11_seal_B178  Q k74 k84 v1 v2 v3 v4 v5 v7 v8 s0 v13 I J) ∧ (¬ v7 ≤ 0 → vp_in v8 100 ∧ (((lg_cmp (J 108 (Int32.toNatClampNeg v8)) v13) ≤ 0 → vc_X11_seal_B178  Q k74 k84 v1 v2 v3 v4 v5 v7 v8 s0 v13 I J) ∧ (¬ (lg_cmp (J 108 (Int32.toNatClampNeg v8)) v13) ≤ 0 → vp_in v8 100 ∧ vc_X11_seal_B180  Q k74 k84 v1 v2 v3 v4 v5 v7 v8 s0 (J 108 (Int32.toNatClampNeg v8)) I J))))
set_option maxRecDepth 100000 in
set_option maxHeartbeats 4000000 in
theorem w_X11_seal_B148 {Z : RT}  (X : Cx Z cX11_seal 15 RX11 wsX11_seal rmX11_seal (some .long)) {Q : Int64 → MI → MJ → Prop} (R : RL_ Z Q)  {k74 : Int32 → Int32 → Int32 → Int32 → Int64 → Int32 → MI → MJ → Prop} {k84 : Int32 → Int32 → Int32 → Int32 → Int64 → Int32 → Int32 → MI → MJ → Prop} (hk74 : ∀ (v1 : Int32) (v2 : Int32) (v3 : Int32) (v4 : Int32) (v5 : Int64) (v7 : Int32) (I : MI) (J : MJ), k74 v1 v2 v3 v4 v5 v7 I J → GW Z 15 I J 74 [(0, .ref (ea (zE Z) 87)), (1, .int v1), (2, .int v2), (3, .int v3), (4, .int v4), (5, .long v5), (7, .int v7)] []) (hk84 : ∀ (v1 : Int32) (v2 : Int32) (v3 : Int32) (v4 : Int32) (v5 : Int64) (v7 : Int32) (v8 : Int32) (I : MI) (J : MJ), k84 v1 v2 v3 v4 v5 v7 v8 I J → GW Z 15 I J 84 [(0, .ref (ea (zE Z) 87)), (1, .int v1), (2, .int v2), (3, .int v3), (4, .int v4), (5, .long v5), (7, .int v7), (8, .int v8)] []) (v1 : Int32) (v2 : Int32) (v3 : Int32) (v4 : Int32) (v5 : Int64) (v7 : Int32) (v8 : Int32) (v13 : Int64) (s0 : Int64) (I : MI) (J : MJ) (h : vc_X11_seal_B148  Q k74 k84 v1 v2 v3 v4 v5 v7 v8 v13 s0 I J) : GW Z 15 I J 148 [(0, .ref (ea (zE Z) 87)), (1, .int v1), (2, .int v2), (3, .int v3), (4, .int v4), (5, .long v5), (7, .int v7), (8, .int v8), (13, .long v13)] [.long s0] := by
  refine g_lstore X (lv' := [(11, .long s0), (0, .ref (ea (zE Z) 87)), (1, .int v1), (2, .int v2), (3, .int v3), (4, .int v4), (5, .long v5), (7, .int v7), (8, .int v8), (13, .long v13)]) dX11_seal_148 (by decide) rfl ?_
  refine g_iload X dX11_seal_150 7 rfl ?_
  refine g_if_le X (tgt := 178) dX11_seal_152 (by decide) (fun c4 => ?_) (fun c4 => ?_)
  · have h := h.1 c4
    refine GW.sub (lv' := [(0, .ref (ea (zE Z) 87)), (1, .int v1), (2, .int v2), (3, .int v3), (4, .int v4), (5, .long v5), (7, .int v7), (8, .int v8), (11, .long s0), (13, .long v13)]) [1, 2, 3, 4, 5, 6, 7, 8, 0, 9] rfl ?_
    exact w_X11_seal_B178 X R  hk74 hk84 v1 v2 v3 v4 v5 v7 v8 s0 v13 I J h
  · have h := h.2 c4
    refine g_aload_n X dX11_seal_155 rfl 1 rfl ?_
    refine g_getr X (C := RX11) (T := TX11) (N := 39) (ci := 9) (k := 38) iX11_seal_X11 rfl kX11_seal_72 (Nat.le_of_ble_eq_true rfl) rfl (by decide) rfl rfl dX11_seal_156 ?_
    refine g_iload X dX11_seal_159 8 rfl ?_
    obtain ⟨b5, h⟩ := h
    refine g_lald X (Nat.le_of_ble_eq_true rfl) rfl b5 dX11_seal_161 ?_
    refine g_lload X dX11_seal_162 9 rfl ?_
    refine g_lcmp X dX11_seal_164 ?_
    refine g_if_le X (tgt := 178) dX11_seal_165 (by decide) (fun c6 => ?_) (fun c6 => ?_)
    · have h := h.1 c6
      refine GW.sub (lv' := [(0, .ref (ea (zE Z) 87)), (1, .int v1), (2, .int v2), (3, .int v3), (4, .int v4), (5, .long v5), (7, .int v7), (8, .int v8), (11, .long s0), (13, .long v13)]) [1, 2, 3, 4, 5, 6, 7, 8, 0, 9] rfl ?_
      exact w_X11_seal_B178 X R  hk74 hk84 v1 v2 v3 v4 v5 v7 v8 s0 v13 I J h
    · have h := h.2 c6
      refine g_aload_n X dX11_seal_168 rfl 1 rfl ?_
      refine g_getr X (C := RX11) (T := TX11) (N := 39) (ci := 9) (k := 38) iX11_seal_X11 rfl kX11_seal_72 (Nat.le_of_ble_eq_true rfl) rfl (by decide) rfl rfl dX11_seal_169 ?_
      refine g_iload X dX11_seal_172 8 rfl ?_
      obtain ⟨b7, h⟩ := h
      refine g_lald X (Nat.le_of_ble_eq_true rfl) rfl b7 dX11_seal_174 ?_
      refine g_goto X (tgt := 180) dX11_seal_175 (by decide) ?_
      refine GW.sub (lv' := [(0, .ref (ea (zE Z) 87)), (1, .int v1), (2, .int v2), (3, .int v3), (4, .int v4), (5, .long v5), (7, .int v7), (8, .int v8), (11, .long s0)]) [1, 2, 3, 4, 5, 6, 7, 8, 0] rfl ?_
      exact w_X11_seal_B180 X R  hk74 hk84 v1 v2 v3 v4 v5 v7 v8 s0 (J 108 (Int32.toNatClampNeg v8)) I J h
def vc_X11_seal_B146  (Q : Int64 → MI → MJ → Prop) (k74 : Int32 → Int32 → Int32 → Int32 → Int64 → Int32 → MI → MJ → Prop) (k84 : Int32 → Int32 → Int32 → Int32 → Int64 → Int32 → Int32 → MI → MJ → Prop) (v1 : Int32) (v2 : Int32) (v3 : Int32) (v4 : Int32) (v5 : Int64) (v7 : Int32) (v8 : Int32) (v11 : Int64) (v13 : Int64) (I : MI) (J : MJ) : Prop := vc_X11_seal_B148  Q k74 k84 v1 v2 v3 v4 v5 v7 v8 v13 v11 I J
set_option maxRecDepth 100000 in
set_option maxHeartbeats 4000000 in
theorem w_X11_seal_B146 {Z : RT}  (X : Cx Z cX11_seal 15 RX11 wsX11_seal rmX11_seal (some .long)) {Q : Int64 → MI → MJ → Prop} (R : RL_ Z Q)  {k74 : Int32 → Int32 → Int32 → Int32 → Int64 → Int32 → MI → MJ → Prop} {k84 : Int32 → Int32 → Int32 → Int32 → Int64 → Int32 → Int32 → MI → MJ → Prop} (hk74 : ∀ (v1 : Int32) (v2 : Int32) (v3 : Int32) (v4 : Int32) (v5 : Int64) (v7 : Int32) (I : MI) (J : MJ), k74 v1 v2 v3 v4 v5 v7 I J → GW Z 15 I J 74 [(0, .ref (ea (zE Z) 87)), (1, .int v1), (2, .int v2), (3, .int v3), (4, .int v4), (5, .long v5), (7, .int v7)] []) (hk84 : ∀ (v1 : Int32) (v2 : Int32) (v3 : Int32) (v4 : Int32) (v5 : Int64) (v7 : Int32) (v8 : Int32) (I : MI) (J : MJ), k84 v1 v2 v3 v4 v5 v7 v8 I J → GW Z 15 I J 84 [(0, .ref (ea (zE Z) 87)), (1, .int v1), (2, .int v2), (3, .int v3), (4, .int v4), (5, .long v5), (7, .int v7), (8, .int v8)] []) (v1 : Int32) (v2 : Int32) (v3 : Int32) (v4 : Int32) (v5 : Int64) (v7 : Int32) (v8 : Int32) (v11 : Int64) (v13 : Int64) (I : MI) (J : MJ) (h : vc_X11_seal_B146  Q k74 k84 v1 v2 v3 v4 v5 v7 v8 v11 v13 I J) : GW Z 15 I J 146 [(0, .ref (ea (zE Z) 87)), (1, .int v1), (2, .int v2), (3, .int v3), (4, .int v4), (5, .long v5), (7, .int v7), (8, .int v8), (11, .long v11), (13, .long v13)] [] := by
  refine g_lload X dX11_seal_146 8 rfl ?_
  refine GW.sub (lv' := [(0, .ref (ea (zE Z) 87)), (1, .int v1), (2, .int v2), (3, .int v3), (4, .int v4), (5, .long v5), (7, .int v7), (8, .int v8), (13, .long v13)]) [0, 1, 2, 3, 4, 5, 6, 7, 9] rfl ?_
  exact w_X11_seal_B148 X R  hk74 hk84 v1 v2 v3 v4 v5 v7 v8 v13 v11 I J h
def vc_X11_seal_L84s  (Q : Int64 → MI → MJ → Prop) (k74 : Int32 → Int32 → Int32 → Int32 → Int64 → Int32 → MI → MJ → Prop) (k84 : Int32 → Int32 → Int32 → Int32 → Int64 → Int32 → Int32 → MI → MJ → Prop) (v1 : Int32) (v2 : Int32) (v3 : Int32) (v4 : Int32) (v5 : Int64) (v7 : Int32) (v8 : Int32) (I : MI) (J : MJ) : Prop := ((v8 < 0 → ∀ x9 : Int64, x9 = v5 * 10 → ∀ x10 : Int32, x10 = v7 + 1 → k74 v1 v2 v3 v4 x9 x10 I J) ∧ (¬ v8 < 0 → vc_X11_root v8 I J (fun (r13 : Int32) (I11 : MI) (J12 : MJ) => vp_in (v8 - r13) 100 ∧ ∀ x15 : Int64, x15 = J12 108 (Int32.toNatClampNeg (v8 - r13)) → ∀ x16 : Int64, x16 = (5 * (Int32.toInt64 v8)) * v5 → ∀ x17 : Int64, x17 = (3 * (Int32.toInt64 v8)) * v5 → ((v7 ≤ 0 → vc_X11_seal_B146  Q k74 k84 v1 v2 v3 v4 v5 v7 v8 x16 x17 I11 J12) ∧ (¬ v7 ≤ 0 → (((lg_cmp x15 x16) ≤ 0 → vc_X11_seal_B146  Q k74 k84 v1 v2 v3 v4 v5 v7 v8 x16 x17 I11 J12) ∧ (¬ (lg_cmp x15 x16) ≤ 0 → vc_X11_seal_B148  Q k74 k84 v1 v2 v3 v4 v5 v7 v8 x17 x15 I11 J12)))))))
def vc_X11_seal_L84  (Q : Int64 → MI → MJ → Prop) (k74 : Int32 → Int32 → Int32 → Int32 → Int64 → Int32 → MI → MJ → Prop) (n : Nat) : Int32 → Int32 → Int32 → Int32 → Int64 → Int32 → Int32 → MI → MJ → Prop := Nat.rec (fun _ _ _ _ _ _ _ _ _ => False) (fun _ ih => vc_X11_seal_L84s  Q k74 ih) n
set_option maxRecDepth 100000 in
set_option maxHeartbeats 4000000 in
theorem w_X11_seal_L84s {Z : RT}  (X : Cx Z cX11_seal 15 RX11 wsX11_seal rmX11_seal (some .long)) {Q : Int64 → MI → MJ → Prop} (R : RL_ Z Q)  {k74 : Int32 → Int32 → Int32 → Int32 → Int64 → Int32 → MI → MJ → Prop} (hk74 : ∀ (v1 : Int32) (v2 : Int32) (v3 : Int32) (v4 : Int32) (v5 : Int64) (v7 : Int32) (I : MI) (J : MJ), k74 v1 v2 v3 v4 v5 v7 I J → GW Z 15 I J 74 [(0, .ref (ea (zE Z) 87)), (1, .int v1), (2, .int v2), (3, .int v3), (4, .int v4), (5, .long v5), (7, .int v7)] []) {k84 : Int32 → Int32 → Int32 → Int32 → Int64 → Int32 → Int32 → MI → MJ → Prop} (hk84 : ∀ (v1 : Int32) (v2 : Int32) (v3 : Int32) (v4 : Int32) (v5 : Int64) (v7 : Int32) (v8 : Int32) (I : MI) (J : MJ), k84 v1 v2 v3 v4 v5 v7 v8 I J → GW Z 15 I J 84 [(0, .ref (ea (zE Z) 87)), (1, .int v1), (2, .int v2), (3, .int v3), (4, .int v4), (5, .long v5), (7, .int v7), (8, .int v8)] []) (v1 : Int32) (v2 : Int32) (v3 : Int32) (v4 : Int32) (v5 : Int64) (v7 : Int32) (v8 : Int32) (I : MI) (J : MJ) (h : vc_X11_seal_L84s  Q k74 k84 v1 v2 v3 v4 v5 v7 v8 I J) : GW Z 15 I J 84 [(0, .ref (ea (zE Z) 87)), (1, .int v1), (2, .int v2), (3, .int v3), (4, .int v4), (5, .long v5), (7, .int v7), (8, .int v8)] [] := by
  refine g_iload X dX11_seal_84 7 rfl ?_
  refine g_if_lt X (tgt := 209) dX11_seal_86 (by decide) (fun c8 => ?_) (fun c8 => ?_)
  · have h := h.1 c8
    refine g_lload X dX11_seal_209 5 rfl ?_
    refine g_ldc2 X dX11_seal_211 kX11_seal_c293 ?_
    refine g_lmul X dX11_seal_214 ?_
    refine g_topl (fun x9 ex9 => ?_)
    have h := h x9 ex9
    refine g_lstore X (lv' := [(5, .long x9), (0, .ref (ea (zE Z) 87)), (1, .int v1), (2, .int v2), (3, .int v3), (4, .int v4), (7, .int v7), (8, .int v8)]) dX11_seal_215 (by decide) rfl ?_
    obtain ⟨x10, ex10⟩ : ∃ y : Int32, y = v7 + 1 := ⟨_, rfl⟩
    have h := h x10 ex10
    refine g_iinc X (q := 6) (v := x10) (lv' := [(7, .int x10), (5, .long x9), (0, .ref (ea (zE Z) 87)), (1, .int v1), (2, .int v2), (3, .int v3), (4, .int v4), (8, .int v8)]) dX11_seal_217 rfl (by rw [ex10]; rfl) (by decide) rfl ?_
    refine g_goto X (tgt := 74) dX11_seal_220 (by decide) ?_
    refine GW.sub (lv' := [(0, .ref (ea (zE Z) 87)), (1, .int v1), (2, .int v2), (3, .int v3), (4, .int v4), (5, .long x9), (7, .int x10)]) [2, 3, 4, 5, 6, 1, 0] rfl ?_
    exact hk74 v1 v2 v3 v4 x9 x10 I J h
  · have h := h.2 c8
    refine g_aload_n X dX11_seal_89 rfl 0 rfl ?_
    refine g_getr X (C := RX11) (T := TX11) (N := 39) (ci := 9) (k := 38) iX11_seal_X11 rfl kX11_seal_72 (Nat.le_of_ble_eq_true rfl) rfl (by decide) rfl rfl dX11_seal_90 ?_
    refine g_iload X dX11_seal_93 7 rfl ?_
    refine g_iload X dX11_seal_95 7 rfl ?_
    refine g_callSI X (As := [.int v8]) (rest := [.int v8, .ref (ea (zE Z) 108)]) (c_X11_root (zl Z) (zE Z) v8) gX11_seal_X11_root yo_X11_root.2 rfl ⟨Nat.le_of_ble_eq_true rfl, Nat.le_of_ble_eq_true rfl⟩ rfl dX11_seal_97 h (fun r13 I11 J12 h => ?_)
    refine g_isub X dX11_seal_100 ?_
    obtain ⟨b14, h⟩ := h
    refine g_lald X (Nat.le_of_ble_eq_true rfl) rfl b14 dX11_seal_101 ?_
    refine g_topl (fun x15 ex15 => ?_)
    have h := h x15 ex15
    refine g_lstore X (lv' := [(9, .long x15), (0, .ref (ea (zE Z) 87)), (1, .int v1), (2, .int v2), (3, .int v3), (4, .int v4), (5, .long v5), (7, .int v7), (8, .int v8)]) dX11_seal_102 (by decide) rfl ?_
    refine g_ldc2 X dX11_seal_104 kX11_seal_c289 ?_
    refine g_iload X dX11_seal_107 8 rfl ?_
    refine g_i2l X dX11_seal_109 ?_
    refine g_lmul X dX11_seal_110 ?_
    refine g_lload X dX11_seal_111 6 rfl ?_
    refine g_lmul X dX11_seal_113 ?_
    refine g_topl (fun x16 ex16 => ?_)
    have h := h x16 ex16
    refine g_lstore X (lv' := [(11, .long x16), (9, .long x15), (0, .ref (ea (zE Z) 87)), (1, .int v1), (2, .int v2), (3, .int v3), (4, .int v4), (5, .long v5), (7, .int v7), (8, .int v8)]) dX11_seal_114 (by decide) rfl ?_
    refine g_ldc2 X dX11_seal_116 kX11_seal_c291 ?_
    refine g_iload X dX11_seal_119 9 rfl ?_
    refine g_i2l X dX11_seal_121 ?_
    refine g_lmul X dX11_seal_122 ?_
    refine g_lload X dX11_seal_123 7 rfl ?_
    refine g_lmul X dX11_seal_125 ?_
    refine g_topl (fun x17 ex17 => ?_)
    have h := h x17 ex17
    refine g_lstore X (lv' := [(13, .long x17), (11, .long x16), (9, .long x15), (0, .ref (ea (zE Z) 87)), (1, .int v1), (2, .int v2), (3, .int v3), (4, .int v4), (5, .long v5), (7, .int v7), (8, .int v8)]) dX11_seal_126 (by decide) rfl ?_
    refine g_iload X dX11_seal_128 9 rfl ?_
    refine g_if_le X (tgt := 146) dX11_seal_130 (by decide) (fun c18 => ?_) (fun c18 => ?_)
    · have h := h.1 c18
      refine GW.sub (lv' := [(0, .ref (ea (zE Z) 87)), (1, .int v1), (2, .int v2), (3, .int v3), (4, .int v4), (5, .long v5), (7, .int v7), (8, .int v8), (11, .long x16), (13, .long x17)]) [3, 4, 5, 6, 7, 8, 9, 10, 1, 0] rfl ?_
      exact w_X11_seal_B146 X R  hk74 hk84 v1 v2 v3 v4 v5 v7 v8 x16 x17 I11 J12 h
    · have h := h.2 c18
      refine g_lload X dX11_seal_133 2 rfl ?_
      refine g_lload X dX11_seal_135 1 rfl ?_
      refine g_lcmp X dX11_seal_137 ?_
      refine g_if_le X (tgt := 146) dX11_seal_138 (by decide) (fun c19 => ?_) (fun c19 => ?_)
      · have h := h.1 c19
        refine GW.sub (lv' := [(0, .ref (ea (zE Z) 87)), (1, .int v1), (2, .int v2), (3, .int v3), (4, .int v4), (5, .long v5), (7, .int v7), (8, .int v8), (11, .long x16), (13, .long x17)]) [3, 4, 5, 6, 7, 8, 9, 10, 1, 0] rfl ?_
        exact w_X11_seal_B146 X R  hk74 hk84 v1 v2 v3 v4 v5 v7 v8 x16 x17 I11 J12 h
      · have h := h.2 c19
        refine g_lload X dX11_seal_141 2 rfl ?_
        refine g_goto X (tgt := 148) dX11_seal_143 (by decide) ?_
        refine GW.sub (lv' := [(0, .ref (ea (zE Z) 87)), (1, .int v1), (2, .int v2), (3, .int v3), (4, .int v4), (5, .long v5), (7, .int v7), (8, .int v8), (13, .long x17)]) [3, 4, 5, 6, 7, 8, 9, 10, 0] rfl ?_
        exact w_X11_seal_B148 X R  hk74 hk84 v1 v2 v3 v4 v5 v7 v8 x17 x15 I11 J12 h
theorem w_X11_seal_L84 {Z : RT}  (X : Cx Z cX11_seal 15 RX11 wsX11_seal rmX11_seal (some .long)) {Q : Int64 → MI → MJ → Prop} (R : RL_ Z Q)  {k74 : Int32 → Int32 → Int32 → Int32 → Int64 → Int32 → MI → MJ → Prop} (hk74 : ∀ (v1 : Int32) (v2 : Int32) (v3 : Int32) (v4 : Int32) (v5 : Int64) (v7 : Int32) (I : MI) (J : MJ), k74 v1 v2 v3 v4 v5 v7 I J → GW Z 15 I J 74 [(0, .ref (ea (zE Z) 87)), (1, .int v1), (2, .int v2), (3, .int v3), (4, .int v4), (5, .long v5), (7, .int v7)] []) : ∀ (n : Nat) (v1 : Int32) (v2 : Int32) (v3 : Int32) (v4 : Int32) (v5 : Int64) (v7 : Int32) (v8 : Int32) (I : MI) (J : MJ) (h : vc_X11_seal_L84  Q k74 n v1 v2 v3 v4 v5 v7 v8 I J), GW Z 15 I J 84 [(0, .ref (ea (zE Z) 87)), (1, .int v1), (2, .int v2), (3, .int v3), (4, .int v4), (5, .long v5), (7, .int v7), (8, .int v8)] [] := by
  intro n
  induction n with
  | zero => intro v1 v2 v3 v4 v5 v7 v8 I J h; exact h.elim
  | succ n ih => intro v1 v2 v3 v4 v5 v7 v8 I J h; exact w_X11_seal_L84s X R  hk74 ih v1 v2 v3 v4 v5 v7 v8 I J h
def vc_X11_seal_L235s  (Q : Int64 → MI → MJ → Prop)  (k235 : Int32 → Int32 → Int64 → Int64 → Int64 → MI → MJ → Prop) (v1 : Int32) (v4 : Int32) (v5 : Int64) (v7 : Int64) (v9 : Int64) (I : MI) (J : MJ) : Prop := (((lg_cmp v9 0) ≤ 0 → ((¬ v4 = 0 → ¬ v7 = 0 ∧ Q (v5 / v7) I J) ∧ (v4 = 0 → vp_in v1 100 ∧ ¬ v7 = 0 ∧ Q ((J 108 (Int32.toNatClampNeg v1)) / v7) I J))) ∧ (¬ (lg_cmp v9 0) ≤ 0 → ¬ v9 = 0 ∧ ∀ x26 : Int64, x26 = v7 - v7 / v9 * v9 → k235 v1 v4 v5 v9 x26 I J))
def vc_X11_seal_L235  (Q : Int64 → MI → MJ → Prop)  (n : Nat) : Int32 → Int32 → Int64 → Int64 → Int64 → MI → MJ → Prop := Nat.rec (fun _ _ _ _ _ _ _ => False) (fun _ ih => vc_X11_seal_L235s  Q  ih) n
set_option maxRecDepth 100000 in
set_option maxHeartbeats 4000000 in
theorem w_X11_seal_L235s {Z : RT}  (X : Cx Z cX11_seal 15 RX11 wsX11_seal rmX11_seal (some .long)) {Q : Int64 → MI → MJ → Prop} (R : RL_ Z Q)    {k235 : Int32 → Int32 → Int64 → Int64 → Int64 → MI → MJ → Prop} (hk235 : ∀ (v1 : Int32) (v4 : Int32) (v5 : Int64) (v7 : Int64) (v9 : Int64) (I : MI) (J : MJ), k235 v1 v4 v5 v7 v9 I J → GW Z 15 I J 235 [(0, .ref (ea (zE Z) 87)), (1, .int v1), (4, .int v4), (5, .long v5), (7, .long v7), (9, .long v9)] []) (v1 : Int32) (v4 : Int32) (v5 : Int64) (v7 : Int64) (v9 : Int64) (I : MI) (J : MJ) (h : vc_X11_seal_L235s  Q  k235 v1 v4 v5 v7 v9 I J) : GW Z 15 I J 235 [(0, .ref (ea (zE Z) 87)), (1, .int v1), (4, .int v4), (5, .long v5), (7, .long v7), (9, .long v9)] [] := by
  refine g_lload X dX11_seal_235 5 rfl ?_
  refine g_lconst X (v := 0) dX11_seal_237 (by decide) ?_
  refine g_lcmp X dX11_seal_238 ?_
  refine g_if_le X (tgt := 260) dX11_seal_239 (by decide) (fun c20 => ?_) (fun c20 => ?_)
  · have h := h.1 c20
    refine g_iload X dX11_seal_260 2 rfl ?_
    refine g_if_ne X (tgt := 274) dX11_seal_262 (by decide) (fun c21 => ?_) (fun c21 => ?_)
    · have h := h.1 c21
      refine g_lload X dX11_seal_274 3 rfl ?_
      refine g_lload X dX11_seal_276 4 rfl ?_
      obtain ⟨b22, h⟩ := h
      refine g_ldiv X dX11_seal_278 b22 ?_
      exact g_lret X R dX11_seal_279 h
    · have h := h.2 c21
      refine g_aload_n X dX11_seal_265 rfl 0 rfl ?_
      refine g_getr X (C := RX11) (T := TX11) (N := 39) (ci := 9) (k := 38) iX11_seal_X11 rfl kX11_seal_72 (Nat.le_of_ble_eq_true rfl) rfl (by decide) rfl rfl dX11_seal_266 ?_
      refine g_iload_n X dX11_seal_269 rfl 1 rfl ?_
      obtain ⟨b23, h⟩ := h
      refine g_lald X (Nat.le_of_ble_eq_true rfl) rfl b23 dX11_seal_270 ?_
      refine g_goto X (tgt := 276) dX11_seal_271 (by decide) ?_
      refine g_lload X dX11_seal_276 4 rfl ?_
      obtain ⟨b24, h⟩ := h
      refine g_ldiv X dX11_seal_278 b24 ?_
      exact g_lret X R dX11_seal_279 h
  · have h := h.2 c20
    refine g_lload X dX11_seal_242 4 rfl ?_
    refine g_lload X dX11_seal_244 5 rfl ?_
    obtain ⟨b25, h⟩ := h
    refine g_lrem X dX11_seal_246 b25 ?_
    refine g_topl (fun x26 ex26 => ?_)
    have h := h x26 ex26
    refine g_lstore X (lv' := [(11, .long x26), (0, .ref (ea (zE Z) 87)), (1, .int v1), (4, .int v4), (5, .long v5), (7, .long v7), (9, .long v9)]) dX11_seal_247 (by decide) rfl ?_
    refine g_lload X dX11_seal_249 6 rfl ?_
    refine g_lstore X (lv' := [(7, .long v9), (11, .long x26), (0, .ref (ea (zE Z) 87)), (1, .int v1), (4, .int v4), (5, .long v5), (9, .long v9)]) dX11_seal_251 (by decide) rfl ?_
    refine g_lload X dX11_seal_253 1 rfl ?_
    refine g_lstore X (lv' := [(9, .long x26), (7, .long v9), (11, .long x26), (0, .ref (ea (zE Z) 87)), (1, .int v1), (4, .int v4), (5, .long v5)]) dX11_seal_255 (by decide) rfl ?_
    refine g_goto X (tgt := 235) dX11_seal_257 (by decide) ?_
    refine GW.sub (lv' := [(0, .ref (ea (zE Z) 87)), (1, .int v1), (4, .int v4), (5, .long v5), (7, .long v9), (9, .long x26)]) [3, 4, 5, 6, 1, 0] rfl ?_
    exact hk235 v1 v4 v5 v9 x26 I J h
theorem w_X11_seal_L235 {Z : RT}  (X : Cx Z cX11_seal 15 RX11 wsX11_seal rmX11_seal (some .long)) {Q : Int64 → MI → MJ → Prop} (R : RL_ Z Q)    : ∀ (n : Nat) (v1 : Int32) (v4 : Int32) (v5 : Int64) (v7 : Int64) (v9 : Int64) (I : MI) (J : MJ) (h : vc_X11_seal_L235  Q  n v1 v4 v5 v7 v9 I J), GW Z 15 I J 235 [(0, .ref (ea (zE Z) 87)), (1, .int v1), (4, .int v4), (5, .long v5), (7, .long v7), (9, .long v9)] [] := by
  intro n
  induction n with
  | zero => intro v1 v4 v5 v7 v9 I J h; exact h.elim
  | succ n ih => intro v1 v4 v5 v7 v9 I J h; exact w_X11_seal_L235s X R   ih v1 v4 v5 v7 v9 I J h
def vc_X11_seal_L74s  (Q : Int64 → MI → MJ → Prop)  (k74 : Int32 → Int32 → Int32 → Int32 → Int64 → Int32 → MI → MJ → Prop) (v1 : Int32) (v2 : Int32) (v3 : Int32) (v4 : Int32) (v5 : Int64) (v7 : Int32) (I : MI) (J : MJ) : Prop := ((v2 ≤ v7 → vp_in v1 100 ∧ ∀ x29 : Int64, x29 = J 108 (Int32.toNatClampNeg v1) → (∃ n, vc_X11_seal_L235  Q  n v1 v4 v5 x29 v5 I J)) ∧ (¬ v2 ≤ v7 → (∃ n, vc_X11_seal_L84  Q k74 n v1 v2 v3 v4 v5 v7 99 I J)))
def vc_X11_seal_L74  (Q : Int64 → MI → MJ → Prop)  (n : Nat) : Int32 → Int32 → Int32 → Int32 → Int64 → Int32 → MI → MJ → Prop := Nat.rec (fun _ _ _ _ _ _ _ _ => False) (fun _ ih => vc_X11_seal_L74s  Q  ih) n
set_option maxRecDepth 100000 in
set_option maxHeartbeats 4000000 in
theorem w_X11_seal_L74s {Z : RT}  (X : Cx Z cX11_seal 15 RX11 wsX11_seal rmX11_seal (some .long)) {Q : Int64 → MI → MJ → Prop} (R : RL_ Z Q)    {k74 : Int32 → Int32 → Int32 → Int32 → Int64 → Int32 → MI → MJ → Prop} (hk74 : ∀ (v1 : Int32) (v2 : Int32) (v3 : Int32) (v4 : Int32) (v5 : Int64) (v7 : Int32) (I : MI) (J : MJ), k74 v1 v2 v3 v4 v5 v7 I J → GW Z 15 I J 74 [(0, .ref (ea (zE Z) 87)), (1, .int v1), (2, .int v2), (3, .int v3), (4, .int v4), (5, .long v5), (7, .int v7)] []) (v1 : Int32) (v2 : Int32) (v3 : Int32) (v4 : Int32) (v5 : Int64) (v7 : Int32) (I : MI) (J : MJ) (h : vc_X11_seal_L74s  Q  k74 v1 v2 v3 v4 v5 v7 I J) : GW Z 15 I J 74 [(0, .ref (ea (zE Z) 87)), (1, .int v1), (2, .int v2), (3, .int v3), (4, .int v4), (5, .long v5), (7, .int v7)] [] := by
  refine g_iload X dX11_seal_74 6 rfl ?_
  refine g_iload_n X dX11_seal_76 rfl 2 rfl ?_
  refine g_icmp_ge X (tgt := 223) dX11_seal_77 (by decide) (fun c27 => ?_) (fun c27 => ?_)
  · have h := h.1 c27
    refine g_aload_n X dX11_seal_223 rfl 0 rfl ?_
    refine g_getr X (C := RX11) (T := TX11) (N := 39) (ci := 9) (k := 38) iX11_seal_X11 rfl kX11_seal_72 (Nat.le_of_ble_eq_true rfl) rfl (by decide) rfl rfl dX11_seal_224 ?_
    refine g_iload_n X dX11_seal_227 rfl 1 rfl ?_
    obtain ⟨b28, h⟩ := h
    refine g_lald X (Nat.le_of_ble_eq_true rfl) rfl b28 dX11_seal_228 ?_
    refine g_topl (fun x29 ex29 => ?_)
    have h := h x29 ex29
    refine g_lstore X (lv' := [(7, .long x29), (0, .ref (ea (zE Z) 87)), (1, .int v1), (2, .int v2), (3, .int v3), (4, .int v4), (5, .long v5)]) dX11_seal_229 (by decide) rfl ?_
    refine g_lload X dX11_seal_231 6 rfl ?_
    refine g_lstore X (lv' := [(9, .long v5), (7, .long x29), (0, .ref (ea (zE Z) 87)), (1, .int v1), (2, .int v2), (3, .int v3), (4, .int v4), (5, .long v5)]) dX11_seal_233 (by decide) rfl ?_
    refine GW.sub (lv' := [(0, .ref (ea (zE Z) 87)), (1, .int v1), (4, .int v4), (5, .long v5), (7, .long x29), (9, .long v5)]) [2, 3, 6, 7, 1, 0] rfl ?_
    obtain ⟨n, h⟩ := h
    exact w_X11_seal_L235 X R   n v1 v4 v5 x29 v5 I J h
  · have h := h.2 c27
    refine g_bipush X (v := 99) dX11_seal_80 (by decide) ?_
    refine g_istore X (lv' := [(8, .int 99), (0, .ref (ea (zE Z) 87)), (1, .int v1), (2, .int v2), (3, .int v3), (4, .int v4), (5, .long v5), (7, .int v7)]) dX11_seal_82 (by decide) rfl ?_
    refine GW.sub (lv' := [(0, .ref (ea (zE Z) 87)), (1, .int v1), (2, .int v2), (3, .int v3), (4, .int v4), (5, .long v5), (7, .int v7), (8, .int 99)]) [1, 2, 3, 4, 5, 6, 7, 0] rfl ?_
    obtain ⟨n, h⟩ := h
    exact w_X11_seal_L84 X R  hk74 n v1 v2 v3 v4 v5 v7 99 I J h
theorem w_X11_seal_L74 {Z : RT}  (X : Cx Z cX11_seal 15 RX11 wsX11_seal rmX11_seal (some .long)) {Q : Int64 → MI → MJ → Prop} (R : RL_ Z Q)    : ∀ (n : Nat) (v1 : Int32) (v2 : Int32) (v3 : Int32) (v4 : Int32) (v5 : Int64) (v7 : Int32) (I : MI) (J : MJ) (h : vc_X11_seal_L74  Q  n v1 v2 v3 v4 v5 v7 I J), GW Z 15 I J 74 [(0, .ref (ea (zE Z) 87)), (1, .int v1), (2, .int v2), (3, .int v3), (4, .int v4), (5, .long v5), (7, .int v7)] [] := by
  intro n
  induction n with
  | zero => intro v1 v2 v3 v4 v5 v7 I J h; exact h.elim
  | succ n ih => intro v1 v2 v3 v4 v5 v7 I J h; exact w_X11_seal_L74s X R   ih v1 v2 v3 v4 v5 v7 I J h
def vc_X11_seal_L47s  (Q : Int64 → MI → MJ → Prop)  (k47 : Int32 → Int32 → Int32 → Int32 → Int32 → MI → MJ → Prop) (v1 : Int32) (v2 : Int32) (v3 : Int32) (v4 : Int32) (v5 : Int32) (I : MI) (J : MJ) : Prop := ((100 ≤ v5 → (∃ n, vc_X11_seal_L74  Q  n v1 v2 v3 v4 1 0 I J)) ∧ (¬ 100 ≤ v5 → vp_in v5 100 ∧ ∀ J32 : MJ, J32 = wJ J 108 (Int32.toNatClampNeg v5) 0 → ∀ x33 : Int32, x33 = v5 + 1 → k47 v1 v2 v3 v4 x33 I J32))
def vc_X11_seal_L47  (Q : Int64 → MI → MJ → Prop)  (n : Nat) : Int32 → Int32 → Int32 → Int32 → Int32 → MI → MJ → Prop := Nat.rec (fun _ _ _ _ _ _ _ => False) (fun _ ih => vc_X11_seal_L47s  Q  ih) n
set_option maxRecDepth 100000 in
set_option maxHeartbeats 4000000 in
theorem w_X11_seal_L47s {Z : RT}  (X : Cx Z cX11_seal 15 RX11 wsX11_seal rmX11_seal (some .long)) {Q : Int64 → MI → MJ → Prop} (R : RL_ Z Q)    {k47 : Int32 → Int32 → Int32 → Int32 → Int32 → MI → MJ → Prop} (hk47 : ∀ (v1 : Int32) (v2 : Int32) (v3 : Int32) (v4 : Int32) (v5 : Int32) (I : MI) (J : MJ), k47 v1 v2 v3 v4 v5 I J → GW Z 15 I J 47 [(0, .ref (ea (zE Z) 87)), (1, .int v1), (2, .int v2), (3, .int v3), (4, .int v4), (5, .int v5)] []) (v1 : Int32) (v2 : Int32) (v3 : Int32) (v4 : Int32) (v5 : Int32) (I : MI) (J : MJ) (h : vc_X11_seal_L47s  Q  k47 v1 v2 v3 v4 v5 I J) : GW Z 15 I J 47 [(0, .ref (ea (zE Z) 87)), (1, .int v1), (2, .int v2), (3, .int v3), (4, .int v4), (5, .int v5)] [] := by
  refine g_iload X dX11_seal_47 5 rfl ?_
  refine g_bipush X (v := 100) dX11_seal_49 (by decide) ?_
  refine g_icmp_ge X (tgt := 68) dX11_seal_51 (by decide) (fun c30 => ?_) (fun c30 => ?_)
  · have h := h.1 c30
    refine g_lconst X (v := 1) dX11_seal_68 (by decide) ?_
    refine g_lstore X (lv' := [(5, .long 1), (0, .ref (ea (zE Z) 87)), (1, .int v1), (2, .int v2), (3, .int v3), (4, .int v4)]) dX11_seal_69 (by decide) rfl ?_
    refine g_iconst X (v := 0) dX11_seal_71 (by decide) ?_
    refine g_istore X (lv' := [(7, .int 0), (5, .long 1), (0, .ref (ea (zE Z) 87)), (1, .int v1), (2, .int v2), (3, .int v3), (4, .int v4)]) dX11_seal_72 (by decide) rfl ?_
    refine GW.sub (lv' := [(0, .ref (ea (zE Z) 87)), (1, .int v1), (2, .int v2), (3, .int v3), (4, .int v4), (5, .long 1), (7, .int 0)]) [2, 3, 4, 5, 6, 1, 0] rfl ?_
    obtain ⟨n, h⟩ := h
    exact w_X11_seal_L74 X R   n v1 v2 v3 v4 1 0 I J h
  · have h := h.2 c30
    refine g_aload_n X dX11_seal_54 rfl 0 rfl ?_
    refine g_getr X (C := RX11) (T := TX11) (N := 39) (ci := 9) (k := 38) iX11_seal_X11 rfl kX11_seal_72 (Nat.le_of_ble_eq_true rfl) rfl (by decide) rfl rfl dX11_seal_55 ?_
    refine g_iload X dX11_seal_58 5 rfl ?_
    refine g_lconst X (v := 0) dX11_seal_60 (by decide) ?_
    obtain ⟨b31, h⟩ := h
    refine g_last X (Nat.le_of_ble_eq_true rfl) rfl b31 dX11_seal_61 ?_
    refine g_nmJ (fun J32 eJ32 => ?_)
    have h := h J32 eJ32
    obtain ⟨x33, ex33⟩ : ∃ y : Int32, y = v5 + 1 := ⟨_, rfl⟩
    have h := h x33 ex33
    refine g_iinc X (q := 5) (v := x33) (lv' := [(5, .int x33), (0, .ref (ea (zE Z) 87)), (1, .int v1), (2, .int v2), (3, .int v3), (4, .int v4)]) dX11_seal_62 rfl (by rw [ex33]; rfl) (by decide) rfl ?_
    refine g_goto X (tgt := 47) dX11_seal_65 (by decide) ?_
    refine GW.sub (lv' := [(0, .ref (ea (zE Z) 87)), (1, .int v1), (2, .int v2), (3, .int v3), (4, .int v4), (5, .int x33)]) [1, 2, 3, 4, 5, 0] rfl ?_
    exact hk47 v1 v2 v3 v4 x33 I J32 h
theorem w_X11_seal_L47 {Z : RT}  (X : Cx Z cX11_seal 15 RX11 wsX11_seal rmX11_seal (some .long)) {Q : Int64 → MI → MJ → Prop} (R : RL_ Z Q)    : ∀ (n : Nat) (v1 : Int32) (v2 : Int32) (v3 : Int32) (v4 : Int32) (v5 : Int32) (I : MI) (J : MJ) (h : vc_X11_seal_L47  Q  n v1 v2 v3 v4 v5 I J), GW Z 15 I J 47 [(0, .ref (ea (zE Z) 87)), (1, .int v1), (2, .int v2), (3, .int v3), (4, .int v4), (5, .int v5)] [] := by
  intro n
  induction n with
  | zero => intro v1 v2 v3 v4 v5 I J h; exact h.elim
  | succ n ih => intro v1 v2 v3 v4 v5 I J h; exact w_X11_seal_L47s X R   ih v1 v2 v3 v4 v5 I J h
def vc_X11_seal (p1 : Int32) (p2 : Int32) (p3 : Int32) (p4 : Int32) (I : MI) (J : MJ) (Q : Int64 → MI → MJ → Prop) : Prop := vc_X11_in p1 0 99 I J (fun (r36 : Int32) (I34 : MI) (J35 : MJ) => ((r36 = 0 → Q (-3) I34 J35) ∧ (¬ r36 = 0 → vc_X11_in p2 1 6 I34 J35 (fun (r40 : Int32) (I38 : MI) (J39 : MJ) => ((r40 = 0 → Q (-3) I38 J39) ∧ (¬ r40 = 0 → vc_X11_in p3 0 10 I38 J39 (fun (r44 : Int32) (I42 : MI) (J43 : MJ) => ((r44 = 0 → Q (-3) I42 J43) ∧ (¬ r44 = 0 → vc_X11_in p4 0 1 I42 J43 (fun (r48 : Int32) (I46 : MI) (J47 : MJ) => ((¬ r48 = 0 → (∃ n, vc_X11_seal_L47  Q  n p1 p2 p3 p4 0 I46 J47)) ∧ (r48 = 0 → Q (-3) I46 J47))))))))))))
set_option maxRecDepth 100000 in
set_option maxHeartbeats 4000000 in
theorem c_X11_seal (l : Launch) (E : ET)  (p1 : Int32) (p2 : Int32) (p3 : Int32) (p4 : Int32) : CL l yX11_seal wsX11_seal rmX11_seal E [.ref (ea E 87), .int p1, .int p2, .int p3, .int p4] (vc_X11_seal p1 p2 p3 p4) := by
  refine CL.of (cc := cX11_seal) (maxL := 15) (own := RX11) (by decide) rfl rfl (Nat.le_of_ble_eq_true rfl) ?_
  intro Z I J Q hE hl X R h
  subst hE
  subst hl
  show GW Z 15 I J 0 [(0, .ref (ea (zE Z) 87)), (1, .int p1), (2, .int p2), (3, .int p3), (4, .int p4)] []
  refine g_iload_n X dX11_seal_0 rfl 1 rfl ?_
  refine g_iconst X (v := 0) dX11_seal_1 (by decide) ?_
  refine g_bipush X (v := 99) dX11_seal_2 (by decide) ?_
  refine g_callSI X (As := [.int p1, .int 0, .int 99]) (rest := []) (c_X11_in (zl Z) (zE Z) p1 0 99) gX11_seal_X11_in yo_X11_in.2 rfl ⟨Nat.le_of_ble_eq_true rfl, Nat.le_of_ble_eq_true rfl⟩ rfl dX11_seal_4 h (fun r36 I34 J35 h => ?_)
  refine g_if_eq X (tgt := 40) dX11_seal_7 (by decide) (fun c37 => ?_) (fun c37 => ?_)
  · have h := h.1 c37
    refine g_ldc2 X dX11_seal_40 kX11_seal_c130 ?_
    exact g_lret X R dX11_seal_43 h
  · have h := h.2 c37
    refine g_iload_n X dX11_seal_10 rfl 2 rfl ?_
    refine g_iconst X (v := 1) dX11_seal_11 (by decide) ?_
    refine g_bipush X (v := 6) dX11_seal_12 (by decide) ?_
    refine g_callSI X (As := [.int p2, .int 1, .int 6]) (rest := []) (c_X11_in (zl Z) (zE Z) p2 1 6) gX11_seal_X11_in yo_X11_in.2 rfl ⟨Nat.le_of_ble_eq_true rfl, Nat.le_of_ble_eq_true rfl⟩ rfl dX11_seal_14 h (fun r40 I38 J39 h => ?_)
    refine g_if_eq X (tgt := 40) dX11_seal_17 (by decide) (fun c41 => ?_) (fun c41 => ?_)
    · have h := h.1 c41
      refine g_ldc2 X dX11_seal_40 kX11_seal_c130 ?_
      exact g_lret X R dX11_seal_43 h
    · have h := h.2 c41
      refine g_iload_n X dX11_seal_20 rfl 3 rfl ?_
      refine g_iconst X (v := 0) dX11_seal_21 (by decide) ?_
      refine g_bipush X (v := 10) dX11_seal_22 (by decide) ?_
      refine g_callSI X (As := [.int p3, .int 0, .int 10]) (rest := []) (c_X11_in (zl Z) (zE Z) p3 0 10) gX11_seal_X11_in yo_X11_in.2 rfl ⟨Nat.le_of_ble_eq_true rfl, Nat.le_of_ble_eq_true rfl⟩ rfl dX11_seal_24 h (fun r44 I42 J43 h => ?_)
      refine g_if_eq X (tgt := 40) dX11_seal_27 (by decide) (fun c45 => ?_) (fun c45 => ?_)
      · have h := h.1 c45
        refine g_ldc2 X dX11_seal_40 kX11_seal_c130 ?_
        exact g_lret X R dX11_seal_43 h
      · have h := h.2 c45
        refine g_iload X dX11_seal_30 4 rfl ?_
        refine g_iconst X (v := 0) dX11_seal_32 (by decide) ?_
        refine g_iconst X (v := 1) dX11_seal_33 (by decide) ?_
        refine g_callSI X (As := [.int p4, .int 0, .int 1]) (rest := []) (c_X11_in (zl Z) (zE Z) p4 0 1) gX11_seal_X11_in yo_X11_in.2 rfl ⟨Nat.le_of_ble_eq_true rfl, Nat.le_of_ble_eq_true rfl⟩ rfl dX11_seal_34 h (fun r48 I46 J47 h => ?_)
        refine g_if_ne X (tgt := 44) dX11_seal_37 (by decide) (fun c49 => ?_) (fun c49 => ?_)
        · have h := h.1 c49
          refine g_iconst X (v := 0) dX11_seal_44 (by decide) ?_
          refine g_istore X (lv' := [(5, .int 0), (0, .ref (ea (zE Z) 87)), (1, .int p1), (2, .int p2), (3, .int p3), (4, .int p4)]) dX11_seal_45 (by decide) rfl ?_
          refine GW.sub (lv' := [(0, .ref (ea (zE Z) 87)), (1, .int p1), (2, .int p2), (3, .int p3), (4, .int p4), (5, .int 0)]) [1, 2, 3, 4, 5, 0] rfl ?_
          obtain ⟨n, h⟩ := h
          exact w_X11_seal_L47 X R   n p1 p2 p3 p4 0 I46 J47 h
        · have h := h.2 c49
          refine g_ldc2 X dX11_seal_40 kX11_seal_c130 ?_
          exact g_lret X R dX11_seal_43 h

/-! X11_canGo.canGo(II)Z -/
def rmX11_canGo : Room := { frames := 1, cells := 0, slots := 0, locals := 22 }
theorem yo_X11_canGo : yX11_canGo.cls = RX11 ∧ yX11_canGo.cls ≠ "java/lang/invoke/MethodHandle" ∧ yX11_canGo.cls ≠ "java/lang/invoke/VarHandle" ∧ (parseMethodDescriptor yX11_canGo.desc).map (fun d => d.parameters.length) = some 2 := by decide +kernel
theorem kX11_canGo_25 : Cond.fieldLink RX11 25 "SnowCourseModel" (TX11 20).2.1 (TX11 20).2.2.1 ∈ wsX11_canGo := by decide +kernel
theorem iX11_canGo_X11 : ∀ w ∈ u_ws RX11 TX11 39, w ∈ wsX11_canGo := by decide +kernel
theorem kX11_canGo_13 : Cond.fieldLink RX11 13 "SnowCourseModel" (TX11 3).2.1 (TX11 3).2.2.1 ∈ wsX11_canGo := by decide +kernel
def vc_X11_canGo (p1 : Int32) (p2 : Int32) (I : MI) (J : MJ) (Q : Int32 → MI → MJ → Prop) : Prop := vp_in p1 20 ∧ vc_X11_endOf p2 (I 93 (Int32.toNatClampNeg p1)) I J (fun (r4 : Int32) (I2 : MI) (J3 : MJ) => ((r4 = (-1) → Q 0 I2 J3) ∧ (¬ r4 = (-1) → vp_in (4 + p1) 20 ∧ vp_in ((4 * p2) + 2) 36 ∧ ((48 < ((I2 93 (Int32.toNatClampNeg (4 + p1))) + (I2 89 (Int32.toNatClampNeg ((4 * p2) + 2)))) → Q 0 I2 J3) ∧ (¬ 48 < ((I2 93 (Int32.toNatClampNeg (4 + p1))) + (I2 89 (Int32.toNatClampNeg ((4 * p2) + 2)))) → Q 1 I2 J3)))))
set_option maxRecDepth 100000 in
set_option maxHeartbeats 4000000 in
theorem c_X11_canGo (l : Launch) (E : ET)  (p1 : Int32) (p2 : Int32) : CI l yX11_canGo wsX11_canGo rmX11_canGo E [.ref (ea E 87), .int p1, .int p2] (vc_X11_canGo p1 p2) := by
  refine CI.of (cc := cX11_canGo) (maxL := 3) (own := RX11) (by decide) rfl rfl (Nat.le_of_ble_eq_true rfl) ?_
  intro Z I J Q hE hl X R h
  subst hE
  subst hl
  show GW Z 3 I J 0 [(0, .ref (ea (zE Z) 87)), (1, .int p1), (2, .int p2)] []
  refine g_aload_n X dX11_canGo_0 rfl 0 rfl ?_
  refine g_iload_n X dX11_canGo_1 rfl 2 rfl ?_
  refine g_aload_n X dX11_canGo_2 rfl 0 rfl ?_
  refine g_getr X (C := RX11) (T := TX11) (N := 39) (ci := 9) (k := 20) iX11_canGo_X11 rfl kX11_canGo_25 (Nat.le_of_ble_eq_true rfl) rfl (by decide) rfl rfl dX11_canGo_3 ?_
  refine g_iload_n X dX11_canGo_6 rfl 1 rfl ?_
  obtain ⟨b1, h⟩ := h
  refine g_iald X (Nat.le_of_ble_eq_true rfl) rfl b1 dX11_canGo_7 ?_
  refine g_callVI X (As := [.int p2, .int (I 93 (Int32.toNatClampNeg p1))]) (rest := []) (T := TX11) (N := 39) (c_X11_endOf (zl Z) (zE Z) p2 (I 93 (Int32.toNatClampNeg p1))) gX11_canGo_X11_endOf yo_X11_endOf rfl ⟨Nat.le_of_ble_eq_true rfl, Nat.le_of_ble_eq_true rfl⟩ (Nat.le_of_ble_eq_true rfl) rfl rfl rfl dX11_canGo_8 h (fun r4 I2 J3 h => ?_)
  refine g_iconst X (v := (-1)) dX11_canGo_11 (by decide) ?_
  refine g_icmp_eq X (tgt := 43) dX11_canGo_12 (by decide) (fun c5 => ?_) (fun c5 => ?_)
  · have h := h.1 c5
    refine g_iconst X (v := 0) dX11_canGo_43 (by decide) ?_
    exact g_zret X R (by decide) dX11_canGo_44 h
  · have h := h.2 c5
    refine g_aload_n X dX11_canGo_15 rfl 0 rfl ?_
    refine g_getr X (C := RX11) (T := TX11) (N := 39) (ci := 9) (k := 20) iX11_canGo_X11 rfl kX11_canGo_25 (Nat.le_of_ble_eq_true rfl) rfl (by decide) rfl rfl dX11_canGo_16 ?_
    refine g_iconst X (v := 4) dX11_canGo_19 (by decide) ?_
    refine g_iload_n X dX11_canGo_20 rfl 1 rfl ?_
    refine g_iadd X dX11_canGo_21 ?_
    obtain ⟨b6, h⟩ := h
    refine g_iald X (Nat.le_of_ble_eq_true rfl) rfl b6 dX11_canGo_22 ?_
    refine g_aload_n X dX11_canGo_23 rfl 0 rfl ?_
    refine g_getr X (C := RX11) (T := TX11) (N := 39) (ci := 9) (k := 3) iX11_canGo_X11 rfl kX11_canGo_13 (Nat.le_of_ble_eq_true rfl) rfl (by decide) rfl rfl dX11_canGo_24 ?_
    refine g_iconst X (v := 4) dX11_canGo_27 (by decide) ?_
    refine g_iload_n X dX11_canGo_28 rfl 2 rfl ?_
    refine g_imul X dX11_canGo_29 ?_
    refine g_iconst X (v := 2) dX11_canGo_30 (by decide) ?_
    refine g_iadd X dX11_canGo_31 ?_
    obtain ⟨b7, h⟩ := h
    refine g_iald X (Nat.le_of_ble_eq_true rfl) rfl b7 dX11_canGo_32 ?_
    refine g_iadd X dX11_canGo_33 ?_
    refine g_bipush X (v := 48) dX11_canGo_34 (by decide) ?_
    refine g_icmp_gt X (tgt := 43) dX11_canGo_36 (by decide) (fun c8 => ?_) (fun c8 => ?_)
    · have h := h.1 c8
      refine g_iconst X (v := 0) dX11_canGo_43 (by decide) ?_
      exact g_zret X R (by decide) dX11_canGo_44 h
    · have h := h.2 c8
      refine g_iconst X (v := 1) dX11_canGo_39 (by decide) ?_
      refine g_goto X (tgt := 44) dX11_canGo_40 (by decide) ?_
      exact g_zret X R (by decide) dX11_canGo_44 h

/-! X11_rentOf.rentOf(II)I -/
def rmX11_rentOf : Room := { frames := 3, cells := 0, slots := 0, locals := 75 }
theorem yo_X11_rentOf : yX11_rentOf.cls = RX11 ∧ yX11_rentOf.cls ≠ "java/lang/invoke/MethodHandle" ∧ yX11_rentOf.cls ≠ "java/lang/invoke/VarHandle" ∧ (parseMethodDescriptor yX11_rentOf.desc).map (fun d => d.parameters.length) = some 2 := by decide +kernel
theorem kX11_rentOf_25 : Cond.fieldLink RX11 25 "SnowCourseModel" (TX11 20).2.1 (TX11 20).2.2.1 ∈ wsX11_rentOf := by decide +kernel
theorem iX11_rentOf_X11 : ∀ w ∈ u_ws RX11 TX11 39, w ∈ wsX11_rentOf := by decide +kernel
theorem kX11_rentOf_13 : Cond.fieldLink RX11 13 "SnowCourseModel" (TX11 3).2.1 (TX11 3).2.2.1 ∈ wsX11_rentOf := by decide +kernel
def vc_X11_rentOf (p1 : Int32) (p2 : Int32) (I : MI) (J : MJ) (Q : Int32 → MI → MJ → Prop) : Prop := vp_in (8 + p1) 20 ∧ vc_X11_kindOf p1 I J (fun (r4 : Int32) (I2 : MI) (J3 : MJ) => vc_X11_strawOf p1 I2 J3 (fun (r7 : Int32) (I5 : MI) (J6 : MJ) => vp_in (4 + p1) 20 ∧ vc_X11_comesBy p2 (I 93 (Int32.toNatClampNeg (8 + p1))) r4 r7 (I5 93 (Int32.toNatClampNeg (4 + p1))) I5 J6 (fun (r11 : Int32) (I9 : MI) (J10 : MJ) => vp_in (4 + p1) 20 ∧ vp_in ((4 * p2) + 2) 36 ∧ vc_X11_priceIn ((I9 93 (Int32.toNatClampNeg (4 + p1))) + (I9 89 (Int32.toNatClampNeg ((4 * p2) + 2)))) I9 J10 (fun (r16 : Int32) (I14 : MI) (J15 : MJ) => Q (r11 * r16) I14 J15))))
set_option maxRecDepth 100000 in
set_option maxHeartbeats 4000000 in
theorem c_X11_rentOf (l : Launch) (E : ET)  (p1 : Int32) (p2 : Int32) : CI l yX11_rentOf wsX11_rentOf rmX11_rentOf E [.ref (ea E 87), .int p1, .int p2] (vc_X11_rentOf p1 p2) := by
  refine CI.of (cc := cX11_rentOf) (maxL := 3) (own := RX11) (by decide) rfl rfl (Nat.le_of_ble_eq_true rfl) ?_
  intro Z I J Q hE hl X R h
  subst hE
  subst hl
  show GW Z 3 I J 0 [(0, .ref (ea (zE Z) 87)), (1, .int p1), (2, .int p2)] []
  refine g_aload_n X dX11_rentOf_0 rfl 0 rfl ?_
  refine g_iload_n X dX11_rentOf_1 rfl 2 rfl ?_
  refine g_aload_n X dX11_rentOf_2 rfl 0 rfl ?_
  refine g_getr X (C := RX11) (T := TX11) (N := 39) (ci := 9) (k := 20) iX11_rentOf_X11 rfl kX11_rentOf_25 (Nat.le_of_ble_eq_true rfl) rfl (by decide) rfl rfl dX11_rentOf_3 ?_
  refine g_bipush X (v := 8) dX11_rentOf_6 (by decide) ?_
  refine g_iload_n X dX11_rentOf_8 rfl 1 rfl ?_
  refine g_iadd X dX11_rentOf_9 ?_
  obtain ⟨b1, h⟩ := h
  refine g_iald X (Nat.le_of_ble_eq_true rfl) rfl b1 dX11_rentOf_10 ?_
  refine g_aload_n X dX11_rentOf_11 rfl 0 rfl ?_
  refine g_iload_n X dX11_rentOf_12 rfl 1 rfl ?_
  refine g_callVI X (As := [.int p1]) (rest := [.int (I 93 (Int32.toNatClampNeg (8 + p1))), .int p2, .ref (ea (zE Z) 87)]) (T := TX11) (N := 39) (c_X11_kindOf (zl Z) (zE Z) p1) gX11_rentOf_X11_kindOf yo_X11_kindOf rfl ⟨Nat.le_of_ble_eq_true rfl, Nat.le_of_ble_eq_true rfl⟩ (Nat.le_of_ble_eq_true rfl) rfl rfl rfl dX11_rentOf_13 h (fun r4 I2 J3 h => ?_)
  refine g_aload_n X dX11_rentOf_16 rfl 0 rfl ?_
  refine g_iload_n X dX11_rentOf_17 rfl 1 rfl ?_
  refine g_callVI X (As := [.int p1]) (rest := [.int r4, .int (I 93 (Int32.toNatClampNeg (8 + p1))), .int p2, .ref (ea (zE Z) 87)]) (T := TX11) (N := 39) (c_X11_strawOf (zl Z) (zE Z) p1) gX11_rentOf_X11_strawOf yo_X11_strawOf rfl ⟨Nat.le_of_ble_eq_true rfl, Nat.le_of_ble_eq_true rfl⟩ (Nat.le_of_ble_eq_true rfl) rfl rfl rfl dX11_rentOf_18 h (fun r7 I5 J6 h => ?_)
  refine g_aload_n X dX11_rentOf_21 rfl 0 rfl ?_
  refine g_getr X (C := RX11) (T := TX11) (N := 39) (ci := 9) (k := 20) iX11_rentOf_X11 rfl kX11_rentOf_25 (Nat.le_of_ble_eq_true rfl) rfl (by decide) rfl rfl dX11_rentOf_22 ?_
  refine g_iconst X (v := 4) dX11_rentOf_25 (by decide) ?_
  refine g_iload_n X dX11_rentOf_26 rfl 1 rfl ?_
  refine g_iadd X dX11_rentOf_27 ?_
  obtain ⟨b8, h⟩ := h
  refine g_iald X (Nat.le_of_ble_eq_true rfl) rfl b8 dX11_rentOf_28 ?_
  refine g_callVI X (As := [.int p2, .int (I 93 (Int32.toNatClampNeg (8 + p1))), .int r4, .int r7, .int (I5 93 (Int32.toNatClampNeg (4 + p1)))]) (rest := []) (T := TX11) (N := 39) (c_X11_comesBy (zl Z) (zE Z) p2 (I 93 (Int32.toNatClampNeg (8 + p1))) r4 r7 (I5 93 (Int32.toNatClampNeg (4 + p1)))) gX11_rentOf_X11_comesBy yo_X11_comesBy rfl ⟨Nat.le_of_ble_eq_true rfl, Nat.le_of_ble_eq_true rfl⟩ (Nat.le_of_ble_eq_true rfl) rfl rfl rfl dX11_rentOf_29 h (fun r11 I9 J10 h => ?_)
  refine g_aload_n X dX11_rentOf_32 rfl 0 rfl ?_
  refine g_getr X (C := RX11) (T := TX11) (N := 39) (ci := 9) (k := 20) iX11_rentOf_X11 rfl kX11_rentOf_25 (Nat.le_of_ble_eq_true rfl) rfl (by decide) rfl rfl dX11_rentOf_33 ?_
  refine g_iconst X (v := 4) dX11_rentOf_36 (by decide) ?_
  refine g_iload_n X dX11_rentOf_37 rfl 1 rfl ?_
  refine g_iadd X dX11_rentOf_38 ?_
  obtain ⟨b12, h⟩ := h
  refine g_iald X (Nat.le_of_ble_eq_true rfl) rfl b12 dX11_rentOf_39 ?_
  refine g_aload_n X dX11_rentOf_40 rfl 0 rfl ?_
  refine g_getr X (C := RX11) (T := TX11) (N := 39) (ci := 9) (k := 3) iX11_rentOf_X11 rfl kX11_rentOf_13 (Nat.le_of_ble_eq_true rfl) rfl (by decide) rfl rfl dX11_rentOf_41 ?_
  refine g_iconst X (v := 4) dX11_rentOf_44 (by decide) ?_
  refine g_iload_n X dX11_rentOf_45 rfl 2 rfl ?_
  refine g_imul X dX11_rentOf_46 ?_
  refine g_iconst X (v := 2) dX11_rentOf_47 (by decide) ?_
  refine g_iadd X dX11_rentOf_48 ?_
  obtain ⟨b13, h⟩ := h
  refine g_iald X (Nat.le_of_ble_eq_true rfl) rfl b13 dX11_rentOf_49 ?_
  refine g_iadd X dX11_rentOf_50 ?_
  refine g_callSI X (As := [.int ((I9 93 (Int32.toNatClampNeg (4 + p1))) + (I9 89 (Int32.toNatClampNeg ((4 * p2) + 2))))]) (rest := [.int r11]) (c_X11_priceIn (zl Z) (zE Z) ((I9 93 (Int32.toNatClampNeg (4 + p1))) + (I9 89 (Int32.toNatClampNeg ((4 * p2) + 2))))) gX11_rentOf_X11_priceIn yo_X11_priceIn.2 rfl ⟨Nat.le_of_ble_eq_true rfl, Nat.le_of_ble_eq_true rfl⟩ rfl dX11_rentOf_51 h (fun r16 I14 J15 h => ?_)
  refine g_imul X dX11_rentOf_54 ?_
  exact g_iret X R dX11_rentOf_55 h

/-! X11_rent.rent(III)I -/
def rmX11_rent : Room := { frames := 4, cells := 0, slots := 0, locals := 97 }
theorem yo_X11_rent : yX11_rent.cls = RX11 ∧ yX11_rent.cls ≠ "java/lang/invoke/MethodHandle" ∧ yX11_rent.cls ≠ "java/lang/invoke/VarHandle" ∧ (parseMethodDescriptor yX11_rent.desc).map (fun d => d.parameters.length) = some 3 := by decide +kernel
def vc_X11_rent (p1 : Int32) (p2 : Int32) (p3 : Int32) (I : MI) (J : MJ) (Q : Int32 → MI → MJ → Prop) : Prop := vc_X11_isCart p1 I J (fun (r3 : Int32) (I1 : MI) (J2 : MJ) => ((r3 = 0 → Q (-2) I1 J2) ∧ (¬ r3 = 0 → vc_X11_isRoad p2 I1 J2 (fun (r7 : Int32) (I5 : MI) (J6 : MJ) => ((r7 = 0 → Q (-2) I5 J6) ∧ (¬ r7 = 0 → vc_X11_isRoad p3 I5 J6 (fun (r11 : Int32) (I9 : MI) (J10 : MJ) => ((r11 = 0 → Q (-2) I9 J10) ∧ (¬ r11 = 0 → ((¬ p2 = p3 → vc_X11_canGo p1 p2 I9 J10 (fun (r16 : Int32) (I14 : MI) (J15 : MJ) => ((r16 = 0 → Q (-4) I14 J15) ∧ (¬ r16 = 0 → vc_X11_canGo p1 p3 I14 J15 (fun (r20 : Int32) (I18 : MI) (J19 : MJ) => ((r20 = 0 → Q (-4) I18 J19) ∧ (¬ r20 = 0 → vc_X11_rentOf p1 p2 I18 J19 (fun (r24 : Int32) (I22 : MI) (J23 : MJ) => vc_X11_rentOf p1 p3 I22 J23 (fun (r27 : Int32) (I25 : MI) (J26 : MJ) => Q ((r24 - r27) + 9999) I25 J26))))))))) ∧ (p2 = p3 → Q (-2) I9 J10)))))))))))
set_option maxRecDepth 100000 in
set_option maxHeartbeats 4000000 in
theorem c_X11_rent (l : Launch) (E : ET)  (p1 : Int32) (p2 : Int32) (p3 : Int32) : CI l yX11_rent wsX11_rent rmX11_rent E [.ref (ea E 87), .int p1, .int p2, .int p3] (vc_X11_rent p1 p2 p3) := by
  refine CI.of (cc := cX11_rent) (maxL := 4) (own := RX11) (by decide) rfl rfl (Nat.le_of_ble_eq_true rfl) ?_
  intro Z I J Q hE hl X R h
  subst hE
  subst hl
  show GW Z 4 I J 0 [(0, .ref (ea (zE Z) 87)), (1, .int p1), (2, .int p2), (3, .int p3)] []
  refine g_aload_n X dX11_rent_0 rfl 0 rfl ?_
  refine g_iload_n X dX11_rent_1 rfl 1 rfl ?_
  refine g_callVI X (As := [.int p1]) (rest := []) (T := TX11) (N := 39) (c_X11_isCart (zl Z) (zE Z) p1) gX11_rent_X11_isCart yo_X11_isCart rfl ⟨Nat.le_of_ble_eq_true rfl, Nat.le_of_ble_eq_true rfl⟩ (Nat.le_of_ble_eq_true rfl) rfl rfl rfl dX11_rent_2 h (fun r3 I1 J2 h => ?_)
  refine g_if_eq X (tgt := 29) dX11_rent_5 (by decide) (fun c4 => ?_) (fun c4 => ?_)
  · have h := h.1 c4
    refine g_bipush X (v := (-2)) dX11_rent_29 (by decide) ?_
    exact g_iret X R dX11_rent_31 h
  · have h := h.2 c4
    refine g_aload_n X dX11_rent_8 rfl 0 rfl ?_
    refine g_iload_n X dX11_rent_9 rfl 2 rfl ?_
    refine g_callVI X (As := [.int p2]) (rest := []) (T := TX11) (N := 39) (c_X11_isRoad (zl Z) (zE Z) p2) gX11_rent_X11_isRoad yo_X11_isRoad rfl ⟨Nat.le_of_ble_eq_true rfl, Nat.le_of_ble_eq_true rfl⟩ (Nat.le_of_ble_eq_true rfl) rfl rfl rfl dX11_rent_10 h (fun r7 I5 J6 h => ?_)
    refine g_if_eq X (tgt := 29) dX11_rent_13 (by decide) (fun c8 => ?_) (fun c8 => ?_)
    · have h := h.1 c8
      refine g_bipush X (v := (-2)) dX11_rent_29 (by decide) ?_
      exact g_iret X R dX11_rent_31 h
    · have h := h.2 c8
      refine g_aload_n X dX11_rent_16 rfl 0 rfl ?_
      refine g_iload_n X dX11_rent_17 rfl 3 rfl ?_
      refine g_callVI X (As := [.int p3]) (rest := []) (T := TX11) (N := 39) (c_X11_isRoad (zl Z) (zE Z) p3) gX11_rent_X11_isRoad yo_X11_isRoad rfl ⟨Nat.le_of_ble_eq_true rfl, Nat.le_of_ble_eq_true rfl⟩ (Nat.le_of_ble_eq_true rfl) rfl rfl rfl dX11_rent_18 h (fun r11 I9 J10 h => ?_)
      refine g_if_eq X (tgt := 29) dX11_rent_21 (by decide) (fun c12 => ?_) (fun c12 => ?_)
      · have h := h.1 c12
        refine g_bipush X (v := (-2)) dX11_rent_29 (by decide) ?_
        exact g_iret X R dX11_rent_31 h
      · have h := h.2 c12
        refine g_iload_n X dX11_rent_24 rfl 2 rfl ?_
        refine g_iload_n X dX11_rent_25 rfl 3 rfl ?_
        refine g_icmp_ne X (tgt := 32) dX11_rent_26 (by decide) (fun c13 => ?_) (fun c13 => ?_)
        · have h := h.1 c13
          refine g_aload_n X dX11_rent_32 rfl 0 rfl ?_
          refine g_iload_n X dX11_rent_33 rfl 1 rfl ?_
          refine g_iload_n X dX11_rent_34 rfl 2 rfl ?_
          refine g_callVI X (As := [.int p1, .int p2]) (rest := []) (T := TX11) (N := 39) (c_X11_canGo (zl Z) (zE Z) p1 p2) gX11_rent_X11_canGo yo_X11_canGo rfl ⟨Nat.le_of_ble_eq_true rfl, Nat.le_of_ble_eq_true rfl⟩ (Nat.le_of_ble_eq_true rfl) rfl rfl rfl dX11_rent_35 h (fun r16 I14 J15 h => ?_)
          refine g_if_eq X (tgt := 70) dX11_rent_38 (by decide) (fun c17 => ?_) (fun c17 => ?_)
          · have h := h.1 c17
            refine g_bipush X (v := (-4)) dX11_rent_70 (by decide) ?_
            exact g_iret X R dX11_rent_72 h
          · have h := h.2 c17
            refine g_aload_n X dX11_rent_41 rfl 0 rfl ?_
            refine g_iload_n X dX11_rent_42 rfl 1 rfl ?_
            refine g_iload_n X dX11_rent_43 rfl 3 rfl ?_
            refine g_callVI X (As := [.int p1, .int p3]) (rest := []) (T := TX11) (N := 39) (c_X11_canGo (zl Z) (zE Z) p1 p3) gX11_rent_X11_canGo yo_X11_canGo rfl ⟨Nat.le_of_ble_eq_true rfl, Nat.le_of_ble_eq_true rfl⟩ (Nat.le_of_ble_eq_true rfl) rfl rfl rfl dX11_rent_44 h (fun r20 I18 J19 h => ?_)
            refine g_if_eq X (tgt := 70) dX11_rent_47 (by decide) (fun c21 => ?_) (fun c21 => ?_)
            · have h := h.1 c21
              refine g_bipush X (v := (-4)) dX11_rent_70 (by decide) ?_
              exact g_iret X R dX11_rent_72 h
            · have h := h.2 c21
              refine g_aload_n X dX11_rent_50 rfl 0 rfl ?_
              refine g_iload_n X dX11_rent_51 rfl 1 rfl ?_
              refine g_iload_n X dX11_rent_52 rfl 2 rfl ?_
              refine g_callVI X (As := [.int p1, .int p2]) (rest := []) (T := TX11) (N := 39) (c_X11_rentOf (zl Z) (zE Z) p1 p2) gX11_rent_X11_rentOf yo_X11_rentOf rfl ⟨Nat.le_of_ble_eq_true rfl, Nat.le_of_ble_eq_true rfl⟩ (Nat.le_of_ble_eq_true rfl) rfl rfl rfl dX11_rent_53 h (fun r24 I22 J23 h => ?_)
              refine g_aload_n X dX11_rent_56 rfl 0 rfl ?_
              refine g_iload_n X dX11_rent_57 rfl 1 rfl ?_
              refine g_iload_n X dX11_rent_58 rfl 3 rfl ?_
              refine g_callVI X (As := [.int p1, .int p3]) (rest := [.int r24]) (T := TX11) (N := 39) (c_X11_rentOf (zl Z) (zE Z) p1 p3) gX11_rent_X11_rentOf yo_X11_rentOf rfl ⟨Nat.le_of_ble_eq_true rfl, Nat.le_of_ble_eq_true rfl⟩ (Nat.le_of_ble_eq_true rfl) rfl rfl rfl dX11_rent_59 h (fun r27 I25 J26 h => ?_)
              refine g_isub X dX11_rent_62 ?_
              refine g_sipush X (v := 9999) dX11_rent_63 (by decide) ?_
              refine g_iadd X dX11_rent_66 ?_
              refine g_goto X (tgt := 72) dX11_rent_67 (by decide) ?_
              exact g_iret X R dX11_rent_72 h
        · have h := h.2 c13
          refine g_bipush X (v := (-2)) dX11_rent_29 (by decide) ?_
          exact g_iret X R dX11_rent_31 h

/-! X11_costOf.costOf(I)I -/
def rmX11_costOf : Room := { frames := 0, cells := 0, slots := 0, locals := 0 }
theorem yo_X11_costOf : yX11_costOf.cls = RX11 ∧ yX11_costOf.cls ≠ "java/lang/invoke/MethodHandle" ∧ yX11_costOf.cls ≠ "java/lang/invoke/VarHandle" ∧ (parseMethodDescriptor yX11_costOf.desc).map (fun d => d.parameters.length) = some 1 := by decide +kernel
theorem kX11_costOf_13 : Cond.fieldLink RX11 13 "SnowCourseModel" (TX11 3).2.1 (TX11 3).2.2.1 ∈ wsX11_costOf := by decide +kernel
theorem iX11_costOf_X11 : ∀ w ∈ u_ws RX11 TX11 39, w ∈ wsX11_costOf := by decide +kernel
def vc_X11_costOf_B20  (Q : Int32 → MI → MJ → Prop)  (v1 : Int32) (s0 : Int32) (I : MI) (J : MJ) : Prop := vp_in ((4 * v1) + 2) 36 ∧ Q (s0 + (I 89 (Int32.toNatClampNeg ((4 * v1) + 2)))) I J
set_option maxRecDepth 100000 in
set_option maxHeartbeats 4000000 in
theorem w_X11_costOf_B20 {Z : RT}  (X : Cx Z cX11_costOf 2 RX11 wsX11_costOf rmX11_costOf (some .int)) {Q : Int32 → MI → MJ → Prop} (R : RI Z Q)    (v1 : Int32) (s0 : Int32) (I : MI) (J : MJ) (h : vc_X11_costOf_B20  Q  v1 s0 I J) : GW Z 2 I J 20 [(0, .ref (ea (zE Z) 87)), (1, .int v1)] [.int s0] := by
  refine g_aload_n X dX11_costOf_20 rfl 0 rfl ?_
  refine g_getr X (C := RX11) (T := TX11) (N := 39) (ci := 9) (k := 3) iX11_costOf_X11 rfl kX11_costOf_13 (Nat.le_of_ble_eq_true rfl) rfl (by decide) rfl rfl dX11_costOf_21 ?_
  refine g_iconst X (v := 4) dX11_costOf_24 (by decide) ?_
  refine g_iload_n X dX11_costOf_25 rfl 1 rfl ?_
  refine g_imul X dX11_costOf_26 ?_
  refine g_iconst X (v := 2) dX11_costOf_27 (by decide) ?_
  refine g_iadd X dX11_costOf_28 ?_
  obtain ⟨b1, h⟩ := h
  refine g_iald X (Nat.le_of_ble_eq_true rfl) rfl b1 dX11_costOf_29 ?_
  refine g_iadd X dX11_costOf_30 ?_
  exact g_iret X R dX11_costOf_31 h
def vc_X11_costOf (p1 : Int32) (I : MI) (J : MJ) (Q : Int32 → MI → MJ → Prop) : Prop := vp_in ((4 * p1) + 3) 36 ∧ ((¬ (I 89 (Int32.toNatClampNeg ((4 * p1) + 3))) = 2 → vc_X11_costOf_B20  Q  p1 0 I J) ∧ ((I 89 (Int32.toNatClampNeg ((4 * p1) + 3))) = 2 → vc_X11_costOf_B20  Q  p1 100 I J))
set_option maxRecDepth 100000 in
set_option maxHeartbeats 4000000 in
theorem c_X11_costOf (l : Launch) (E : ET)  (p1 : Int32) : CI l yX11_costOf wsX11_costOf rmX11_costOf E [.ref (ea E 87), .int p1] (vc_X11_costOf p1) := by
  refine CI.of (cc := cX11_costOf) (maxL := 2) (own := RX11) (by decide) rfl rfl (Nat.le_of_ble_eq_true rfl) ?_
  intro Z I J Q hE hl X R h
  subst hE
  subst hl
  show GW Z 2 I J 0 [(0, .ref (ea (zE Z) 87)), (1, .int p1)] []
  refine g_aload_n X dX11_costOf_0 rfl 0 rfl ?_
  refine g_getr X (C := RX11) (T := TX11) (N := 39) (ci := 9) (k := 3) iX11_costOf_X11 rfl kX11_costOf_13 (Nat.le_of_ble_eq_true rfl) rfl (by decide) rfl rfl dX11_costOf_1 ?_
  refine g_iconst X (v := 4) dX11_costOf_4 (by decide) ?_
  refine g_iload_n X dX11_costOf_5 rfl 1 rfl ?_
  refine g_imul X dX11_costOf_6 ?_
  refine g_iconst X (v := 3) dX11_costOf_7 (by decide) ?_
  refine g_iadd X dX11_costOf_8 ?_
  obtain ⟨b2, h⟩ := h
  refine g_iald X (Nat.le_of_ble_eq_true rfl) rfl b2 dX11_costOf_9 ?_
  refine g_iconst X (v := 2) dX11_costOf_10 (by decide) ?_
  refine g_icmp_ne X (tgt := 19) dX11_costOf_11 (by decide) (fun c3 => ?_) (fun c3 => ?_)
  · have h := h.1 c3
    refine g_iconst X (v := 0) dX11_costOf_19 (by decide) ?_
    refine GW.sub (lv' := [(0, .ref (ea (zE Z) 87)), (1, .int p1)]) [0, 1] rfl ?_
    exact w_X11_costOf_B20 X R   p1 0 I J h
  · have h := h.2 c3
    refine g_bipush X (v := 100) dX11_costOf_14 (by decide) ?_
    refine g_goto X (tgt := 20) dX11_costOf_16 (by decide) ?_
    refine GW.sub (lv' := [(0, .ref (ea (zE Z) 87)), (1, .int p1)]) [0, 1] rfl ?_
    exact w_X11_costOf_B20 X R   p1 100 I J h

/-! X11_layDist.layDist(I)V -/
def rmX11_layDist : Room := { frames := 1, cells := 0, slots := 0, locals := 21 }
theorem yo_X11_layDist : yX11_layDist.cls = RX11 ∧ yX11_layDist.cls ≠ "java/lang/invoke/MethodHandle" ∧ yX11_layDist.cls ≠ "java/lang/invoke/VarHandle" ∧ (parseMethodDescriptor yX11_layDist.desc).map (fun d => d.parameters.length) = some 1 := by decide +kernel
theorem kX11_layDist_63 : Cond.fieldLink RX11 63 "SnowCourseModel" (TX11 35).2.1 (TX11 35).2.2.1 ∈ wsX11_layDist := by decide +kernel
theorem iX11_layDist_X11 : ∀ w ∈ u_ws RX11 TX11 39, w ∈ wsX11_layDist := by decide +kernel
theorem kX11_layDist_98 : Cond.fieldLink RX11 98 "SnowCourseModel" (TX11 2).2.1 (TX11 2).2.2.1 ∈ wsX11_layDist := by decide +kernel
theorem kX11_layDist_13 : Cond.fieldLink RX11 13 "SnowCourseModel" (TX11 3).2.1 (TX11 3).2.2.1 ∈ wsX11_layDist := by decide +kernel
theorem kX11_layDist_c301 : Cond.constant RX11 301 (99999) ∈ wsX11_layDist := by decide +kernel
def vc_X11_layDist_B25  (Q : MI → MJ → Prop) (k2 : Int32 → Int32 → MI → MJ → Prop) (v1 : Int32) (v2 : Int32) (s1 : Int32) (s2 : Int32) (I : MI) (J : MJ) : Prop := vp_in s1 7 ∧ ∀ I2 : MI, I2 = wI I 105 (Int32.toNatClampNeg s1) s2 → ∀ x3 : Int32, x3 = v2 + 1 → k2 v1 x3 I2 J
set_option maxRecDepth 100000 in
set_option maxHeartbeats 4000000 in
theorem w_X11_layDist_B25 {Z : RT}  (X : Cx Z cX11_layDist 7 RX11 wsX11_layDist rmX11_layDist none) {Q : MI → MJ → Prop} (R : RV Z Q)  {k2 : Int32 → Int32 → MI → MJ → Prop} (hk2 : ∀ (v1 : Int32) (v2 : Int32) (I : MI) (J : MJ), k2 v1 v2 I J → GW Z 7 I J 2 [(0, .ref (ea (zE Z) 87)), (1, .int v1), (2, .int v2)] []) (v1 : Int32) (v2 : Int32) (s1 : Int32) (s2 : Int32) (I : MI) (J : MJ) (h : vc_X11_layDist_B25  Q k2 v1 v2 s1 s2 I J) : GW Z 7 I J 25 [(0, .ref (ea (zE Z) 87)), (1, .int v1), (2, .int v2)] [.int s2, .int s1, .ref (ea (zE Z) 105)] := by
  obtain ⟨b1, h⟩ := h
  refine g_iast X (Nat.le_of_ble_eq_true rfl) rfl b1 dX11_layDist_25 ?_
  refine g_nmI (fun I2 eI2 => ?_)
  have h := h I2 eI2
  obtain ⟨x3, ex3⟩ : ∃ y : Int32, y = v2 + 1 := ⟨_, rfl⟩
  have h := h x3 ex3
  refine g_iinc X (q := 2) (v := x3) (lv' := [(2, .int x3), (0, .ref (ea (zE Z) 87)), (1, .int v1)]) dX11_layDist_26 rfl (by rw [ex3]; rfl) (by decide) rfl ?_
  refine g_goto X (tgt := 2) dX11_layDist_29 (by decide) ?_
  refine GW.sub (lv' := [(0, .ref (ea (zE Z) 87)), (1, .int v1), (2, .int x3)]) [1, 2, 0] rfl ?_
  exact hk2 v1 x3 I2 J h
def vc_X11_layDist_B172  (Q : MI → MJ → Prop) (k34 : Int32 → MI → MJ → Prop) (k42 : Int32 → Int32 → MI → MJ → Prop) (v2 : Int32) (v3 : Int32) (s1 : Int32) (s2 : Int32) (I : MI) (J : MJ) : Prop := vp_in s1 7 ∧ ∀ I5 : MI, I5 = wI I 105 (Int32.toNatClampNeg s1) s2 → ∀ x6 : Int32, x6 = v3 + 1 → k42 v2 x6 I5 J
set_option maxRecDepth 100000 in
set_option maxHeartbeats 4000000 in
theorem w_X11_layDist_B172 {Z : RT}  (X : Cx Z cX11_layDist 7 RX11 wsX11_layDist rmX11_layDist none) {Q : MI → MJ → Prop} (R : RV Z Q)  {k34 : Int32 → MI → MJ → Prop} {k42 : Int32 → Int32 → MI → MJ → Prop} (hk34 : ∀ (v2 : Int32) (I : MI) (J : MJ), k34 v2 I J → GW Z 7 I J 34 [(0, .ref (ea (zE Z) 87)), (2, .int v2)] []) (hk42 : ∀ (v2 : Int32) (v3 : Int32) (I : MI) (J : MJ), k42 v2 v3 I J → GW Z 7 I J 42 [(0, .ref (ea (zE Z) 87)), (2, .int v2), (3, .int v3)] []) (v2 : Int32) (v3 : Int32) (s1 : Int32) (s2 : Int32) (I : MI) (J : MJ) (h : vc_X11_layDist_B172  Q k34 k42 v2 v3 s1 s2 I J) : GW Z 7 I J 172 [(0, .ref (ea (zE Z) 87)), (2, .int v2), (3, .int v3)] [.int s2, .int s1, .ref (ea (zE Z) 105)] := by
  obtain ⟨b4, h⟩ := h
  refine g_iast X (Nat.le_of_ble_eq_true rfl) rfl b4 dX11_layDist_172 ?_
  refine g_nmI (fun I5 eI5 => ?_)
  have h := h I5 eI5
  obtain ⟨x6, ex6⟩ : ∃ y : Int32, y = v3 + 1 := ⟨_, rfl⟩
  have h := h x6 ex6
  refine g_iinc X (q := 2) (v := x6) (lv' := [(3, .int x6), (0, .ref (ea (zE Z) 87)), (2, .int v2)]) dX11_layDist_173 rfl (by rw [ex6]; rfl) (by decide) rfl ?_
  refine g_goto X (tgt := 42) dX11_layDist_176 (by decide) ?_
  refine GW.sub (lv' := [(0, .ref (ea (zE Z) 87)), (2, .int v2), (3, .int x6)]) [1, 2, 0] rfl ?_
  exact hk42 v2 x6 I5 J h
def vc_X11_layDist_B125  (Q : MI → MJ → Prop) (k34 : Int32 → MI → MJ → Prop) (k42 : Int32 → Int32 → MI → MJ → Prop) (v2 : Int32) (v3 : Int32) (v4 : Int32) (v5 : Int32) (v6 : Int32) (s1 : Int32) (s2 : Int32) (I : MI) (J : MJ) : Prop := vp_in s1 7 ∧ ∀ I8 : MI, I8 = wI I 105 (Int32.toNatClampNeg s1) s2 → vp_in v5 7 ∧ vp_in v6 7 ∧ (((I8 105 (Int32.toNatClampNeg v6)) ≤ ((I8 105 (Int32.toNatClampNeg v5)) + v4) → vp_in v6 7 ∧ vc_X11_layDist_B172  Q k34 k42 v2 v3 v6 (I8 105 (Int32.toNatClampNeg v6)) I8 J) ∧ (¬ (I8 105 (Int32.toNatClampNeg v6)) ≤ ((I8 105 (Int32.toNatClampNeg v5)) + v4) → vp_in v5 7 ∧ vc_X11_layDist_B172  Q k34 k42 v2 v3 v6 ((I8 105 (Int32.toNatClampNeg v5)) + v4) I8 J))
set_option maxRecDepth 100000 in
set_option maxHeartbeats 4000000 in
theorem w_X11_layDist_B125 {Z : RT}  (X : Cx Z cX11_layDist 7 RX11 wsX11_layDist rmX11_layDist none) {Q : MI → MJ → Prop} (R : RV Z Q)  {k34 : Int32 → MI → MJ → Prop} {k42 : Int32 → Int32 → MI → MJ → Prop} (hk34 : ∀ (v2 : Int32) (I : MI) (J : MJ), k34 v2 I J → GW Z 7 I J 34 [(0, .ref (ea (zE Z) 87)), (2, .int v2)] []) (hk42 : ∀ (v2 : Int32) (v3 : Int32) (I : MI) (J : MJ), k42 v2 v3 I J → GW Z 7 I J 42 [(0, .ref (ea (zE Z) 87)), (2, .int v2), (3, .int v3)] []) (v2 : Int32) (v3 : Int32) (v4 : Int32) (v5 : Int32) (v6 : Int32) (s1 : Int32) (s2 : Int32) (I : MI) (J : MJ) (h : vc_X11_layDist_B125  Q k34 k42 v2 v3 v4 v5 v6 s1 s2 I J) : GW Z 7 I J 125 [(0, .ref (ea (zE Z) 87)), (2, .int v2), (3, .int v3), (4, .int v4), (5, .int v5), (6, .int v6)] [.int s2, .int s1, .ref (ea (zE Z) 105)] := by
  obtain ⟨b7, h⟩ := h
  refine g_iast X (Nat.le_of_ble_eq_true rfl) rfl b7 dX11_layDist_125 ?_
  refine g_nmI (fun I8 eI8 => ?_)
  have h := h I8 eI8
  refine g_aload_n X dX11_layDist_126 rfl 0 rfl ?_
  refine g_getr X (C := RX11) (T := TX11) (N := 39) (ci := 9) (k := 35) iX11_layDist_X11 rfl kX11_layDist_63 (Nat.le_of_ble_eq_true rfl) rfl (by decide) rfl rfl dX11_layDist_127 ?_
  refine g_iload X dX11_layDist_130 5 rfl ?_
  refine g_aload_n X dX11_layDist_132 rfl 0 rfl ?_
  refine g_getr X (C := RX11) (T := TX11) (N := 39) (ci := 9) (k := 35) iX11_layDist_X11 rfl kX11_layDist_63 (Nat.le_of_ble_eq_true rfl) rfl (by decide) rfl rfl dX11_layDist_133 ?_
  refine g_iload X dX11_layDist_136 4 rfl ?_
  obtain ⟨b9, h⟩ := h
  refine g_iald X (Nat.le_of_ble_eq_true rfl) rfl b9 dX11_layDist_138 ?_
  refine g_iload X dX11_layDist_139 3 rfl ?_
  refine g_iadd X dX11_layDist_141 ?_
  refine g_aload_n X dX11_layDist_142 rfl 0 rfl ?_
  refine g_getr X (C := RX11) (T := TX11) (N := 39) (ci := 9) (k := 35) iX11_layDist_X11 rfl kX11_layDist_63 (Nat.le_of_ble_eq_true rfl) rfl (by decide) rfl rfl dX11_layDist_143 ?_
  refine g_iload X dX11_layDist_146 5 rfl ?_
  obtain ⟨b10, h⟩ := h
  refine g_iald X (Nat.le_of_ble_eq_true rfl) rfl b10 dX11_layDist_148 ?_
  refine g_icmp_ge X (tgt := 165) dX11_layDist_149 (by decide) (fun c11 => ?_) (fun c11 => ?_)
  · have h := h.1 c11
    refine g_aload_n X dX11_layDist_165 rfl 0 rfl ?_
    refine g_getr X (C := RX11) (T := TX11) (N := 39) (ci := 9) (k := 35) iX11_layDist_X11 rfl kX11_layDist_63 (Nat.le_of_ble_eq_true rfl) rfl (by decide) rfl rfl dX11_layDist_166 ?_
    refine g_iload X dX11_layDist_169 5 rfl ?_
    obtain ⟨b12, h⟩ := h
    refine g_iald X (Nat.le_of_ble_eq_true rfl) rfl b12 dX11_layDist_171 ?_
    refine GW.sub (lv' := [(0, .ref (ea (zE Z) 87)), (2, .int v2), (3, .int v3)]) [0, 1, 2] rfl ?_
    exact w_X11_layDist_B172 X R  hk34 hk42 v2 v3 v6 (I8 105 (Int32.toNatClampNeg v6)) I8 J h
  · have h := h.2 c11
    refine g_aload_n X dX11_layDist_152 rfl 0 rfl ?_
    refine g_getr X (C := RX11) (T := TX11) (N := 39) (ci := 9) (k := 35) iX11_layDist_X11 rfl kX11_layDist_63 (Nat.le_of_ble_eq_true rfl) rfl (by decide) rfl rfl dX11_layDist_153 ?_
    refine g_iload X dX11_layDist_156 4 rfl ?_
    obtain ⟨b13, h⟩ := h
    refine g_iald X (Nat.le_of_ble_eq_true rfl) rfl b13 dX11_layDist_158 ?_
    refine g_iload X dX11_layDist_159 3 rfl ?_
    refine g_iadd X dX11_layDist_161 ?_
    refine g_goto X (tgt := 172) dX11_layDist_162 (by decide) ?_
    refine GW.sub (lv' := [(0, .ref (ea (zE Z) 87)), (2, .int v2), (3, .int v3)]) [0, 1, 2] rfl ?_
    exact w_X11_layDist_B172 X R  hk34 hk42 v2 v3 v6 ((I8 105 (Int32.toNatClampNeg v5)) + v4) I8 J h
def vc_X11_layDist_L42s  (Q : MI → MJ → Prop) (k34 : Int32 → MI → MJ → Prop) (k42 : Int32 → Int32 → MI → MJ → Prop) (v2 : Int32) (v3 : Int32) (I : MI) (J : MJ) : Prop := (((I 87 2) ≤ v3 → ∀ x15 : Int32, x15 = v2 + 1 → k34 x15 I J) ∧ (¬ (I 87 2) ≤ v3 → vc_X11_costOf v3 I J (fun (r18 : Int32) (I16 : MI) (J17 : MJ) => vp_in (4 * v3) 36 ∧ ∀ x20 : Int32, x20 = I16 89 (Int32.toNatClampNeg (4 * v3)) → vp_in ((4 * v3) + 1) 36 ∧ ∀ x22 : Int32, x22 = I16 89 (Int32.toNatClampNeg ((4 * v3) + 1)) → vp_in x22 7 ∧ vp_in x20 7 ∧ (((I16 105 (Int32.toNatClampNeg x20)) ≤ ((I16 105 (Int32.toNatClampNeg x22)) + r18) → vp_in x20 7 ∧ vc_X11_layDist_B125  Q k34 k42 v2 v3 r18 x20 x22 x20 (I16 105 (Int32.toNatClampNeg x20)) I16 J17) ∧ (¬ (I16 105 (Int32.toNatClampNeg x20)) ≤ ((I16 105 (Int32.toNatClampNeg x22)) + r18) → vp_in x22 7 ∧ vc_X11_layDist_B125  Q k34 k42 v2 v3 r18 x20 x22 x20 ((I16 105 (Int32.toNatClampNeg x22)) + r18) I16 J17)))))
def vc_X11_layDist_L42  (Q : MI → MJ → Prop) (k34 : Int32 → MI → MJ → Prop) (n : Nat) : Int32 → Int32 → MI → MJ → Prop := Nat.rec (fun _ _ _ _ => False) (fun _ ih => vc_X11_layDist_L42s  Q k34 ih) n
set_option maxRecDepth 100000 in
set_option maxHeartbeats 4000000 in
theorem w_X11_layDist_L42s {Z : RT}  (X : Cx Z cX11_layDist 7 RX11 wsX11_layDist rmX11_layDist none) {Q : MI → MJ → Prop} (R : RV Z Q)  {k34 : Int32 → MI → MJ → Prop} (hk34 : ∀ (v2 : Int32) (I : MI) (J : MJ), k34 v2 I J → GW Z 7 I J 34 [(0, .ref (ea (zE Z) 87)), (2, .int v2)] []) {k42 : Int32 → Int32 → MI → MJ → Prop} (hk42 : ∀ (v2 : Int32) (v3 : Int32) (I : MI) (J : MJ), k42 v2 v3 I J → GW Z 7 I J 42 [(0, .ref (ea (zE Z) 87)), (2, .int v2), (3, .int v3)] []) (v2 : Int32) (v3 : Int32) (I : MI) (J : MJ) (h : vc_X11_layDist_L42s  Q k34 k42 v2 v3 I J) : GW Z 7 I J 42 [(0, .ref (ea (zE Z) 87)), (2, .int v2), (3, .int v3)] [] := by
  refine g_iload_n X dX11_layDist_42 rfl 2 rfl ?_
  refine g_aload_n X dX11_layDist_43 rfl 0 rfl ?_
  refine g_geti X (C := RX11) (T := TX11) (N := 39) (ci := 9) (k := 2) iX11_layDist_X11 rfl kX11_layDist_98 (Nat.le_of_ble_eq_true rfl) rfl (by decide) rfl rfl dX11_layDist_44 ?_
  refine g_icmp_ge X (tgt := 179) dX11_layDist_47 (by decide) (fun c14 => ?_) (fun c14 => ?_)
  · have h := h.1 c14
    obtain ⟨x15, ex15⟩ : ∃ y : Int32, y = v2 + 1 := ⟨_, rfl⟩
    have h := h x15 ex15
    refine g_iinc X (q := 1) (v := x15) (lv' := [(2, .int x15), (0, .ref (ea (zE Z) 87)), (3, .int v3)]) dX11_layDist_179 rfl (by rw [ex15]; rfl) (by decide) rfl ?_
    refine g_goto X (tgt := 34) dX11_layDist_182 (by decide) ?_
    refine GW.sub (lv' := [(0, .ref (ea (zE Z) 87)), (2, .int x15)]) [1, 0] rfl ?_
    exact hk34 x15 I J h
  · have h := h.2 c14
    refine g_aload_n X dX11_layDist_50 rfl 0 rfl ?_
    refine g_iload_n X dX11_layDist_51 rfl 2 rfl ?_
    refine g_callVI X (As := [.int v3]) (rest := []) (T := TX11) (N := 39) (c_X11_costOf (zl Z) (zE Z) v3) gX11_layDist_X11_costOf yo_X11_costOf rfl ⟨Nat.le_of_ble_eq_true rfl, Nat.le_of_ble_eq_true rfl⟩ (Nat.le_of_ble_eq_true rfl) rfl rfl rfl dX11_layDist_52 h (fun r18 I16 J17 h => ?_)
    refine g_istore X (lv' := [(4, .int r18), (0, .ref (ea (zE Z) 87)), (2, .int v2), (3, .int v3)]) dX11_layDist_55 (by decide) rfl ?_
    refine g_aload_n X dX11_layDist_57 rfl 1 rfl ?_
    refine g_getr X (C := RX11) (T := TX11) (N := 39) (ci := 9) (k := 3) iX11_layDist_X11 rfl kX11_layDist_13 (Nat.le_of_ble_eq_true rfl) rfl (by decide) rfl rfl dX11_layDist_58 ?_
    refine g_iconst X (v := 4) dX11_layDist_61 (by decide) ?_
    refine g_iload_n X dX11_layDist_62 rfl 3 rfl ?_
    refine g_imul X dX11_layDist_63 ?_
    obtain ⟨b19, h⟩ := h
    refine g_iald X (Nat.le_of_ble_eq_true rfl) rfl b19 dX11_layDist_64 ?_
    refine g_topi (fun x20 ex20 => ?_)
    have h := h x20 ex20
    refine g_istore X (lv' := [(5, .int x20), (4, .int r18), (0, .ref (ea (zE Z) 87)), (2, .int v2), (3, .int v3)]) dX11_layDist_65 (by decide) rfl ?_
    refine g_aload_n X dX11_layDist_67 rfl 2 rfl ?_
    refine g_getr X (C := RX11) (T := TX11) (N := 39) (ci := 9) (k := 3) iX11_layDist_X11 rfl kX11_layDist_13 (Nat.le_of_ble_eq_true rfl) rfl (by decide) rfl rfl dX11_layDist_68 ?_
    refine g_iconst X (v := 4) dX11_layDist_71 (by decide) ?_
    refine g_iload_n X dX11_layDist_72 rfl 4 rfl ?_
    refine g_imul X dX11_layDist_73 ?_
    refine g_iconst X (v := 1) dX11_layDist_74 (by decide) ?_
    refine g_iadd X dX11_layDist_75 ?_
    obtain ⟨b21, h⟩ := h
    refine g_iald X (Nat.le_of_ble_eq_true rfl) rfl b21 dX11_layDist_76 ?_
    refine g_topi (fun x22 ex22 => ?_)
    have h := h x22 ex22
    refine g_istore X (lv' := [(6, .int x22), (5, .int x20), (4, .int r18), (0, .ref (ea (zE Z) 87)), (2, .int v2), (3, .int v3)]) dX11_layDist_77 (by decide) rfl ?_
    refine g_aload_n X dX11_layDist_79 rfl 3 rfl ?_
    refine g_getr X (C := RX11) (T := TX11) (N := 39) (ci := 9) (k := 35) iX11_layDist_X11 rfl kX11_layDist_63 (Nat.le_of_ble_eq_true rfl) rfl (by decide) rfl rfl dX11_layDist_80 ?_
    refine g_iload X dX11_layDist_83 1 rfl ?_
    refine g_aload_n X dX11_layDist_85 rfl 3 rfl ?_
    refine g_getr X (C := RX11) (T := TX11) (N := 39) (ci := 9) (k := 35) iX11_layDist_X11 rfl kX11_layDist_63 (Nat.le_of_ble_eq_true rfl) rfl (by decide) rfl rfl dX11_layDist_86 ?_
    refine g_iload X dX11_layDist_89 0 rfl ?_
    obtain ⟨b23, h⟩ := h
    refine g_iald X (Nat.le_of_ble_eq_true rfl) rfl b23 dX11_layDist_91 ?_
    refine g_iload X dX11_layDist_92 2 rfl ?_
    refine g_iadd X dX11_layDist_94 ?_
    refine g_aload_n X dX11_layDist_95 rfl 3 rfl ?_
    refine g_getr X (C := RX11) (T := TX11) (N := 39) (ci := 9) (k := 35) iX11_layDist_X11 rfl kX11_layDist_63 (Nat.le_of_ble_eq_true rfl) rfl (by decide) rfl rfl dX11_layDist_96 ?_
    refine g_iload X dX11_layDist_99 1 rfl ?_
    obtain ⟨b24, h⟩ := h
    refine g_iald X (Nat.le_of_ble_eq_true rfl) rfl b24 dX11_layDist_101 ?_
    refine g_icmp_ge X (tgt := 118) dX11_layDist_102 (by decide) (fun c25 => ?_) (fun c25 => ?_)
    · have h := h.1 c25
      refine g_aload_n X dX11_layDist_118 rfl 3 rfl ?_
      refine g_getr X (C := RX11) (T := TX11) (N := 39) (ci := 9) (k := 35) iX11_layDist_X11 rfl kX11_layDist_63 (Nat.le_of_ble_eq_true rfl) rfl (by decide) rfl rfl dX11_layDist_119 ?_
      refine g_iload X dX11_layDist_122 1 rfl ?_
      obtain ⟨b26, h⟩ := h
      refine g_iald X (Nat.le_of_ble_eq_true rfl) rfl b26 dX11_layDist_124 ?_
      refine GW.sub (lv' := [(0, .ref (ea (zE Z) 87)), (2, .int v2), (3, .int v3), (4, .int r18), (5, .int x20), (6, .int x22)]) [3, 4, 5, 2, 1, 0] rfl ?_
      exact w_X11_layDist_B125 X R  hk34 hk42 v2 v3 r18 x20 x22 x20 (I16 105 (Int32.toNatClampNeg x20)) I16 J17 h
    · have h := h.2 c25
      refine g_aload_n X dX11_layDist_105 rfl 3 rfl ?_
      refine g_getr X (C := RX11) (T := TX11) (N := 39) (ci := 9) (k := 35) iX11_layDist_X11 rfl kX11_layDist_63 (Nat.le_of_ble_eq_true rfl) rfl (by decide) rfl rfl dX11_layDist_106 ?_
      refine g_iload X dX11_layDist_109 0 rfl ?_
      obtain ⟨b27, h⟩ := h
      refine g_iald X (Nat.le_of_ble_eq_true rfl) rfl b27 dX11_layDist_111 ?_
      refine g_iload X dX11_layDist_112 2 rfl ?_
      refine g_iadd X dX11_layDist_114 ?_
      refine g_goto X (tgt := 125) dX11_layDist_115 (by decide) ?_
      refine GW.sub (lv' := [(0, .ref (ea (zE Z) 87)), (2, .int v2), (3, .int v3), (4, .int r18), (5, .int x20), (6, .int x22)]) [3, 4, 5, 2, 1, 0] rfl ?_
      exact w_X11_layDist_B125 X R  hk34 hk42 v2 v3 r18 x20 x22 x20 ((I16 105 (Int32.toNatClampNeg x22)) + r18) I16 J17 h
theorem w_X11_layDist_L42 {Z : RT}  (X : Cx Z cX11_layDist 7 RX11 wsX11_layDist rmX11_layDist none) {Q : MI → MJ → Prop} (R : RV Z Q)  {k34 : Int32 → MI → MJ → Prop} (hk34 : ∀ (v2 : Int32) (I : MI) (J : MJ), k34 v2 I J → GW Z 7 I J 34 [(0, .ref (ea (zE Z) 87)), (2, .int v2)] []) : ∀ (n : Nat) (v2 : Int32) (v3 : Int32) (I : MI) (J : MJ) (h : vc_X11_layDist_L42  Q k34 n v2 v3 I J), GW Z 7 I J 42 [(0, .ref (ea (zE Z) 87)), (2, .int v2), (3, .int v3)] [] := by
  intro n
  induction n with
  | zero => intro v2 v3 I J h; exact h.elim
  | succ n ih => intro v2 v3 I J h; exact w_X11_layDist_L42s X R  hk34 ih v2 v3 I J h
def vc_X11_layDist_L34s  (Q : MI → MJ → Prop)  (k34 : Int32 → MI → MJ → Prop) (v2 : Int32) (I : MI) (J : MJ) : Prop := ((7 ≤ v2 → Q I J) ∧ (¬ 7 ≤ v2 → (∃ n, vc_X11_layDist_L42  Q k34 n v2 0 I J)))
def vc_X11_layDist_L34  (Q : MI → MJ → Prop)  (n : Nat) : Int32 → MI → MJ → Prop := Nat.rec (fun _ _ _ => False) (fun _ ih => vc_X11_layDist_L34s  Q  ih) n
set_option maxRecDepth 100000 in
set_option maxHeartbeats 4000000 in
theorem w_X11_layDist_L34s {Z : RT}  (X : Cx Z cX11_layDist 7 RX11 wsX11_layDist rmX11_layDist none) {Q : MI → MJ → Prop} (R : RV Z Q)    {k34 : Int32 → MI → MJ → Prop} (hk34 : ∀ (v2 : Int32) (I : MI) (J : MJ), k34 v2 I J → GW Z 7 I J 34 [(0, .ref (ea (zE Z) 87)), (2, .int v2)] []) (v2 : Int32) (I : MI) (J : MJ) (h : vc_X11_layDist_L34s  Q  k34 v2 I J) : GW Z 7 I J 34 [(0, .ref (ea (zE Z) 87)), (2, .int v2)] [] := by
  refine g_iload_n X dX11_layDist_34 rfl 1 rfl ?_
  refine g_bipush X (v := 7) dX11_layDist_35 (by decide) ?_
  refine g_icmp_ge X (tgt := 185) dX11_layDist_37 (by decide) (fun c28 => ?_) (fun c28 => ?_)
  · have h := h.1 c28
    exact g_vret X R dX11_layDist_185 h
  · have h := h.2 c28
    refine g_iconst X (v := 0) dX11_layDist_40 (by decide) ?_
    refine g_istore_n X (lv' := [(3, .int 0), (0, .ref (ea (zE Z) 87)), (2, .int v2)]) dX11_layDist_41 rfl (by decide) rfl ?_
    refine GW.sub (lv' := [(0, .ref (ea (zE Z) 87)), (2, .int v2), (3, .int 0)]) [1, 2, 0] rfl ?_
    obtain ⟨n, h⟩ := h
    exact w_X11_layDist_L42 X R  hk34 n v2 0 I J h
theorem w_X11_layDist_L34 {Z : RT}  (X : Cx Z cX11_layDist 7 RX11 wsX11_layDist rmX11_layDist none) {Q : MI → MJ → Prop} (R : RV Z Q)    : ∀ (n : Nat) (v2 : Int32) (I : MI) (J : MJ) (h : vc_X11_layDist_L34  Q  n v2 I J), GW Z 7 I J 34 [(0, .ref (ea (zE Z) 87)), (2, .int v2)] [] := by
  intro n
  induction n with
  | zero => intro v2 I J h; exact h.elim
  | succ n ih => intro v2 I J h; exact w_X11_layDist_L34s X R   ih v2 I J h
def vc_X11_layDist_L2s  (Q : MI → MJ → Prop)  (k2 : Int32 → Int32 → MI → MJ → Prop) (v1 : Int32) (v2 : Int32) (I : MI) (J : MJ) : Prop := ((7 ≤ v2 → (∃ n, vc_X11_layDist_L34  Q  n 0 I J)) ∧ (¬ 7 ≤ v2 → ((¬ v2 = v1 → vc_X11_layDist_B25  Q k2 v1 v2 v2 99999 I J) ∧ (v2 = v1 → vc_X11_layDist_B25  Q k2 v1 v2 v2 0 I J))))
def vc_X11_layDist_L2  (Q : MI → MJ → Prop)  (n : Nat) : Int32 → Int32 → MI → MJ → Prop := Nat.rec (fun _ _ _ _ => False) (fun _ ih => vc_X11_layDist_L2s  Q  ih) n
set_option maxRecDepth 100000 in
set_option maxHeartbeats 4000000 in
theorem w_X11_layDist_L2s {Z : RT}  (X : Cx Z cX11_layDist 7 RX11 wsX11_layDist rmX11_layDist none) {Q : MI → MJ → Prop} (R : RV Z Q)    {k2 : Int32 → Int32 → MI → MJ → Prop} (hk2 : ∀ (v1 : Int32) (v2 : Int32) (I : MI) (J : MJ), k2 v1 v2 I J → GW Z 7 I J 2 [(0, .ref (ea (zE Z) 87)), (1, .int v1), (2, .int v2)] []) (v1 : Int32) (v2 : Int32) (I : MI) (J : MJ) (h : vc_X11_layDist_L2s  Q  k2 v1 v2 I J) : GW Z 7 I J 2 [(0, .ref (ea (zE Z) 87)), (1, .int v1), (2, .int v2)] [] := by
  refine g_iload_n X dX11_layDist_2 rfl 2 rfl ?_
  refine g_bipush X (v := 7) dX11_layDist_3 (by decide) ?_
  refine g_icmp_ge X (tgt := 32) dX11_layDist_5 (by decide) (fun c29 => ?_) (fun c29 => ?_)
  · have h := h.1 c29
    refine g_iconst X (v := 0) dX11_layDist_32 (by decide) ?_
    refine g_istore_n X (lv' := [(2, .int 0), (0, .ref (ea (zE Z) 87)), (1, .int v1)]) dX11_layDist_33 rfl (by decide) rfl ?_
    refine GW.sub (lv' := [(0, .ref (ea (zE Z) 87)), (2, .int 0)]) [1, 0] rfl ?_
    obtain ⟨n, h⟩ := h
    exact w_X11_layDist_L34 X R   n 0 I J h
  · have h := h.2 c29
    refine g_aload_n X dX11_layDist_8 rfl 0 rfl ?_
    refine g_getr X (C := RX11) (T := TX11) (N := 39) (ci := 9) (k := 35) iX11_layDist_X11 rfl kX11_layDist_63 (Nat.le_of_ble_eq_true rfl) rfl (by decide) rfl rfl dX11_layDist_9 ?_
    refine g_iload_n X dX11_layDist_12 rfl 2 rfl ?_
    refine g_iload_n X dX11_layDist_13 rfl 2 rfl ?_
    refine g_iload_n X dX11_layDist_14 rfl 1 rfl ?_
    refine g_icmp_ne X (tgt := 22) dX11_layDist_15 (by decide) (fun c30 => ?_) (fun c30 => ?_)
    · have h := h.1 c30
      refine g_ldcw X dX11_layDist_22 kX11_layDist_c301 ?_
      refine GW.sub (lv' := [(0, .ref (ea (zE Z) 87)), (1, .int v1), (2, .int v2)]) [0, 1, 2] rfl ?_
      exact w_X11_layDist_B25 X R  hk2 v1 v2 v2 99999 I J h
    · have h := h.2 c30
      refine g_iconst X (v := 0) dX11_layDist_18 (by decide) ?_
      refine g_goto X (tgt := 25) dX11_layDist_19 (by decide) ?_
      refine GW.sub (lv' := [(0, .ref (ea (zE Z) 87)), (1, .int v1), (2, .int v2)]) [0, 1, 2] rfl ?_
      exact w_X11_layDist_B25 X R  hk2 v1 v2 v2 0 I J h
theorem w_X11_layDist_L2 {Z : RT}  (X : Cx Z cX11_layDist 7 RX11 wsX11_layDist rmX11_layDist none) {Q : MI → MJ → Prop} (R : RV Z Q)    : ∀ (n : Nat) (v1 : Int32) (v2 : Int32) (I : MI) (J : MJ) (h : vc_X11_layDist_L2  Q  n v1 v2 I J), GW Z 7 I J 2 [(0, .ref (ea (zE Z) 87)), (1, .int v1), (2, .int v2)] [] := by
  intro n
  induction n with
  | zero => intro v1 v2 I J h; exact h.elim
  | succ n ih => intro v1 v2 I J h; exact w_X11_layDist_L2s X R   ih v1 v2 I J h
def vc_X11_layDist (p1 : Int32) (I : MI) (J : MJ) (Q : MI → MJ → Prop) : Prop := (∃ n, vc_X11_layDist_L2  Q  n p1 0 I J)
set_option maxRecDepth 100000 in
set_option maxHeartbeats 4000000 in
theorem c_X11_layDist (l : Launch) (E : ET)  (p1 : Int32) : CV l yX11_layDist wsX11_layDist rmX11_layDist E [.ref (ea E 87), .int p1] (vc_X11_layDist p1) := by
  refine CV.of (cc := cX11_layDist) (maxL := 7) (own := RX11) (by decide) rfl rfl (Nat.le_of_ble_eq_true rfl) ?_
  intro Z I J Q hE hl X R h
  subst hE
  subst hl
  show GW Z 7 I J 0 [(0, .ref (ea (zE Z) 87)), (1, .int p1)] []
  refine g_iconst X (v := 0) dX11_layDist_0 (by decide) ?_
  refine g_istore_n X (lv' := [(2, .int 0), (0, .ref (ea (zE Z) 87)), (1, .int p1)]) dX11_layDist_1 rfl (by decide) rfl ?_
  refine GW.sub (lv' := [(0, .ref (ea (zE Z) 87)), (1, .int p1), (2, .int 0)]) [1, 2, 0] rfl ?_
  obtain ⟨n, h⟩ := h
  exact w_X11_layDist_L2 X R   n p1 0 I J h

/-! X11_around.around(III)I -/
def rmX11_around : Room := { frames := 2, cells := 0, slots := 0, locals := 47 }
theorem yo_X11_around : yX11_around.cls = RX11 ∧ yX11_around.cls ≠ "java/lang/invoke/MethodHandle" ∧ yX11_around.cls ≠ "java/lang/invoke/VarHandle" ∧ (parseMethodDescriptor yX11_around.desc).map (fun d => d.parameters.length) = some 3 := by decide +kernel
theorem kX11_around_98 : Cond.fieldLink RX11 98 "SnowCourseModel" (TX11 2).2.1 (TX11 2).2.2.1 ∈ wsX11_around := by decide +kernel
theorem iX11_around_X11 : ∀ w ∈ u_ws RX11 TX11 39, w ∈ wsX11_around := by decide +kernel
theorem kX11_around_63 : Cond.fieldLink RX11 63 "SnowCourseModel" (TX11 35).2.1 (TX11 35).2.2.1 ∈ wsX11_around := by decide +kernel
theorem kX11_around_c301 : Cond.constant RX11 301 (99999) ∈ wsX11_around := by decide +kernel
def vc_X11_around_L84s  (Q : Int32 → MI → MJ → Prop)  (k84 : Int32 → Int32 → Int32 → MI → MJ → Prop) (v1 : Int32) (v2 : Int32) (v4 : Int32) (I : MI) (J : MJ) : Prop := (((I 87 2) ≤ v4 → Q (-1) I J) ∧ (¬ (I 87 2) ≤ v4 → vc_X11_endOf v4 v1 I J (fun (r4 : Int32) (I2 : MI) (J3 : MJ) => ((v1 = v2 → ∀ x6 : Int32, x6 = v4 + 1 → k84 v1 v2 x6 I2 J3) ∧ (¬ v1 = v2 → ((r4 = (-1) → ∀ x8 : Int32, x8 = v4 + 1 → k84 v1 v2 x8 I2 J3) ∧ (¬ r4 = (-1) → vp_in r4 7 ∧ vc_X11_costOf v4 I2 J3 (fun (r12 : Int32) (I10 : MI) (J11 : MJ) => vp_in v1 7 ∧ ((¬ ((I2 105 (Int32.toNatClampNeg r4)) + r12) = (I10 105 (Int32.toNatClampNeg v1)) → ∀ x15 : Int32, x15 = v4 + 1 → k84 v1 v2 x15 I10 J11) ∧ (((I2 105 (Int32.toNatClampNeg r4)) + r12) = (I10 105 (Int32.toNatClampNeg v1)) → Q v4 I10 J11))))))))))
def vc_X11_around_L84  (Q : Int32 → MI → MJ → Prop)  (n : Nat) : Int32 → Int32 → Int32 → MI → MJ → Prop := Nat.rec (fun _ _ _ _ _ => False) (fun _ ih => vc_X11_around_L84s  Q  ih) n
set_option maxRecDepth 100000 in
set_option maxHeartbeats 4000000 in
theorem w_X11_around_L84s {Z : RT}  (X : Cx Z cX11_around 6 RX11 wsX11_around rmX11_around (some .int)) {Q : Int32 → MI → MJ → Prop} (R : RI Z Q)    {k84 : Int32 → Int32 → Int32 → MI → MJ → Prop} (hk84 : ∀ (v1 : Int32) (v2 : Int32) (v4 : Int32) (I : MI) (J : MJ), k84 v1 v2 v4 I J → GW Z 6 I J 84 [(0, .ref (ea (zE Z) 87)), (1, .int v1), (2, .int v2), (4, .int v4)] []) (v1 : Int32) (v2 : Int32) (v4 : Int32) (I : MI) (J : MJ) (h : vc_X11_around_L84s  Q  k84 v1 v2 v4 I J) : GW Z 6 I J 84 [(0, .ref (ea (zE Z) 87)), (1, .int v1), (2, .int v2), (4, .int v4)] [] := by
  refine g_iload X dX11_around_84 3 rfl ?_
  refine g_aload_n X dX11_around_86 rfl 0 rfl ?_
  refine g_geti X (C := RX11) (T := TX11) (N := 39) (ci := 9) (k := 2) iX11_around_X11 rfl kX11_around_98 (Nat.le_of_ble_eq_true rfl) rfl (by decide) rfl rfl dX11_around_87 ?_
  refine g_icmp_ge X (tgt := 145) dX11_around_90 (by decide) (fun c1 => ?_) (fun c1 => ?_)
  · have h := h.1 c1
    refine g_iconst X (v := (-1)) dX11_around_145 (by decide) ?_
    exact g_iret X R dX11_around_146 h
  · have h := h.2 c1
    refine g_aload_n X dX11_around_93 rfl 0 rfl ?_
    refine g_iload X dX11_around_94 3 rfl ?_
    refine g_iload_n X dX11_around_96 rfl 1 rfl ?_
    refine g_callVI X (As := [.int v4, .int v1]) (rest := []) (T := TX11) (N := 39) (c_X11_endOf (zl Z) (zE Z) v4 v1) gX11_around_X11_endOf yo_X11_endOf rfl ⟨Nat.le_of_ble_eq_true rfl, Nat.le_of_ble_eq_true rfl⟩ (Nat.le_of_ble_eq_true rfl) rfl rfl rfl dX11_around_97 h (fun r4 I2 J3 h => ?_)
    refine g_istore X (lv' := [(5, .int r4), (0, .ref (ea (zE Z) 87)), (1, .int v1), (2, .int v2), (4, .int v4)]) dX11_around_100 (by decide) rfl ?_
    refine g_iload_n X dX11_around_102 rfl 2 rfl ?_
    refine g_iload_n X dX11_around_103 rfl 3 rfl ?_
    refine g_icmp_eq X (tgt := 139) dX11_around_104 (by decide) (fun c5 => ?_) (fun c5 => ?_)
    · have h := h.1 c5
      obtain ⟨x6, ex6⟩ : ∃ y : Int32, y = v4 + 1 := ⟨_, rfl⟩
      have h := h x6 ex6
      refine g_iinc X (q := 4) (v := x6) (lv' := [(4, .int x6), (5, .int r4), (0, .ref (ea (zE Z) 87)), (1, .int v1), (2, .int v2)]) dX11_around_139 rfl (by rw [ex6]; rfl) (by decide) rfl ?_
      refine g_goto X (tgt := 84) dX11_around_142 (by decide) ?_
      refine GW.sub (lv' := [(0, .ref (ea (zE Z) 87)), (1, .int v1), (2, .int v2), (4, .int x6)]) [2, 3, 4, 0] rfl ?_
      exact hk84 v1 v2 x6 I2 J3 h
    · have h := h.2 c5
      refine g_iload X dX11_around_107 0 rfl ?_
      refine g_iconst X (v := (-1)) dX11_around_109 (by decide) ?_
      refine g_icmp_eq X (tgt := 139) dX11_around_110 (by decide) (fun c7 => ?_) (fun c7 => ?_)
      · have h := h.1 c7
        obtain ⟨x8, ex8⟩ : ∃ y : Int32, y = v4 + 1 := ⟨_, rfl⟩
        have h := h x8 ex8
        refine g_iinc X (q := 4) (v := x8) (lv' := [(4, .int x8), (5, .int r4), (0, .ref (ea (zE Z) 87)), (1, .int v1), (2, .int v2)]) dX11_around_139 rfl (by rw [ex8]; rfl) (by decide) rfl ?_
        refine g_goto X (tgt := 84) dX11_around_142 (by decide) ?_
        refine GW.sub (lv' := [(0, .ref (ea (zE Z) 87)), (1, .int v1), (2, .int v2), (4, .int x8)]) [2, 3, 4, 0] rfl ?_
        exact hk84 v1 v2 x8 I2 J3 h
      · have h := h.2 c7
        refine g_aload_n X dX11_around_113 rfl 1 rfl ?_
        refine g_getr X (C := RX11) (T := TX11) (N := 39) (ci := 9) (k := 35) iX11_around_X11 rfl kX11_around_63 (Nat.le_of_ble_eq_true rfl) rfl (by decide) rfl rfl dX11_around_114 ?_
        refine g_iload X dX11_around_117 0 rfl ?_
        obtain ⟨b9, h⟩ := h
        refine g_iald X (Nat.le_of_ble_eq_true rfl) rfl b9 dX11_around_119 ?_
        refine g_aload_n X dX11_around_120 rfl 1 rfl ?_
        refine g_iload X dX11_around_121 4 rfl ?_
        refine g_callVI X (As := [.int v4]) (rest := [.int (I2 105 (Int32.toNatClampNeg r4))]) (T := TX11) (N := 39) (c_X11_costOf (zl Z) (zE Z) v4) gX11_around_X11_costOf yo_X11_costOf rfl ⟨Nat.le_of_ble_eq_true rfl, Nat.le_of_ble_eq_true rfl⟩ (Nat.le_of_ble_eq_true rfl) rfl rfl rfl dX11_around_123 h (fun r12 I10 J11 h => ?_)
        refine g_iadd X dX11_around_126 ?_
        refine g_aload_n X dX11_around_127 rfl 1 rfl ?_
        refine g_getr X (C := RX11) (T := TX11) (N := 39) (ci := 9) (k := 35) iX11_around_X11 rfl kX11_around_63 (Nat.le_of_ble_eq_true rfl) rfl (by decide) rfl rfl dX11_around_128 ?_
        refine g_iload_n X dX11_around_131 rfl 2 rfl ?_
        obtain ⟨b13, h⟩ := h
        refine g_iald X (Nat.le_of_ble_eq_true rfl) rfl b13 dX11_around_132 ?_
        refine g_icmp_ne X (tgt := 139) dX11_around_133 (by decide) (fun c14 => ?_) (fun c14 => ?_)
        · have h := h.1 c14
          obtain ⟨x15, ex15⟩ : ∃ y : Int32, y = v4 + 1 := ⟨_, rfl⟩
          have h := h x15 ex15
          refine g_iinc X (q := 4) (v := x15) (lv' := [(4, .int x15), (5, .int r4), (0, .ref (ea (zE Z) 87)), (1, .int v1), (2, .int v2)]) dX11_around_139 rfl (by rw [ex15]; rfl) (by decide) rfl ?_
          refine g_goto X (tgt := 84) dX11_around_142 (by decide) ?_
          refine GW.sub (lv' := [(0, .ref (ea (zE Z) 87)), (1, .int v1), (2, .int v2), (4, .int x15)]) [2, 3, 4, 0] rfl ?_
          exact hk84 v1 v2 x15 I10 J11 h
        · have h := h.2 c14
          refine g_iload X dX11_around_136 4 rfl ?_
          exact g_iret X R dX11_around_138 h
theorem w_X11_around_L84 {Z : RT}  (X : Cx Z cX11_around 6 RX11 wsX11_around rmX11_around (some .int)) {Q : Int32 → MI → MJ → Prop} (R : RI Z Q)    : ∀ (n : Nat) (v1 : Int32) (v2 : Int32) (v4 : Int32) (I : MI) (J : MJ) (h : vc_X11_around_L84  Q  n v1 v2 v4 I J), GW Z 6 I J 84 [(0, .ref (ea (zE Z) 87)), (1, .int v1), (2, .int v2), (4, .int v4)] [] := by
  intro n
  induction n with
  | zero => intro v1 v2 v4 I J h; exact h.elim
  | succ n ih => intro v1 v2 v4 I J h; exact w_X11_around_L84s X R   ih v1 v2 v4 I J h
def vc_X11_around (p1 : Int32) (p2 : Int32) (p3 : Int32) (I : MI) (J : MJ) (Q : Int32 → MI → MJ → Prop) : Prop := vc_X11_isPlace p1 I J (fun (r18 : Int32) (I16 : MI) (J17 : MJ) => ((r18 = 0 → Q (-2) I16 J17) ∧ (¬ r18 = 0 → vc_X11_isPlace p2 I16 J17 (fun (r22 : Int32) (I20 : MI) (J21 : MJ) => ((¬ r22 = 0 → vc_X11_in p3 0 2 I20 J21 (fun (r26 : Int32) (I24 : MI) (J25 : MJ) => ((¬ r26 = 0 → vc_X11_layDist p2 I24 J25 (fun (I28 : MI) (J29 : MJ) => vp_in p1 7 ∧ (((I28 105 (Int32.toNatClampNeg p1)) < 99999 → ((2 ≤ p3 → (∃ n, vc_X11_around_L84  Q  n p1 p2 0 I28 J29)) ∧ (¬ 2 ≤ p3 → ((¬ p3 = 0 → vp_in p1 7 ∧ Q ((I28 105 (Int32.toNatClampNeg p1)) - (I28 105 (Int32.toNatClampNeg p1)) / 100 * 100) I28 J29) ∧ (p3 = 0 → vp_in p1 7 ∧ Q ((I28 105 (Int32.toNatClampNeg p1)) / 100) I28 J29))))) ∧ (¬ (I28 105 (Int32.toNatClampNeg p1)) < 99999 → Q (-1) I28 J29)))) ∧ (r26 = 0 → Q (-3) I24 J25)))) ∧ (r22 = 0 → Q (-2) I20 J21))))))
set_option maxRecDepth 100000 in
set_option maxHeartbeats 4000000 in
theorem c_X11_around (l : Launch) (E : ET)  (p1 : Int32) (p2 : Int32) (p3 : Int32) : CI l yX11_around wsX11_around rmX11_around E [.ref (ea E 87), .int p1, .int p2, .int p3] (vc_X11_around p1 p2 p3) := by
  refine CI.of (cc := cX11_around) (maxL := 6) (own := RX11) (by decide) rfl rfl (Nat.le_of_ble_eq_true rfl) ?_
  intro Z I J Q hE hl X R h
  subst hE
  subst hl
  show GW Z 6 I J 0 [(0, .ref (ea (zE Z) 87)), (1, .int p1), (2, .int p2), (3, .int p3)] []
  refine g_aload_n X dX11_around_0 rfl 0 rfl ?_
  refine g_iload_n X dX11_around_1 rfl 1 rfl ?_
  refine g_callVI X (As := [.int p1]) (rest := []) (T := TX11) (N := 39) (c_X11_isPlace (zl Z) (zE Z) p1) gX11_around_X11_isPlace yo_X11_isPlace rfl ⟨Nat.le_of_ble_eq_true rfl, Nat.le_of_ble_eq_true rfl⟩ (Nat.le_of_ble_eq_true rfl) rfl rfl rfl dX11_around_2 h (fun r18 I16 J17 h => ?_)
  refine g_if_eq X (tgt := 16) dX11_around_5 (by decide) (fun c19 => ?_) (fun c19 => ?_)
  · have h := h.1 c19
    refine g_bipush X (v := (-2)) dX11_around_16 (by decide) ?_
    exact g_iret X R dX11_around_18 h
  · have h := h.2 c19
    refine g_aload_n X dX11_around_8 rfl 0 rfl ?_
    refine g_iload_n X dX11_around_9 rfl 2 rfl ?_
    refine g_callVI X (As := [.int p2]) (rest := []) (T := TX11) (N := 39) (c_X11_isPlace (zl Z) (zE Z) p2) gX11_around_X11_isPlace yo_X11_isPlace rfl ⟨Nat.le_of_ble_eq_true rfl, Nat.le_of_ble_eq_true rfl⟩ (Nat.le_of_ble_eq_true rfl) rfl rfl rfl dX11_around_10 h (fun r22 I20 J21 h => ?_)
    refine g_if_ne X (tgt := 19) dX11_around_13 (by decide) (fun c23 => ?_) (fun c23 => ?_)
    · have h := h.1 c23
      refine g_iload_n X dX11_around_19 rfl 3 rfl ?_
      refine g_iconst X (v := 0) dX11_around_20 (by decide) ?_
      refine g_iconst X (v := 2) dX11_around_21 (by decide) ?_
      refine g_callSI X (As := [.int p3, .int 0, .int 2]) (rest := []) (c_X11_in (zl Z) (zE Z) p3 0 2) gX11_around_X11_in yo_X11_in.2 rfl ⟨Nat.le_of_ble_eq_true rfl, Nat.le_of_ble_eq_true rfl⟩ rfl dX11_around_22 h (fun r26 I24 J25 h => ?_)
      refine g_if_ne X (tgt := 31) dX11_around_25 (by decide) (fun c27 => ?_) (fun c27 => ?_)
      · have h := h.1 c27
        refine g_aload_n X dX11_around_31 rfl 0 rfl ?_
        refine g_iload_n X dX11_around_32 rfl 2 rfl ?_
        refine g_callVV X (As := [.int p2]) (rest := []) (T := TX11) (N := 39) (c_X11_layDist (zl Z) (zE Z) p2) gX11_around_X11_layDist yo_X11_layDist rfl ⟨Nat.le_of_ble_eq_true rfl, Nat.le_of_ble_eq_true rfl⟩ (Nat.le_of_ble_eq_true rfl) rfl rfl rfl dX11_around_33 h (fun  I28 J29 h => ?_)
        refine g_aload_n X dX11_around_36 rfl 0 rfl ?_
        refine g_getr X (C := RX11) (T := TX11) (N := 39) (ci := 9) (k := 35) iX11_around_X11 rfl kX11_around_63 (Nat.le_of_ble_eq_true rfl) rfl (by decide) rfl rfl dX11_around_37 ?_
        refine g_iload_n X dX11_around_40 rfl 1 rfl ?_
        obtain ⟨b30, h⟩ := h
        refine g_iald X (Nat.le_of_ble_eq_true rfl) rfl b30 dX11_around_41 ?_
        refine g_ldcw X dX11_around_42 kX11_around_c301 ?_
        refine g_icmp_lt X (tgt := 50) dX11_around_45 (by decide) (fun c31 => ?_) (fun c31 => ?_)
        · have h := h.1 c31
          refine g_iload_n X dX11_around_50 rfl 3 rfl ?_
          refine g_iconst X (v := 2) dX11_around_51 (by decide) ?_
          refine g_icmp_ge X (tgt := 81) dX11_around_52 (by decide) (fun c32 => ?_) (fun c32 => ?_)
          · have h := h.1 c32
            refine g_iconst X (v := 0) dX11_around_81 (by decide) ?_
            refine g_istore X (lv' := [(4, .int 0), (0, .ref (ea (zE Z) 87)), (1, .int p1), (2, .int p2), (3, .int p3)]) dX11_around_82 (by decide) rfl ?_
            refine GW.sub (lv' := [(0, .ref (ea (zE Z) 87)), (1, .int p1), (2, .int p2), (4, .int 0)]) [1, 2, 3, 0] rfl ?_
            obtain ⟨n, h⟩ := h
            exact w_X11_around_L84 X R   n p1 p2 0 I28 J29 h
          · have h := h.2 c32
            refine g_iload_n X dX11_around_55 rfl 3 rfl ?_
            refine g_if_ne X (tgt := 71) dX11_around_56 (by decide) (fun c33 => ?_) (fun c33 => ?_)
            · have h := h.1 c33
              refine g_aload_n X dX11_around_71 rfl 0 rfl ?_
              refine g_getr X (C := RX11) (T := TX11) (N := 39) (ci := 9) (k := 35) iX11_around_X11 rfl kX11_around_63 (Nat.le_of_ble_eq_true rfl) rfl (by decide) rfl rfl dX11_around_72 ?_
              refine g_iload_n X dX11_around_75 rfl 1 rfl ?_
              obtain ⟨b34, h⟩ := h
              refine g_iald X (Nat.le_of_ble_eq_true rfl) rfl b34 dX11_around_76 ?_
              refine g_bipush X (v := 100) dX11_around_77 (by decide) ?_
              refine g_irem X dX11_around_79 (by decide) ?_
              exact g_iret X R dX11_around_80 h
            · have h := h.2 c33
              refine g_aload_n X dX11_around_59 rfl 0 rfl ?_
              refine g_getr X (C := RX11) (T := TX11) (N := 39) (ci := 9) (k := 35) iX11_around_X11 rfl kX11_around_63 (Nat.le_of_ble_eq_true rfl) rfl (by decide) rfl rfl dX11_around_60 ?_
              refine g_iload_n X dX11_around_63 rfl 1 rfl ?_
              obtain ⟨b35, h⟩ := h
              refine g_iald X (Nat.le_of_ble_eq_true rfl) rfl b35 dX11_around_64 ?_
              refine g_bipush X (v := 100) dX11_around_65 (by decide) ?_
              refine g_idiv X dX11_around_67 (by decide) ?_
              refine g_goto X (tgt := 80) dX11_around_68 (by decide) ?_
              exact g_iret X R dX11_around_80 h
        · have h := h.2 c31
          refine g_iconst X (v := (-1)) dX11_around_48 (by decide) ?_
          exact g_iret X R dX11_around_49 h
      · have h := h.2 c27
        refine g_bipush X (v := (-3)) dX11_around_28 (by decide) ?_
        exact g_iret X R dX11_around_30 h
    · have h := h.2 c23
      refine g_bipush X (v := (-2)) dX11_around_16 (by decide) ?_
      exact g_iret X R dX11_around_18 h

/-! X11_put.put(I)I -/
def rmX11_put : Room := { frames := 1, cells := 0, slots := 0, locals := 22 }
theorem yo_X11_put : yX11_put.cls = RX11 ∧ yX11_put.cls ≠ "java/lang/invoke/MethodHandle" ∧ yX11_put.cls ≠ "java/lang/invoke/VarHandle" ∧ (parseMethodDescriptor yX11_put.desc).map (fun d => d.parameters.length) = some 1 := by decide +kernel
theorem kX11_put_88 : Cond.fieldLink RX11 88 "SnowCourseModel" (TX11 28).2.1 (TX11 28).2.2.1 ∈ wsX11_put := by decide +kernel
theorem iX11_put_X11 : ∀ w ∈ u_ws RX11 TX11 39, w ∈ wsX11_put := by decide +kernel
theorem kX11_put_41 : Cond.fieldLink RX11 41 "SnowCourseModel" (TX11 27).2.1 (TX11 27).2.2.1 ∈ wsX11_put := by decide +kernel
def vc_X11_put (p1 : Int32) (I : MI) (J : MJ) (Q : Int32 → MI → MJ → Prop) : Prop := vc_X11_in p1 1 99 I J (fun (r3 : Int32) (I1 : MI) (J2 : MJ) => ((¬ r3 = 0 → ((¬ (I1 87 28) = 5 → vp_in (I1 87 28) 5 ∧ ∀ I7 : MI, I7 = wI I1 98 (Int32.toNatClampNeg (I1 87 28)) p1 → ∀ I8 : MI, I8 = wI I7 87 28 ((I7 87 28) + 1) → Q (I8 87 28) I8 J2) ∧ ((I1 87 28) = 5 → Q (-5) I1 J2))) ∧ (r3 = 0 → Q (-3) I1 J2)))
set_option maxRecDepth 100000 in
set_option maxHeartbeats 4000000 in
theorem c_X11_put (l : Launch) (E : ET)  (p1 : Int32) : CI l yX11_put wsX11_put rmX11_put E [.ref (ea E 87), .int p1] (vc_X11_put p1) := by
  refine CI.of (cc := cX11_put) (maxL := 2) (own := RX11) (by decide) rfl rfl (Nat.le_of_ble_eq_true rfl) ?_
  intro Z I J Q hE hl X R h
  subst hE
  subst hl
  show GW Z 2 I J 0 [(0, .ref (ea (zE Z) 87)), (1, .int p1)] []
  refine g_iload_n X dX11_put_0 rfl 1 rfl ?_
  refine g_iconst X (v := 1) dX11_put_1 (by decide) ?_
  refine g_bipush X (v := 99) dX11_put_2 (by decide) ?_
  refine g_callSI X (As := [.int p1, .int 1, .int 99]) (rest := []) (c_X11_in (zl Z) (zE Z) p1 1 99) gX11_put_X11_in yo_X11_in.2 rfl ⟨Nat.le_of_ble_eq_true rfl, Nat.le_of_ble_eq_true rfl⟩ rfl dX11_put_4 h (fun r3 I1 J2 h => ?_)
  refine g_if_ne X (tgt := 13) dX11_put_7 (by decide) (fun c4 => ?_) (fun c4 => ?_)
  · have h := h.1 c4
    refine g_aload_n X dX11_put_13 rfl 0 rfl ?_
    refine g_geti X (C := RX11) (T := TX11) (N := 39) (ci := 9) (k := 28) iX11_put_X11 rfl kX11_put_88 (Nat.le_of_ble_eq_true rfl) rfl (by decide) rfl rfl dX11_put_14 ?_
    refine g_iconst X (v := 5) dX11_put_17 (by decide) ?_
    refine g_icmp_ne X (tgt := 24) dX11_put_18 (by decide) (fun c5 => ?_) (fun c5 => ?_)
    · have h := h.1 c5
      refine g_aload_n X dX11_put_24 rfl 0 rfl ?_
      refine g_getr X (C := RX11) (T := TX11) (N := 39) (ci := 9) (k := 27) iX11_put_X11 rfl kX11_put_41 (Nat.le_of_ble_eq_true rfl) rfl (by decide) rfl rfl dX11_put_25 ?_
      refine g_aload_n X dX11_put_28 rfl 0 rfl ?_
      refine g_geti X (C := RX11) (T := TX11) (N := 39) (ci := 9) (k := 28) iX11_put_X11 rfl kX11_put_88 (Nat.le_of_ble_eq_true rfl) rfl (by decide) rfl rfl dX11_put_29 ?_
      refine g_iload_n X dX11_put_32 rfl 1 rfl ?_
      obtain ⟨b6, h⟩ := h
      refine g_iast X (Nat.le_of_ble_eq_true rfl) rfl b6 dX11_put_33 ?_
      refine g_nmI (fun I7 eI7 => ?_)
      have h := h I7 eI7
      refine g_aload_n X dX11_put_34 rfl 0 rfl ?_
      refine g_dup X dX11_put_35 rfl ?_
      refine g_geti X (C := RX11) (T := TX11) (N := 39) (ci := 9) (k := 28) iX11_put_X11 rfl kX11_put_88 (Nat.le_of_ble_eq_true rfl) rfl (by decide) rfl rfl dX11_put_36 ?_
      refine g_iconst X (v := 1) dX11_put_39 (by decide) ?_
      refine g_iadd X dX11_put_40 ?_
      refine g_puti X (C := RX11) (T := TX11) (N := 39) (ci := 9) (k := 28) (ty0 := tyX11) iX11_put_X11 tyX11_ok nmX11 rfl kX11_put_88 (Nat.le_of_ble_eq_true rfl) rfl (by decide) rfl rfl (by decide +kernel) rfl dX11_put_41 ?_
      refine g_nmI (fun I8 eI8 => ?_)
      have h := h I8 eI8
      refine g_aload_n X dX11_put_44 rfl 0 rfl ?_
      refine g_geti X (C := RX11) (T := TX11) (N := 39) (ci := 9) (k := 28) iX11_put_X11 rfl kX11_put_88 (Nat.le_of_ble_eq_true rfl) rfl (by decide) rfl rfl dX11_put_45 ?_
      exact g_iret X R dX11_put_48 h
    · have h := h.2 c5
      refine g_bipush X (v := (-5)) dX11_put_21 (by decide) ?_
      exact g_iret X R dX11_put_23 h
  · have h := h.2 c4
    refine g_bipush X (v := (-3)) dX11_put_10 (by decide) ?_
    exact g_iret X R dX11_put_12 h

/-! X11_wipe.wipe()I -/
def rmX11_wipe : Room := { frames := 0, cells := 0, slots := 0, locals := 0 }
theorem yo_X11_wipe : yX11_wipe.cls = RX11 ∧ yX11_wipe.cls ≠ "java/lang/invoke/MethodHandle" ∧ yX11_wipe.cls ≠ "java/lang/invoke/VarHandle" ∧ (parseMethodDescriptor yX11_wipe.desc).map (fun d => d.parameters.length) = some 0 := by decide +kernel
theorem kX11_wipe_88 : Cond.fieldLink RX11 88 "SnowCourseModel" (TX11 28).2.1 (TX11 28).2.2.1 ∈ wsX11_wipe := by decide +kernel
theorem iX11_wipe_X11 : ∀ w ∈ u_ws RX11 TX11 39, w ∈ wsX11_wipe := by decide +kernel
def vc_X11_wipe  (I : MI) (J : MJ) (Q : Int32 → MI → MJ → Prop) : Prop := ∀ x1 : Int32, x1 = I 87 28 → ∀ I2 : MI, I2 = wI I 87 28 0 → Q x1 I2 J
set_option maxRecDepth 100000 in
set_option maxHeartbeats 4000000 in
theorem c_X11_wipe (l : Launch) (E : ET)   : CI l yX11_wipe wsX11_wipe rmX11_wipe E [.ref (ea E 87)] (vc_X11_wipe ) := by
  refine CI.of (cc := cX11_wipe) (maxL := 2) (own := RX11) (by decide) rfl rfl (Nat.le_of_ble_eq_true rfl) ?_
  intro Z I J Q hE hl X R h
  subst hE
  subst hl
  show GW Z 2 I J 0 [(0, .ref (ea (zE Z) 87))] []
  refine g_aload_n X dX11_wipe_0 rfl 0 rfl ?_
  refine g_geti X (C := RX11) (T := TX11) (N := 39) (ci := 9) (k := 28) iX11_wipe_X11 rfl kX11_wipe_88 (Nat.le_of_ble_eq_true rfl) rfl (by decide) rfl rfl dX11_wipe_1 ?_
  refine g_topi (fun x1 ex1 => ?_)
  have h := h x1 ex1
  refine g_istore_n X (lv' := [(1, .int x1), (0, .ref (ea (zE Z) 87))]) dX11_wipe_4 rfl (by decide) rfl ?_
  refine g_aload_n X dX11_wipe_5 rfl 1 rfl ?_
  refine g_iconst X (v := 0) dX11_wipe_6 (by decide) ?_
  refine g_puti X (C := RX11) (T := TX11) (N := 39) (ci := 9) (k := 28) (ty0 := tyX11) iX11_wipe_X11 tyX11_ok nmX11 rfl kX11_wipe_88 (Nat.le_of_ble_eq_true rfl) rfl (by decide) rfl rfl (by decide +kernel) rfl dX11_wipe_7 ?_
  refine g_nmI (fun I2 eI2 => ?_)
  have h := h I2 eI2
  refine g_iload_n X dX11_wipe_10 rfl 0 rfl ?_
  exact g_iret X R dX11_wipe_11 h

/-! X11_throughOf.throughOf(III)I -/
def rmX11_throughOf : Room := { frames := 2, cells := 0, slots := 0, locals := 48 }
theorem yo_X11_throughOf : yX11_throughOf.cls = RX11 ∧ yX11_throughOf.cls ≠ "java/lang/invoke/MethodHandle" ∧ yX11_throughOf.cls ≠ "java/lang/invoke/VarHandle" ∧ (parseMethodDescriptor yX11_throughOf.desc).map (fun d => d.parameters.length) = some 3 := by decide +kernel
def vc_X11_throughOf_L6s  (Q : Int32 → MI → MJ → Prop)  (k6 : Int32 → Int32 → Int32 → Int32 → MI → MJ → Prop) (v2 : Int32) (v3 : Int32) (v4 : Int32) (v5 : Int32) (I : MI) (J : MJ) : Prop := (((v2 + v3) ≤ v5 → Q v4 I J) ∧ (¬ (v2 + v3) ≤ v5 → vc_X11_isWarm v5 I J (fun (r4 : Int32) (I2 : MI) (J3 : MJ) => vc_X11_loses v4 0 0 v5 r4 0 I2 J3 (fun (r7 : Int32) (I5 : MI) (J6 : MJ) => ∀ x8 : Int32, x8 = v4 - r7 → ∀ x9 : Int32, x9 = v5 + 1 → k6 v2 v3 x8 x9 I5 J6))))
def vc_X11_throughOf_L6  (Q : Int32 → MI → MJ → Prop)  (n : Nat) : Int32 → Int32 → Int32 → Int32 → MI → MJ → Prop := Nat.rec (fun _ _ _ _ _ _ => False) (fun _ ih => vc_X11_throughOf_L6s  Q  ih) n
set_option maxRecDepth 100000 in
set_option maxHeartbeats 4000000 in
theorem w_X11_throughOf_L6s {Z : RT}  (X : Cx Z cX11_throughOf 6 RX11 wsX11_throughOf rmX11_throughOf (some .int)) {Q : Int32 → MI → MJ → Prop} (R : RI Z Q)    {k6 : Int32 → Int32 → Int32 → Int32 → MI → MJ → Prop} (hk6 : ∀ (v2 : Int32) (v3 : Int32) (v4 : Int32) (v5 : Int32) (I : MI) (J : MJ), k6 v2 v3 v4 v5 I J → GW Z 6 I J 6 [(0, .ref (ea (zE Z) 87)), (2, .int v2), (3, .int v3), (4, .int v4), (5, .int v5)] []) (v2 : Int32) (v3 : Int32) (v4 : Int32) (v5 : Int32) (I : MI) (J : MJ) (h : vc_X11_throughOf_L6s  Q  k6 v2 v3 v4 v5 I J) : GW Z 6 I J 6 [(0, .ref (ea (zE Z) 87)), (2, .int v2), (3, .int v3), (4, .int v4), (5, .int v5)] [] := by
  refine g_iload X dX11_throughOf_6 4 rfl ?_
  refine g_iload_n X dX11_throughOf_8 rfl 1 rfl ?_
  refine g_iload_n X dX11_throughOf_9 rfl 2 rfl ?_
  refine g_iadd X dX11_throughOf_10 ?_
  refine g_icmp_ge X (tgt := 41) dX11_throughOf_11 (by decide) (fun c1 => ?_) (fun c1 => ?_)
  · have h := h.1 c1
    refine g_iload X dX11_throughOf_41 3 rfl ?_
    exact g_iret X R dX11_throughOf_43 h
  · have h := h.2 c1
    refine g_iload X dX11_throughOf_14 3 rfl ?_
    refine g_iload X dX11_throughOf_16 3 rfl ?_
    refine g_iconst X (v := 0) dX11_throughOf_18 (by decide) ?_
    refine g_iconst X (v := 0) dX11_throughOf_19 (by decide) ?_
    refine g_iload X dX11_throughOf_20 4 rfl ?_
    refine g_aload_n X dX11_throughOf_22 rfl 0 rfl ?_
    refine g_iload X dX11_throughOf_23 4 rfl ?_
    refine g_callVI X (As := [.int v5]) (rest := [.int v5, .int 0, .int 0, .int v4, .int v4]) (T := TX11) (N := 39) (c_X11_isWarm (zl Z) (zE Z) v5) gX11_throughOf_X11_isWarm yo_X11_isWarm rfl ⟨Nat.le_of_ble_eq_true rfl, Nat.le_of_ble_eq_true rfl⟩ (Nat.le_of_ble_eq_true rfl) rfl rfl rfl dX11_throughOf_25 h (fun r4 I2 J3 h => ?_)
    refine g_iconst X (v := 0) dX11_throughOf_28 (by decide) ?_
    refine g_callSI X (As := [.int v4, .int 0, .int 0, .int v5, .int r4, .int 0]) (rest := [.int v4]) (c_X11_loses (zl Z) (zE Z) v4 0 0 v5 r4 0) gX11_throughOf_X11_loses yo_X11_loses.2 rfl ⟨Nat.le_of_ble_eq_true rfl, Nat.le_of_ble_eq_true rfl⟩ rfl dX11_throughOf_29 h (fun r7 I5 J6 h => ?_)
    refine g_isub X dX11_throughOf_32 ?_
    refine g_topi (fun x8 ex8 => ?_)
    have h := h x8 ex8
    refine g_istore X (lv' := [(4, .int x8), (0, .ref (ea (zE Z) 87)), (2, .int v2), (3, .int v3), (5, .int v5)]) dX11_throughOf_33 (by decide) rfl ?_
    obtain ⟨x9, ex9⟩ : ∃ y : Int32, y = v5 + 1 := ⟨_, rfl⟩
    have h := h x9 ex9
    refine g_iinc X (q := 4) (v := x9) (lv' := [(5, .int x9), (4, .int x8), (0, .ref (ea (zE Z) 87)), (2, .int v2), (3, .int v3)]) dX11_throughOf_35 rfl (by rw [ex9]; rfl) (by decide) rfl ?_
    refine g_goto X (tgt := 6) dX11_throughOf_38 (by decide) ?_
    refine GW.sub (lv' := [(0, .ref (ea (zE Z) 87)), (2, .int v2), (3, .int v3), (4, .int x8), (5, .int x9)]) [2, 3, 4, 1, 0] rfl ?_
    exact hk6 v2 v3 x8 x9 I5 J6 h
theorem w_X11_throughOf_L6 {Z : RT}  (X : Cx Z cX11_throughOf 6 RX11 wsX11_throughOf rmX11_throughOf (some .int)) {Q : Int32 → MI → MJ → Prop} (R : RI Z Q)    : ∀ (n : Nat) (v2 : Int32) (v3 : Int32) (v4 : Int32) (v5 : Int32) (I : MI) (J : MJ) (h : vc_X11_throughOf_L6  Q  n v2 v3 v4 v5 I J), GW Z 6 I J 6 [(0, .ref (ea (zE Z) 87)), (2, .int v2), (3, .int v3), (4, .int v4), (5, .int v5)] [] := by
  intro n
  induction n with
  | zero => intro v2 v3 v4 v5 I J h; exact h.elim
  | succ n ih => intro v2 v3 v4 v5 I J h; exact w_X11_throughOf_L6s X R   ih v2 v3 v4 v5 I J h
def vc_X11_throughOf (p1 : Int32) (p2 : Int32) (p3 : Int32) (I : MI) (J : MJ) (Q : Int32 → MI → MJ → Prop) : Prop := (∃ n, vc_X11_throughOf_L6  Q  n p2 p3 p1 p2 I J)
set_option maxRecDepth 100000 in
set_option maxHeartbeats 4000000 in
theorem c_X11_throughOf (l : Launch) (E : ET)  (p1 : Int32) (p2 : Int32) (p3 : Int32) : CI l yX11_throughOf wsX11_throughOf rmX11_throughOf E [.ref (ea E 87), .int p1, .int p2, .int p3] (vc_X11_throughOf p1 p2 p3) := by
  refine CI.of (cc := cX11_throughOf) (maxL := 6) (own := RX11) (by decide) rfl rfl (Nat.le_of_ble_eq_true rfl) ?_
  intro Z I J Q hE hl X R h
  subst hE
  subst hl
  show GW Z 6 I J 0 [(0, .ref (ea (zE Z) 87)), (1, .int p1), (2, .int p2), (3, .int p3)] []
  refine g_iload_n X dX11_throughOf_0 rfl 1 rfl ?_
  refine g_istore X (lv' := [(4, .int p1), (0, .ref (ea (zE Z) 87)), (1, .int p1), (2, .int p2), (3, .int p3)]) dX11_throughOf_1 (by decide) rfl ?_
  refine g_iload_n X dX11_throughOf_3 rfl 3 rfl ?_
  refine g_istore X (lv' := [(5, .int p2), (4, .int p1), (0, .ref (ea (zE Z) 87)), (1, .int p1), (2, .int p2), (3, .int p3)]) dX11_throughOf_4 (by decide) rfl ?_
  refine GW.sub (lv' := [(0, .ref (ea (zE Z) 87)), (2, .int p2), (3, .int p3), (4, .int p1), (5, .int p2)]) [2, 4, 5, 1, 0] rfl ?_
  obtain ⟨n, h⟩ := h
  exact w_X11_throughOf_L6 X R   n p2 p3 p1 p2 I J h

/-! X11_pass.pass(II)I -/
def rmX11_pass : Room := { frames := 3, cells := 0, slots := 0, locals := 73 }
theorem yo_X11_pass : yX11_pass.cls = RX11 ∧ yX11_pass.cls ≠ "java/lang/invoke/MethodHandle" ∧ yX11_pass.cls ≠ "java/lang/invoke/VarHandle" ∧ (parseMethodDescriptor yX11_pass.desc).map (fun d => d.parameters.length) = some 2 := by decide +kernel
theorem kX11_pass_88 : Cond.fieldLink RX11 88 "SnowCourseModel" (TX11 28).2.1 (TX11 28).2.2.1 ∈ wsX11_pass := by decide +kernel
theorem iX11_pass_X11 : ∀ w ∈ u_ws RX11 TX11 39, w ∈ wsX11_pass := by decide +kernel
theorem kX11_pass_66 : Cond.fieldLink RX11 66 "SnowCourseModel" (TX11 36).2.1 (TX11 36).2.2.1 ∈ wsX11_pass := by decide +kernel
theorem kX11_pass_69 : Cond.fieldLink RX11 69 "SnowCourseModel" (TX11 37).2.1 (TX11 37).2.2.1 ∈ wsX11_pass := by decide +kernel
theorem kX11_pass_41 : Cond.fieldLink RX11 41 "SnowCourseModel" (TX11 27).2.1 (TX11 27).2.2.1 ∈ wsX11_pass := by decide +kernel
def vc_X11_pass_L195s  (Q : Int32 → MI → MJ → Prop) (k51 : Int32 → Int32 → Int32 → Int32 → Int32 → MI → MJ → Prop) (k195 : Int32 → Int32 → Int32 → Int32 → Int32 → Int32 → MI → MJ → Prop) (v1 : Int32) (v2 : Int32) (v3 : Int32) (v4 : Int32) (v5 : Int32) (v9 : Int32) (I : MI) (J : MJ) : Prop := (((I 87 28) ≤ v9 → ∀ x2 : Int32, x2 = v5 + 1 → k51 v1 v2 v3 v4 x2 I J) ∧ (¬ (I 87 28) ≤ v9 → vp_in v9 5 ∧ vp_in v9 5 ∧ ∀ I5 : MI, I5 = wI I 106 (Int32.toNatClampNeg v9) (I 107 (Int32.toNatClampNeg v9)) → ∀ x6 : Int32, x6 = v9 + 1 → k195 v1 v2 v3 v4 v5 x6 I5 J))
def vc_X11_pass_L195  (Q : Int32 → MI → MJ → Prop) (k51 : Int32 → Int32 → Int32 → Int32 → Int32 → MI → MJ → Prop) (n : Nat) : Int32 → Int32 → Int32 → Int32 → Int32 → Int32 → MI → MJ → Prop := Nat.rec (fun _ _ _ _ _ _ _ _ => False) (fun _ ih => vc_X11_pass_L195s  Q k51 ih) n
set_option maxRecDepth 100000 in
set_option maxHeartbeats 4000000 in
theorem w_X11_pass_L195s {Z : RT}  (X : Cx Z cX11_pass 10 RX11 wsX11_pass rmX11_pass (some .int)) {Q : Int32 → MI → MJ → Prop} (R : RI Z Q)  {k51 : Int32 → Int32 → Int32 → Int32 → Int32 → MI → MJ → Prop} (hk51 : ∀ (v1 : Int32) (v2 : Int32) (v3 : Int32) (v4 : Int32) (v5 : Int32) (I : MI) (J : MJ), k51 v1 v2 v3 v4 v5 I J → GW Z 10 I J 51 [(0, .ref (ea (zE Z) 87)), (1, .int v1), (2, .int v2), (3, .int v3), (4, .int v4), (5, .int v5)] []) {k195 : Int32 → Int32 → Int32 → Int32 → Int32 → Int32 → MI → MJ → Prop} (hk195 : ∀ (v1 : Int32) (v2 : Int32) (v3 : Int32) (v4 : Int32) (v5 : Int32) (v9 : Int32) (I : MI) (J : MJ), k195 v1 v2 v3 v4 v5 v9 I J → GW Z 10 I J 195 [(0, .ref (ea (zE Z) 87)), (1, .int v1), (2, .int v2), (3, .int v3), (4, .int v4), (5, .int v5), (9, .int v9)] []) (v1 : Int32) (v2 : Int32) (v3 : Int32) (v4 : Int32) (v5 : Int32) (v9 : Int32) (I : MI) (J : MJ) (h : vc_X11_pass_L195s  Q k51 k195 v1 v2 v3 v4 v5 v9 I J) : GW Z 10 I J 195 [(0, .ref (ea (zE Z) 87)), (1, .int v1), (2, .int v2), (3, .int v3), (4, .int v4), (5, .int v5), (9, .int v9)] [] := by
  refine g_iload X dX11_pass_195 6 rfl ?_
  refine g_aload_n X dX11_pass_197 rfl 0 rfl ?_
  refine g_geti X (C := RX11) (T := TX11) (N := 39) (ci := 9) (k := 28) iX11_pass_X11 rfl kX11_pass_88 (Nat.le_of_ble_eq_true rfl) rfl (by decide) rfl rfl dX11_pass_198 ?_
  refine g_icmp_ge X (tgt := 224) dX11_pass_201 (by decide) (fun c1 => ?_) (fun c1 => ?_)
  · have h := h.1 c1
    obtain ⟨x2, ex2⟩ : ∃ y : Int32, y = v5 + 1 := ⟨_, rfl⟩
    have h := h x2 ex2
    refine g_iinc X (q := 5) (v := x2) (lv' := [(5, .int x2), (0, .ref (ea (zE Z) 87)), (1, .int v1), (2, .int v2), (3, .int v3), (4, .int v4), (9, .int v9)]) dX11_pass_224 rfl (by rw [ex2]; rfl) (by decide) rfl ?_
    refine g_goto X (tgt := 51) dX11_pass_227 (by decide) ?_
    refine GW.sub (lv' := [(0, .ref (ea (zE Z) 87)), (1, .int v1), (2, .int v2), (3, .int v3), (4, .int v4), (5, .int x2)]) [1, 2, 3, 4, 5, 0] rfl ?_
    exact hk51 v1 v2 v3 v4 x2 I J h
  · have h := h.2 c1
    refine g_aload_n X dX11_pass_204 rfl 0 rfl ?_
    refine g_getr X (C := RX11) (T := TX11) (N := 39) (ci := 9) (k := 36) iX11_pass_X11 rfl kX11_pass_66 (Nat.le_of_ble_eq_true rfl) rfl (by decide) rfl rfl dX11_pass_205 ?_
    refine g_iload X dX11_pass_208 6 rfl ?_
    refine g_aload_n X dX11_pass_210 rfl 0 rfl ?_
    refine g_getr X (C := RX11) (T := TX11) (N := 39) (ci := 9) (k := 37) iX11_pass_X11 rfl kX11_pass_69 (Nat.le_of_ble_eq_true rfl) rfl (by decide) rfl rfl dX11_pass_211 ?_
    refine g_iload X dX11_pass_214 6 rfl ?_
    obtain ⟨b3, h⟩ := h
    refine g_iald X (Nat.le_of_ble_eq_true rfl) rfl b3 dX11_pass_216 ?_
    obtain ⟨b4, h⟩ := h
    refine g_iast X (Nat.le_of_ble_eq_true rfl) rfl b4 dX11_pass_217 ?_
    refine g_nmI (fun I5 eI5 => ?_)
    have h := h I5 eI5
    obtain ⟨x6, ex6⟩ : ∃ y : Int32, y = v9 + 1 := ⟨_, rfl⟩
    have h := h x6 ex6
    refine g_iinc X (q := 6) (v := x6) (lv' := [(9, .int x6), (0, .ref (ea (zE Z) 87)), (1, .int v1), (2, .int v2), (3, .int v3), (4, .int v4), (5, .int v5)]) dX11_pass_218 rfl (by rw [ex6]; rfl) (by decide) rfl ?_
    refine g_goto X (tgt := 195) dX11_pass_221 (by decide) ?_
    refine GW.sub (lv' := [(0, .ref (ea (zE Z) 87)), (1, .int v1), (2, .int v2), (3, .int v3), (4, .int v4), (5, .int v5), (9, .int x6)]) [1, 2, 3, 4, 5, 6, 0] rfl ?_
    exact hk195 v1 v2 v3 v4 v5 x6 I5 J h
theorem w_X11_pass_L195 {Z : RT}  (X : Cx Z cX11_pass 10 RX11 wsX11_pass rmX11_pass (some .int)) {Q : Int32 → MI → MJ → Prop} (R : RI Z Q)  {k51 : Int32 → Int32 → Int32 → Int32 → Int32 → MI → MJ → Prop} (hk51 : ∀ (v1 : Int32) (v2 : Int32) (v3 : Int32) (v4 : Int32) (v5 : Int32) (I : MI) (J : MJ), k51 v1 v2 v3 v4 v5 I J → GW Z 10 I J 51 [(0, .ref (ea (zE Z) 87)), (1, .int v1), (2, .int v2), (3, .int v3), (4, .int v4), (5, .int v5)] []) : ∀ (n : Nat) (v1 : Int32) (v2 : Int32) (v3 : Int32) (v4 : Int32) (v5 : Int32) (v9 : Int32) (I : MI) (J : MJ) (h : vc_X11_pass_L195  Q k51 n v1 v2 v3 v4 v5 v9 I J), GW Z 10 I J 195 [(0, .ref (ea (zE Z) 87)), (1, .int v1), (2, .int v2), (3, .int v3), (4, .int v4), (5, .int v5), (9, .int v9)] [] := by
  intro n
  induction n with
  | zero => intro v1 v2 v3 v4 v5 v9 I J h; exact h.elim
  | succ n ih => intro v1 v2 v3 v4 v5 v9 I J h; exact w_X11_pass_L195s X R  hk51 ih v1 v2 v3 v4 v5 v9 I J h
def vc_X11_pass_L142s  (Q : Int32 → MI → MJ → Prop) (k51 : Int32 → Int32 → Int32 → Int32 → Int32 → MI → MJ → Prop) (k142 : Int32 → Int32 → Int32 → Int32 → Int32 → Int32 → Int32 → MI → MJ → Prop) (v1 : Int32) (v2 : Int32) (v3 : Int32) (v4 : Int32) (v5 : Int32) (v8 : Int32) (v9 : Int32) (I : MI) (J : MJ) : Prop := (((I 87 28) ≤ v9 → ((v8 ≤ v4 → ∀ x9 : Int32, x9 = v5 + 1 → k51 v1 v2 v3 v4 x9 I J) ∧ (¬ v8 ≤ v4 → (∃ n, vc_X11_pass_L195  Q k51 n v1 v2 v3 v8 v5 0 I J)))) ∧ (¬ (I 87 28) ≤ v9 → vp_in v9 5 ∧ vp_in (I 107 (Int32.toNatClampNeg v9)) 5 ∧ vc_X11_throughOf (I 98 (Int32.toNatClampNeg (I 107 (Int32.toNatClampNeg v9)))) v1 v9 I J (fun (r14 : Int32) (I12 : MI) (J13 : MJ) => ∀ x15 : Int32, x15 = v8 + r14 → ∀ x16 : Int32, x16 = v9 + 1 → k142 v1 v2 v3 v4 v5 x15 x16 I12 J13)))
def vc_X11_pass_L142  (Q : Int32 → MI → MJ → Prop) (k51 : Int32 → Int32 → Int32 → Int32 → Int32 → MI → MJ → Prop) (n : Nat) : Int32 → Int32 → Int32 → Int32 → Int32 → Int32 → Int32 → MI → MJ → Prop := Nat.rec (fun _ _ _ _ _ _ _ _ _ => False) (fun _ ih => vc_X11_pass_L142s  Q k51 ih) n
set_option maxRecDepth 100000 in
set_option maxHeartbeats 4000000 in
theorem w_X11_pass_L142s {Z : RT}  (X : Cx Z cX11_pass 10 RX11 wsX11_pass rmX11_pass (some .int)) {Q : Int32 → MI → MJ → Prop} (R : RI Z Q)  {k51 : Int32 → Int32 → Int32 → Int32 → Int32 → MI → MJ → Prop} (hk51 : ∀ (v1 : Int32) (v2 : Int32) (v3 : Int32) (v4 : Int32) (v5 : Int32) (I : MI) (J : MJ), k51 v1 v2 v3 v4 v5 I J → GW Z 10 I J 51 [(0, .ref (ea (zE Z) 87)), (1, .int v1), (2, .int v2), (3, .int v3), (4, .int v4), (5, .int v5)] []) {k142 : Int32 → Int32 → Int32 → Int32 → Int32 → Int32 → Int32 → MI → MJ → Prop} (hk142 : ∀ (v1 : Int32) (v2 : Int32) (v3 : Int32) (v4 : Int32) (v5 : Int32) (v8 : Int32) (v9 : Int32) (I : MI) (J : MJ), k142 v1 v2 v3 v4 v5 v8 v9 I J → GW Z 10 I J 142 [(0, .ref (ea (zE Z) 87)), (1, .int v1), (2, .int v2), (3, .int v3), (4, .int v4), (5, .int v5), (8, .int v8), (9, .int v9)] []) (v1 : Int32) (v2 : Int32) (v3 : Int32) (v4 : Int32) (v5 : Int32) (v8 : Int32) (v9 : Int32) (I : MI) (J : MJ) (h : vc_X11_pass_L142s  Q k51 k142 v1 v2 v3 v4 v5 v8 v9 I J) : GW Z 10 I J 142 [(0, .ref (ea (zE Z) 87)), (1, .int v1), (2, .int v2), (3, .int v3), (4, .int v4), (5, .int v5), (8, .int v8), (9, .int v9)] [] := by
  refine g_iload X dX11_pass_142 7 rfl ?_
  refine g_aload_n X dX11_pass_144 rfl 0 rfl ?_
  refine g_geti X (C := RX11) (T := TX11) (N := 39) (ci := 9) (k := 28) iX11_pass_X11 rfl kX11_pass_88 (Nat.le_of_ble_eq_true rfl) rfl (by decide) rfl rfl dX11_pass_145 ?_
  refine g_icmp_ge X (tgt := 181) dX11_pass_148 (by decide) (fun c7 => ?_) (fun c7 => ?_)
  · have h := h.1 c7
    refine g_iload X dX11_pass_181 6 rfl ?_
    refine g_iload X dX11_pass_183 4 rfl ?_
    refine g_icmp_le X (tgt := 224) dX11_pass_185 (by decide) (fun c8 => ?_) (fun c8 => ?_)
    · have h := h.1 c8
      obtain ⟨x9, ex9⟩ : ∃ y : Int32, y = v5 + 1 := ⟨_, rfl⟩
      have h := h x9 ex9
      refine g_iinc X (q := 5) (v := x9) (lv' := [(5, .int x9), (0, .ref (ea (zE Z) 87)), (1, .int v1), (2, .int v2), (3, .int v3), (4, .int v4), (8, .int v8), (9, .int v9)]) dX11_pass_224 rfl (by rw [ex9]; rfl) (by decide) rfl ?_
      refine g_goto X (tgt := 51) dX11_pass_227 (by decide) ?_
      refine GW.sub (lv' := [(0, .ref (ea (zE Z) 87)), (1, .int v1), (2, .int v2), (3, .int v3), (4, .int v4), (5, .int x9)]) [1, 2, 3, 4, 5, 0] rfl ?_
      exact hk51 v1 v2 v3 v4 x9 I J h
    · have h := h.2 c8
      refine g_iload X dX11_pass_188 6 rfl ?_
      refine g_istore X (lv' := [(4, .int v8), (0, .ref (ea (zE Z) 87)), (1, .int v1), (2, .int v2), (3, .int v3), (5, .int v5), (8, .int v8), (9, .int v9)]) dX11_pass_190 (by decide) rfl ?_
      refine g_iconst X (v := 0) dX11_pass_192 (by decide) ?_
      refine g_istore X (lv' := [(9, .int 0), (4, .int v8), (0, .ref (ea (zE Z) 87)), (1, .int v1), (2, .int v2), (3, .int v3), (5, .int v5), (8, .int v8)]) dX11_pass_193 (by decide) rfl ?_
      refine GW.sub (lv' := [(0, .ref (ea (zE Z) 87)), (1, .int v1), (2, .int v2), (3, .int v3), (4, .int v8), (5, .int v5), (9, .int 0)]) [2, 3, 4, 5, 1, 6, 0] rfl ?_
      obtain ⟨n, h⟩ := h
      exact w_X11_pass_L195 X R  hk51 n v1 v2 v3 v8 v5 0 I J h
  · have h := h.2 c7
    refine g_iload X dX11_pass_151 6 rfl ?_
    refine g_aload_n X dX11_pass_153 rfl 0 rfl ?_
    refine g_aload_n X dX11_pass_154 rfl 0 rfl ?_
    refine g_getr X (C := RX11) (T := TX11) (N := 39) (ci := 9) (k := 27) iX11_pass_X11 rfl kX11_pass_41 (Nat.le_of_ble_eq_true rfl) rfl (by decide) rfl rfl dX11_pass_155 ?_
    refine g_aload_n X dX11_pass_158 rfl 0 rfl ?_
    refine g_getr X (C := RX11) (T := TX11) (N := 39) (ci := 9) (k := 37) iX11_pass_X11 rfl kX11_pass_69 (Nat.le_of_ble_eq_true rfl) rfl (by decide) rfl rfl dX11_pass_159 ?_
    refine g_iload X dX11_pass_162 7 rfl ?_
    obtain ⟨b10, h⟩ := h
    refine g_iald X (Nat.le_of_ble_eq_true rfl) rfl b10 dX11_pass_164 ?_
    obtain ⟨b11, h⟩ := h
    refine g_iald X (Nat.le_of_ble_eq_true rfl) rfl b11 dX11_pass_165 ?_
    refine g_iload_n X dX11_pass_166 rfl 1 rfl ?_
    refine g_iload X dX11_pass_167 7 rfl ?_
    refine g_callVI X (As := [.int (I 98 (Int32.toNatClampNeg (I 107 (Int32.toNatClampNeg v9)))), .int v1, .int v9]) (rest := [.int v8]) (T := TX11) (N := 39) (c_X11_throughOf (zl Z) (zE Z) (I 98 (Int32.toNatClampNeg (I 107 (Int32.toNatClampNeg v9)))) v1 v9) gX11_pass_X11_throughOf yo_X11_throughOf rfl ⟨Nat.le_of_ble_eq_true rfl, Nat.le_of_ble_eq_true rfl⟩ (Nat.le_of_ble_eq_true rfl) rfl rfl rfl dX11_pass_169 h (fun r14 I12 J13 h => ?_)
    refine g_iadd X dX11_pass_172 ?_
    refine g_topi (fun x15 ex15 => ?_)
    have h := h x15 ex15
    refine g_istore X (lv' := [(8, .int x15), (0, .ref (ea (zE Z) 87)), (1, .int v1), (2, .int v2), (3, .int v3), (4, .int v4), (5, .int v5), (9, .int v9)]) dX11_pass_173 (by decide) rfl ?_
    obtain ⟨x16, ex16⟩ : ∃ y : Int32, y = v9 + 1 := ⟨_, rfl⟩
    have h := h x16 ex16
    refine g_iinc X (q := 7) (v := x16) (lv' := [(9, .int x16), (8, .int x15), (0, .ref (ea (zE Z) 87)), (1, .int v1), (2, .int v2), (3, .int v3), (4, .int v4), (5, .int v5)]) dX11_pass_175 rfl (by rw [ex16]; rfl) (by decide) rfl ?_
    refine g_goto X (tgt := 142) dX11_pass_178 (by decide) ?_
    refine GW.sub (lv' := [(0, .ref (ea (zE Z) 87)), (1, .int v1), (2, .int v2), (3, .int v3), (4, .int v4), (5, .int v5), (8, .int x15), (9, .int x16)]) [2, 3, 4, 5, 6, 7, 1, 0] rfl ?_
    exact hk142 v1 v2 v3 v4 v5 x15 x16 I12 J13 h
theorem w_X11_pass_L142 {Z : RT}  (X : Cx Z cX11_pass 10 RX11 wsX11_pass rmX11_pass (some .int)) {Q : Int32 → MI → MJ → Prop} (R : RI Z Q)  {k51 : Int32 → Int32 → Int32 → Int32 → Int32 → MI → MJ → Prop} (hk51 : ∀ (v1 : Int32) (v2 : Int32) (v3 : Int32) (v4 : Int32) (v5 : Int32) (I : MI) (J : MJ), k51 v1 v2 v3 v4 v5 I J → GW Z 10 I J 51 [(0, .ref (ea (zE Z) 87)), (1, .int v1), (2, .int v2), (3, .int v3), (4, .int v4), (5, .int v5)] []) : ∀ (n : Nat) (v1 : Int32) (v2 : Int32) (v3 : Int32) (v4 : Int32) (v5 : Int32) (v8 : Int32) (v9 : Int32) (I : MI) (J : MJ) (h : vc_X11_pass_L142  Q k51 n v1 v2 v3 v4 v5 v8 v9 I J), GW Z 10 I J 142 [(0, .ref (ea (zE Z) 87)), (1, .int v1), (2, .int v2), (3, .int v3), (4, .int v4), (5, .int v5), (8, .int v8), (9, .int v9)] [] := by
  intro n
  induction n with
  | zero => intro v1 v2 v3 v4 v5 v8 v9 I J h; exact h.elim
  | succ n ih => intro v1 v2 v3 v4 v5 v8 v9 I J h; exact w_X11_pass_L142s X R  hk51 ih v1 v2 v3 v4 v5 v8 v9 I J h
def vc_X11_pass_L75s  (Q : Int32 → MI → MJ → Prop) (k51 : Int32 → Int32 → Int32 → Int32 → Int32 → MI → MJ → Prop) (k75 : Int32 → Int32 → Int32 → Int32 → Int32 → Int32 → Int32 → Int32 → Int32 → MI → MJ → Prop) (v1 : Int32) (v2 : Int32) (v3 : Int32) (v4 : Int32) (v5 : Int32) (v6 : Int32) (v7 : Int32) (v8 : Int32) (v9 : Int32) (I : MI) (J : MJ) : Prop := ((v9 < 0 → ((v7 = ((1 <<< ((I 87 28) &&& 31)) - 1) → (∃ n, vc_X11_pass_L142  Q k51 n v1 v2 v3 v4 v5 v8 0 I J)) ∧ (¬ v7 = ((1 <<< ((I 87 28) &&& 31)) - 1) → ∀ x19 : Int32, x19 = v5 + 1 → k51 v1 v2 v3 v4 x19 I J))) ∧ (¬ v9 < 0 → ¬ (I 87 28) = 0 ∧ vp_in v9 5 ∧ ∀ I22 : MI, I22 = wI I 107 (Int32.toNatClampNeg v9) (v6 - v6 / (I 87 28) * (I 87 28)) → ¬ (I22 87 28) = 0 ∧ ∀ x24 : Int32, x24 = v6 / (I22 87 28) → vp_in v9 5 ∧ ∀ x26 : Int32, x26 = v7 ||| (1 <<< ((I22 107 (Int32.toNatClampNeg v9)) &&& 31)) → ∀ x27 : Int32, x27 = v9 + (-1) → k75 v1 v2 v3 v4 v5 x24 x26 v8 x27 I22 J))
def vc_X11_pass_L75  (Q : Int32 → MI → MJ → Prop) (k51 : Int32 → Int32 → Int32 → Int32 → Int32 → MI → MJ → Prop) (n : Nat) : Int32 → Int32 → Int32 → Int32 → Int32 → Int32 → Int32 → Int32 → Int32 → MI → MJ → Prop := Nat.rec (fun _ _ _ _ _ _ _ _ _ _ _ => False) (fun _ ih => vc_X11_pass_L75s  Q k51 ih) n
set_option maxRecDepth 100000 in
set_option maxHeartbeats 4000000 in
theorem w_X11_pass_L75s {Z : RT}  (X : Cx Z cX11_pass 10 RX11 wsX11_pass rmX11_pass (some .int)) {Q : Int32 → MI → MJ → Prop} (R : RI Z Q)  {k51 : Int32 → Int32 → Int32 → Int32 → Int32 → MI → MJ → Prop} (hk51 : ∀ (v1 : Int32) (v2 : Int32) (v3 : Int32) (v4 : Int32) (v5 : Int32) (I : MI) (J : MJ), k51 v1 v2 v3 v4 v5 I J → GW Z 10 I J 51 [(0, .ref (ea (zE Z) 87)), (1, .int v1), (2, .int v2), (3, .int v3), (4, .int v4), (5, .int v5)] []) {k75 : Int32 → Int32 → Int32 → Int32 → Int32 → Int32 → Int32 → Int32 → Int32 → MI → MJ → Prop} (hk75 : ∀ (v1 : Int32) (v2 : Int32) (v3 : Int32) (v4 : Int32) (v5 : Int32) (v6 : Int32) (v7 : Int32) (v8 : Int32) (v9 : Int32) (I : MI) (J : MJ), k75 v1 v2 v3 v4 v5 v6 v7 v8 v9 I J → GW Z 10 I J 75 [(0, .ref (ea (zE Z) 87)), (1, .int v1), (2, .int v2), (3, .int v3), (4, .int v4), (5, .int v5), (6, .int v6), (7, .int v7), (8, .int v8), (9, .int v9)] []) (v1 : Int32) (v2 : Int32) (v3 : Int32) (v4 : Int32) (v5 : Int32) (v6 : Int32) (v7 : Int32) (v8 : Int32) (v9 : Int32) (I : MI) (J : MJ) (h : vc_X11_pass_L75s  Q k51 k75 v1 v2 v3 v4 v5 v6 v7 v8 v9 I J) : GW Z 10 I J 75 [(0, .ref (ea (zE Z) 87)), (1, .int v1), (2, .int v2), (3, .int v3), (4, .int v4), (5, .int v5), (6, .int v6), (7, .int v7), (8, .int v8), (9, .int v9)] [] := by
  refine g_iload X dX11_pass_75 9 rfl ?_
  refine g_if_lt X (tgt := 123) dX11_pass_77 (by decide) (fun c17 => ?_) (fun c17 => ?_)
  · have h := h.1 c17
    refine g_iload X dX11_pass_123 7 rfl ?_
    refine g_iconst X (v := 1) dX11_pass_125 (by decide) ?_
    refine g_aload_n X dX11_pass_126 rfl 0 rfl ?_
    refine g_geti X (C := RX11) (T := TX11) (N := 39) (ci := 9) (k := 28) iX11_pass_X11 rfl kX11_pass_88 (Nat.le_of_ble_eq_true rfl) rfl (by decide) rfl rfl dX11_pass_127 ?_
    refine g_ishl X dX11_pass_130 ?_
    refine g_iconst X (v := 1) dX11_pass_131 (by decide) ?_
    refine g_isub X dX11_pass_132 ?_
    refine g_icmp_eq X (tgt := 139) dX11_pass_133 (by decide) (fun c18 => ?_) (fun c18 => ?_)
    · have h := h.1 c18
      refine g_iconst X (v := 0) dX11_pass_139 (by decide) ?_
      refine g_istore X (lv' := [(9, .int 0), (0, .ref (ea (zE Z) 87)), (1, .int v1), (2, .int v2), (3, .int v3), (4, .int v4), (5, .int v5), (6, .int v6), (7, .int v7), (8, .int v8)]) dX11_pass_140 (by decide) rfl ?_
      refine GW.sub (lv' := [(0, .ref (ea (zE Z) 87)), (1, .int v1), (2, .int v2), (3, .int v3), (4, .int v4), (5, .int v5), (8, .int v8), (9, .int 0)]) [1, 2, 3, 4, 5, 6, 9, 0] rfl ?_
      obtain ⟨n, h⟩ := h
      exact w_X11_pass_L142 X R  hk51 n v1 v2 v3 v4 v5 v8 0 I J h
    · have h := h.2 c18
      refine g_goto X (tgt := 224) dX11_pass_136 (by decide) ?_
      obtain ⟨x19, ex19⟩ : ∃ y : Int32, y = v5 + 1 := ⟨_, rfl⟩
      have h := h x19 ex19
      refine g_iinc X (q := 5) (v := x19) (lv' := [(5, .int x19), (0, .ref (ea (zE Z) 87)), (1, .int v1), (2, .int v2), (3, .int v3), (4, .int v4), (6, .int v6), (7, .int v7), (8, .int v8), (9, .int v9)]) dX11_pass_224 rfl (by rw [ex19]; rfl) (by decide) rfl ?_
      refine g_goto X (tgt := 51) dX11_pass_227 (by decide) ?_
      refine GW.sub (lv' := [(0, .ref (ea (zE Z) 87)), (1, .int v1), (2, .int v2), (3, .int v3), (4, .int v4), (5, .int x19)]) [1, 2, 3, 4, 5, 0] rfl ?_
      exact hk51 v1 v2 v3 v4 x19 I J h
  · have h := h.2 c17
    refine g_aload_n X dX11_pass_80 rfl 0 rfl ?_
    refine g_getr X (C := RX11) (T := TX11) (N := 39) (ci := 9) (k := 37) iX11_pass_X11 rfl kX11_pass_69 (Nat.le_of_ble_eq_true rfl) rfl (by decide) rfl rfl dX11_pass_81 ?_
    refine g_iload X dX11_pass_84 9 rfl ?_
    refine g_iload X dX11_pass_86 6 rfl ?_
    refine g_aload_n X dX11_pass_88 rfl 0 rfl ?_
    refine g_geti X (C := RX11) (T := TX11) (N := 39) (ci := 9) (k := 28) iX11_pass_X11 rfl kX11_pass_88 (Nat.le_of_ble_eq_true rfl) rfl (by decide) rfl rfl dX11_pass_89 ?_
    obtain ⟨b20, h⟩ := h
    refine g_irem X dX11_pass_92 b20 ?_
    obtain ⟨b21, h⟩ := h
    refine g_iast X (Nat.le_of_ble_eq_true rfl) rfl b21 dX11_pass_93 ?_
    refine g_nmI (fun I22 eI22 => ?_)
    have h := h I22 eI22
    refine g_iload X dX11_pass_94 6 rfl ?_
    refine g_aload_n X dX11_pass_96 rfl 0 rfl ?_
    refine g_geti X (C := RX11) (T := TX11) (N := 39) (ci := 9) (k := 28) iX11_pass_X11 rfl kX11_pass_88 (Nat.le_of_ble_eq_true rfl) rfl (by decide) rfl rfl dX11_pass_97 ?_
    obtain ⟨b23, h⟩ := h
    refine g_idiv X dX11_pass_100 b23 ?_
    refine g_topi (fun x24 ex24 => ?_)
    have h := h x24 ex24
    refine g_istore X (lv' := [(6, .int x24), (0, .ref (ea (zE Z) 87)), (1, .int v1), (2, .int v2), (3, .int v3), (4, .int v4), (5, .int v5), (7, .int v7), (8, .int v8), (9, .int v9)]) dX11_pass_101 (by decide) rfl ?_
    refine g_iload X dX11_pass_103 7 rfl ?_
    refine g_iconst X (v := 1) dX11_pass_105 (by decide) ?_
    refine g_aload_n X dX11_pass_106 rfl 1 rfl ?_
    refine g_getr X (C := RX11) (T := TX11) (N := 39) (ci := 9) (k := 37) iX11_pass_X11 rfl kX11_pass_69 (Nat.le_of_ble_eq_true rfl) rfl (by decide) rfl rfl dX11_pass_107 ?_
    refine g_iload X dX11_pass_110 9 rfl ?_
    obtain ⟨b25, h⟩ := h
    refine g_iald X (Nat.le_of_ble_eq_true rfl) rfl b25 dX11_pass_112 ?_
    refine g_ishl X dX11_pass_113 ?_
    refine g_ior X dX11_pass_114 ?_
    refine g_topi (fun x26 ex26 => ?_)
    have h := h x26 ex26
    refine g_istore X (lv' := [(7, .int x26), (6, .int x24), (0, .ref (ea (zE Z) 87)), (1, .int v1), (2, .int v2), (3, .int v3), (4, .int v4), (5, .int v5), (8, .int v8), (9, .int v9)]) dX11_pass_115 (by decide) rfl ?_
    obtain ⟨x27, ex27⟩ : ∃ y : Int32, y = v9 + (-1) := ⟨_, rfl⟩
    have h := h x27 ex27
    refine g_iinc X (q := 9) (v := x27) (lv' := [(9, .int x27), (7, .int x26), (6, .int x24), (0, .ref (ea (zE Z) 87)), (1, .int v1), (2, .int v2), (3, .int v3), (4, .int v4), (5, .int v5), (8, .int v8)]) dX11_pass_117 rfl (by rw [ex27]; rfl) (by decide) rfl ?_
    refine g_goto X (tgt := 75) dX11_pass_120 (by decide) ?_
    refine GW.sub (lv' := [(0, .ref (ea (zE Z) 87)), (1, .int v1), (2, .int v2), (3, .int v3), (4, .int v4), (5, .int v5), (6, .int x24), (7, .int x26), (8, .int v8), (9, .int x27)]) [3, 4, 5, 6, 7, 8, 2, 1, 9, 0] rfl ?_
    exact hk75 v1 v2 v3 v4 v5 x24 x26 v8 x27 I22 J h
theorem w_X11_pass_L75 {Z : RT}  (X : Cx Z cX11_pass 10 RX11 wsX11_pass rmX11_pass (some .int)) {Q : Int32 → MI → MJ → Prop} (R : RI Z Q)  {k51 : Int32 → Int32 → Int32 → Int32 → Int32 → MI → MJ → Prop} (hk51 : ∀ (v1 : Int32) (v2 : Int32) (v3 : Int32) (v4 : Int32) (v5 : Int32) (I : MI) (J : MJ), k51 v1 v2 v3 v4 v5 I J → GW Z 10 I J 51 [(0, .ref (ea (zE Z) 87)), (1, .int v1), (2, .int v2), (3, .int v3), (4, .int v4), (5, .int v5)] []) : ∀ (n : Nat) (v1 : Int32) (v2 : Int32) (v3 : Int32) (v4 : Int32) (v5 : Int32) (v6 : Int32) (v7 : Int32) (v8 : Int32) (v9 : Int32) (I : MI) (J : MJ) (h : vc_X11_pass_L75  Q k51 n v1 v2 v3 v4 v5 v6 v7 v8 v9 I J), GW Z 10 I J 75 [(0, .ref (ea (zE Z) 87)), (1, .int v1), (2, .int v2), (3, .int v3), (4, .int v4), (5, .int v5), (6, .int v6), (7, .int v7), (8, .int v8), (9, .int v9)] [] := by
  intro n
  induction n with
  | zero => intro v1 v2 v3 v4 v5 v6 v7 v8 v9 I J h; exact h.elim
  | succ n ih => intro v1 v2 v3 v4 v5 v6 v7 v8 v9 I J h; exact w_X11_pass_L75s X R  hk51 ih v1 v2 v3 v4 v5 v6 v7 v8 v9 I J h
def vc_X11_pass_L51s  (Q : Int32 → MI → MJ → Prop)  (k51 : Int32 → Int32 → Int32 → Int32 → Int32 → MI → MJ → Prop) (v1 : Int32) (v2 : Int32) (v3 : Int32) (v4 : Int32) (v5 : Int32) (I : MI) (J : MJ) : Prop := ((v3 ≤ v5 → ((¬ v2 = (-1) → (((I 87 28) ≤ v2 → Q (-1) I J) ∧ (¬ (I 87 28) ≤ v2 → vp_in v2 5 ∧ Q (I 106 (Int32.toNatClampNeg v2)) I J))) ∧ (v2 = (-1) → Q v4 I J))) ∧ (¬ v3 ≤ v5 → ∀ x32 : Int32, x32 = (I 87 28) - 1 → (∃ n, vc_X11_pass_L75  Q k51 n v1 v2 v3 v4 v5 v5 0 0 x32 I J)))
def vc_X11_pass_L51  (Q : Int32 → MI → MJ → Prop)  (n : Nat) : Int32 → Int32 → Int32 → Int32 → Int32 → MI → MJ → Prop := Nat.rec (fun _ _ _ _ _ _ _ => False) (fun _ ih => vc_X11_pass_L51s  Q  ih) n
set_option maxRecDepth 100000 in
set_option maxHeartbeats 4000000 in
theorem w_X11_pass_L51s {Z : RT}  (X : Cx Z cX11_pass 10 RX11 wsX11_pass rmX11_pass (some .int)) {Q : Int32 → MI → MJ → Prop} (R : RI Z Q)    {k51 : Int32 → Int32 → Int32 → Int32 → Int32 → MI → MJ → Prop} (hk51 : ∀ (v1 : Int32) (v2 : Int32) (v3 : Int32) (v4 : Int32) (v5 : Int32) (I : MI) (J : MJ), k51 v1 v2 v3 v4 v5 I J → GW Z 10 I J 51 [(0, .ref (ea (zE Z) 87)), (1, .int v1), (2, .int v2), (3, .int v3), (4, .int v4), (5, .int v5)] []) (v1 : Int32) (v2 : Int32) (v3 : Int32) (v4 : Int32) (v5 : Int32) (I : MI) (J : MJ) (h : vc_X11_pass_L51s  Q  k51 v1 v2 v3 v4 v5 I J) : GW Z 10 I J 51 [(0, .ref (ea (zE Z) 87)), (1, .int v1), (2, .int v2), (3, .int v3), (4, .int v4), (5, .int v5)] [] := by
  refine g_iload X dX11_pass_51 5 rfl ?_
  refine g_iload_n X dX11_pass_53 rfl 3 rfl ?_
  refine g_icmp_ge X (tgt := 230) dX11_pass_54 (by decide) (fun c28 => ?_) (fun c28 => ?_)
  · have h := h.1 c28
    refine g_iload_n X dX11_pass_230 rfl 2 rfl ?_
    refine g_iconst X (v := (-1)) dX11_pass_231 (by decide) ?_
    refine g_icmp_ne X (tgt := 240) dX11_pass_232 (by decide) (fun c29 => ?_) (fun c29 => ?_)
    · have h := h.1 c29
      refine g_iload_n X dX11_pass_240 rfl 2 rfl ?_
      refine g_aload_n X dX11_pass_241 rfl 0 rfl ?_
      refine g_geti X (C := RX11) (T := TX11) (N := 39) (ci := 9) (k := 28) iX11_pass_X11 rfl kX11_pass_88 (Nat.le_of_ble_eq_true rfl) rfl (by decide) rfl rfl dX11_pass_242 ?_
      refine g_icmp_ge X (tgt := 257) dX11_pass_245 (by decide) (fun c30 => ?_) (fun c30 => ?_)
      · have h := h.1 c30
        refine g_iconst X (v := (-1)) dX11_pass_257 (by decide) ?_
        exact g_iret X R dX11_pass_258 h
      · have h := h.2 c30
        refine g_aload_n X dX11_pass_248 rfl 0 rfl ?_
        refine g_getr X (C := RX11) (T := TX11) (N := 39) (ci := 9) (k := 36) iX11_pass_X11 rfl kX11_pass_66 (Nat.le_of_ble_eq_true rfl) rfl (by decide) rfl rfl dX11_pass_249 ?_
        refine g_iload_n X dX11_pass_252 rfl 2 rfl ?_
        obtain ⟨b31, h⟩ := h
        refine g_iald X (Nat.le_of_ble_eq_true rfl) rfl b31 dX11_pass_253 ?_
        refine g_goto X (tgt := 258) dX11_pass_254 (by decide) ?_
        exact g_iret X R dX11_pass_258 h
    · have h := h.2 c29
      refine g_iload X dX11_pass_235 4 rfl ?_
      refine g_goto X (tgt := 258) dX11_pass_237 (by decide) ?_
      exact g_iret X R dX11_pass_258 h
  · have h := h.2 c28
    refine g_iload X dX11_pass_57 5 rfl ?_
    refine g_istore X (lv' := [(6, .int v5), (0, .ref (ea (zE Z) 87)), (1, .int v1), (2, .int v2), (3, .int v3), (4, .int v4), (5, .int v5)]) dX11_pass_59 (by decide) rfl ?_
    refine g_iconst X (v := 0) dX11_pass_61 (by decide) ?_
    refine g_istore X (lv' := [(7, .int 0), (6, .int v5), (0, .ref (ea (zE Z) 87)), (1, .int v1), (2, .int v2), (3, .int v3), (4, .int v4), (5, .int v5)]) dX11_pass_62 (by decide) rfl ?_
    refine g_iconst X (v := 0) dX11_pass_64 (by decide) ?_
    refine g_istore X (lv' := [(8, .int 0), (7, .int 0), (6, .int v5), (0, .ref (ea (zE Z) 87)), (1, .int v1), (2, .int v2), (3, .int v3), (4, .int v4), (5, .int v5)]) dX11_pass_65 (by decide) rfl ?_
    refine g_aload_n X dX11_pass_67 rfl 3 rfl ?_
    refine g_geti X (C := RX11) (T := TX11) (N := 39) (ci := 9) (k := 28) iX11_pass_X11 rfl kX11_pass_88 (Nat.le_of_ble_eq_true rfl) rfl (by decide) rfl rfl dX11_pass_68 ?_
    refine g_iconst X (v := 1) dX11_pass_71 (by decide) ?_
    refine g_isub X dX11_pass_72 ?_
    refine g_topi (fun x32 ex32 => ?_)
    have h := h x32 ex32
    refine g_istore X (lv' := [(9, .int x32), (8, .int 0), (7, .int 0), (6, .int v5), (0, .ref (ea (zE Z) 87)), (1, .int v1), (2, .int v2), (3, .int v3), (4, .int v4), (5, .int v5)]) dX11_pass_73 (by decide) rfl ?_
    refine GW.sub (lv' := [(0, .ref (ea (zE Z) 87)), (1, .int v1), (2, .int v2), (3, .int v3), (4, .int v4), (5, .int v5), (6, .int v5), (7, .int 0), (8, .int 0), (9, .int x32)]) [4, 5, 6, 7, 8, 9, 3, 2, 1, 0] rfl ?_
    obtain ⟨n, h⟩ := h
    exact w_X11_pass_L75 X R  hk51 n v1 v2 v3 v4 v5 v5 0 0 x32 I J h
theorem w_X11_pass_L51 {Z : RT}  (X : Cx Z cX11_pass 10 RX11 wsX11_pass rmX11_pass (some .int)) {Q : Int32 → MI → MJ → Prop} (R : RI Z Q)    : ∀ (n : Nat) (v1 : Int32) (v2 : Int32) (v3 : Int32) (v4 : Int32) (v5 : Int32) (I : MI) (J : MJ) (h : vc_X11_pass_L51  Q  n v1 v2 v3 v4 v5 I J), GW Z 10 I J 51 [(0, .ref (ea (zE Z) 87)), (1, .int v1), (2, .int v2), (3, .int v3), (4, .int v4), (5, .int v5)] [] := by
  intro n
  induction n with
  | zero => intro v1 v2 v3 v4 v5 I J h; exact h.elim
  | succ n ih => intro v1 v2 v3 v4 v5 I J h; exact w_X11_pass_L51s X R   ih v1 v2 v3 v4 v5 I J h
def vc_X11_pass_L23s  (Q : Int32 → MI → MJ → Prop)  (k23 : Int32 → Int32 → Int32 → Int32 → MI → MJ → Prop) (v1 : Int32) (v2 : Int32) (v3 : Int32) (v4 : Int32) (I : MI) (J : MJ) : Prop := (((I 87 28) ≤ v4 → (∃ n, vc_X11_pass_L51  Q  n v1 v2 v3 (-1) 0 I J)) ∧ (¬ (I 87 28) ≤ v4 → ∀ x34 : Int32, x34 = v3 * (I 87 28) → ∀ x35 : Int32, x35 = v4 + 1 → k23 v1 v2 x34 x35 I J))
def vc_X11_pass_L23  (Q : Int32 → MI → MJ → Prop)  (n : Nat) : Int32 → Int32 → Int32 → Int32 → MI → MJ → Prop := Nat.rec (fun _ _ _ _ _ _ => False) (fun _ ih => vc_X11_pass_L23s  Q  ih) n
set_option maxRecDepth 100000 in
set_option maxHeartbeats 4000000 in
theorem w_X11_pass_L23s {Z : RT}  (X : Cx Z cX11_pass 10 RX11 wsX11_pass rmX11_pass (some .int)) {Q : Int32 → MI → MJ → Prop} (R : RI Z Q)    {k23 : Int32 → Int32 → Int32 → Int32 → MI → MJ → Prop} (hk23 : ∀ (v1 : Int32) (v2 : Int32) (v3 : Int32) (v4 : Int32) (I : MI) (J : MJ), k23 v1 v2 v3 v4 I J → GW Z 10 I J 23 [(0, .ref (ea (zE Z) 87)), (1, .int v1), (2, .int v2), (3, .int v3), (4, .int v4)] []) (v1 : Int32) (v2 : Int32) (v3 : Int32) (v4 : Int32) (I : MI) (J : MJ) (h : vc_X11_pass_L23s  Q  k23 v1 v2 v3 v4 I J) : GW Z 10 I J 23 [(0, .ref (ea (zE Z) 87)), (1, .int v1), (2, .int v2), (3, .int v3), (4, .int v4)] [] := by
  refine g_iload X dX11_pass_23 4 rfl ?_
  refine g_aload_n X dX11_pass_25 rfl 0 rfl ?_
  refine g_geti X (C := RX11) (T := TX11) (N := 39) (ci := 9) (k := 28) iX11_pass_X11 rfl kX11_pass_88 (Nat.le_of_ble_eq_true rfl) rfl (by decide) rfl rfl dX11_pass_26 ?_
  refine g_icmp_ge X (tgt := 45) dX11_pass_29 (by decide) (fun c33 => ?_) (fun c33 => ?_)
  · have h := h.1 c33
    refine g_iconst X (v := (-1)) dX11_pass_45 (by decide) ?_
    refine g_istore X (lv' := [(4, .int (-1)), (0, .ref (ea (zE Z) 87)), (1, .int v1), (2, .int v2), (3, .int v3)]) dX11_pass_46 (by decide) rfl ?_
    refine g_iconst X (v := 0) dX11_pass_48 (by decide) ?_
    refine g_istore X (lv' := [(5, .int 0), (4, .int (-1)), (0, .ref (ea (zE Z) 87)), (1, .int v1), (2, .int v2), (3, .int v3)]) dX11_pass_49 (by decide) rfl ?_
    refine GW.sub (lv' := [(0, .ref (ea (zE Z) 87)), (1, .int v1), (2, .int v2), (3, .int v3), (4, .int (-1)), (5, .int 0)]) [2, 3, 4, 5, 1, 0] rfl ?_
    obtain ⟨n, h⟩ := h
    exact w_X11_pass_L51 X R   n v1 v2 v3 (-1) 0 I J h
  · have h := h.2 c33
    refine g_iload_n X dX11_pass_32 rfl 3 rfl ?_
    refine g_aload_n X dX11_pass_33 rfl 0 rfl ?_
    refine g_geti X (C := RX11) (T := TX11) (N := 39) (ci := 9) (k := 28) iX11_pass_X11 rfl kX11_pass_88 (Nat.le_of_ble_eq_true rfl) rfl (by decide) rfl rfl dX11_pass_34 ?_
    refine g_imul X dX11_pass_37 ?_
    refine g_topi (fun x34 ex34 => ?_)
    have h := h x34 ex34
    refine g_istore_n X (lv' := [(3, .int x34), (0, .ref (ea (zE Z) 87)), (1, .int v1), (2, .int v2), (4, .int v4)]) dX11_pass_38 rfl (by decide) rfl ?_
    obtain ⟨x35, ex35⟩ : ∃ y : Int32, y = v4 + 1 := ⟨_, rfl⟩
    have h := h x35 ex35
    refine g_iinc X (q := 4) (v := x35) (lv' := [(4, .int x35), (3, .int x34), (0, .ref (ea (zE Z) 87)), (1, .int v1), (2, .int v2)]) dX11_pass_39 rfl (by rw [ex35]; rfl) (by decide) rfl ?_
    refine g_goto X (tgt := 23) dX11_pass_42 (by decide) ?_
    refine GW.sub (lv' := [(0, .ref (ea (zE Z) 87)), (1, .int v1), (2, .int v2), (3, .int x34), (4, .int x35)]) [2, 3, 4, 1, 0] rfl ?_
    exact hk23 v1 v2 x34 x35 I J h
theorem w_X11_pass_L23 {Z : RT}  (X : Cx Z cX11_pass 10 RX11 wsX11_pass rmX11_pass (some .int)) {Q : Int32 → MI → MJ → Prop} (R : RI Z Q)    : ∀ (n : Nat) (v1 : Int32) (v2 : Int32) (v3 : Int32) (v4 : Int32) (I : MI) (J : MJ) (h : vc_X11_pass_L23  Q  n v1 v2 v3 v4 I J), GW Z 10 I J 23 [(0, .ref (ea (zE Z) 87)), (1, .int v1), (2, .int v2), (3, .int v3), (4, .int v4)] [] := by
  intro n
  induction n with
  | zero => intro v1 v2 v3 v4 I J h; exact h.elim
  | succ n ih => intro v1 v2 v3 v4 I J h; exact w_X11_pass_L23s X R   ih v1 v2 v3 v4 I J h
def vc_X11_pass (p1 : Int32) (p2 : Int32) (I : MI) (J : MJ) (Q : Int32 → MI → MJ → Prop) : Prop := vc_X11_in p1 0 43 I J (fun (r38 : Int32) (I36 : MI) (J37 : MJ) => ((r38 = 0 → Q (-3) I36 J37) ∧ (¬ r38 = 0 → (((-1) ≤ p2 → (∃ n, vc_X11_pass_L23  Q  n p1 p2 1 0 I36 J37)) ∧ (¬ (-1) ≤ p2 → Q (-3) I36 J37)))))
set_option maxRecDepth 100000 in
set_option maxHeartbeats 4000000 in
theorem c_X11_pass (l : Launch) (E : ET)  (p1 : Int32) (p2 : Int32) : CI l yX11_pass wsX11_pass rmX11_pass E [.ref (ea E 87), .int p1, .int p2] (vc_X11_pass p1 p2) := by
  refine CI.of (cc := cX11_pass) (maxL := 10) (own := RX11) (by decide) rfl rfl (Nat.le_of_ble_eq_true rfl) ?_
  intro Z I J Q hE hl X R h
  subst hE
  subst hl
  show GW Z 10 I J 0 [(0, .ref (ea (zE Z) 87)), (1, .int p1), (2, .int p2)] []
  refine g_iload_n X dX11_pass_0 rfl 1 rfl ?_
  refine g_iconst X (v := 0) dX11_pass_1 (by decide) ?_
  refine g_bipush X (v := 43) dX11_pass_2 (by decide) ?_
  refine g_callSI X (As := [.int p1, .int 0, .int 43]) (rest := []) (c_X11_in (zl Z) (zE Z) p1 0 43) gX11_pass_X11_in yo_X11_in.2 rfl ⟨Nat.le_of_ble_eq_true rfl, Nat.le_of_ble_eq_true rfl⟩ rfl dX11_pass_4 h (fun r38 I36 J37 h => ?_)
  refine g_if_eq X (tgt := 15) dX11_pass_7 (by decide) (fun c39 => ?_) (fun c39 => ?_)
  · have h := h.1 c39
    refine g_bipush X (v := (-3)) dX11_pass_15 (by decide) ?_
    exact g_iret X R dX11_pass_17 h
  · have h := h.2 c39
    refine g_iload_n X dX11_pass_10 rfl 2 rfl ?_
    refine g_iconst X (v := (-1)) dX11_pass_11 (by decide) ?_
    refine g_icmp_ge X (tgt := 18) dX11_pass_12 (by decide) (fun c40 => ?_) (fun c40 => ?_)
    · have h := h.1 c40
      refine g_iconst X (v := 1) dX11_pass_18 (by decide) ?_
      refine g_istore_n X (lv' := [(3, .int 1), (0, .ref (ea (zE Z) 87)), (1, .int p1), (2, .int p2)]) dX11_pass_19 rfl (by decide) rfl ?_
      refine g_iconst X (v := 0) dX11_pass_20 (by decide) ?_
      refine g_istore X (lv' := [(4, .int 0), (3, .int 1), (0, .ref (ea (zE Z) 87)), (1, .int p1), (2, .int p2)]) dX11_pass_21 (by decide) rfl ?_
      refine GW.sub (lv' := [(0, .ref (ea (zE Z) 87)), (1, .int p1), (2, .int p2), (3, .int 1), (4, .int 0)]) [2, 3, 4, 1, 0] rfl ?_
      obtain ⟨n, h⟩ := h
      exact w_X11_pass_L23 X R   n p1 p2 1 0 I36 J37 h
    · have h := h.2 c40
      refine g_bipush X (v := (-3)) dX11_pass_15 (by decide) ?_
      exact g_iret X R dX11_pass_17 h

/-! X11_winds.winds(IIII)I -/
def rmX11_winds : Room := { frames := 2, cells := 0, slots := 0, locals := 48 }
theorem yo_X11_winds : yX11_winds.cls = RX11 ∧ yX11_winds.cls ≠ "java/lang/invoke/MethodHandle" ∧ yX11_winds.cls ≠ "java/lang/invoke/VarHandle" ∧ (parseMethodDescriptor yX11_winds.desc).map (fun d => d.parameters.length) = some 4 := by decide +kernel
theorem kX11_winds_c312 : Cond.constantLong RX11 312 (7919) ∈ wsX11_winds := by decide +kernel
theorem kX11_winds_c314 : Cond.constantLong RX11 314 (6151) ∈ wsX11_winds := by decide +kernel
theorem kX11_winds_c316 : Cond.constantLong RX11 316 (65521) ∈ wsX11_winds := by decide +kernel
theorem kX11_winds_c318 : Cond.constantLong RX11 318 (4) ∈ wsX11_winds := by decide +kernel
def vc_X11_winds_B114  (Q : Int32 → MI → MJ → Prop) (k53 : Int32 → Int32 → Int32 → Int32 → Int32 → Int32 → MI → MJ → Prop) (v1 : Int32) (v2 : Int32) (v4 : Int32) (v6 : Int32) (v7 : Int32) (v10 : Int32) (s0 : Int32) (s1 : Int32) (I : MI) (J : MJ) : Prop := ∀ x1 : Int32, x1 = s0 + s1 → vc_X11_loses v6 0 0 v7 v10 0 I J (fun (r4 : Int32) (I2 : MI) (J3 : MJ) => ∀ x5 : Int32, x5 = v6 - r4 → ∀ x6 : Int32, x6 = v7 + 1 → k53 v1 v2 v4 x1 x5 x6 I2 J3)
set_option maxRecDepth 100000 in
set_option maxHeartbeats 4000000 in
theorem w_X11_winds_B114 {Z : RT}  (X : Cx Z cX11_winds 11 RX11 wsX11_winds rmX11_winds (some .int)) {Q : Int32 → MI → MJ → Prop} (R : RI Z Q)  {k53 : Int32 → Int32 → Int32 → Int32 → Int32 → Int32 → MI → MJ → Prop} (hk53 : ∀ (v1 : Int32) (v2 : Int32) (v4 : Int32) (v5 : Int32) (v6 : Int32) (v7 : Int32) (I : MI) (J : MJ), k53 v1 v2 v4 v5 v6 v7 I J → GW Z 11 I J 53 [(1, .int v1), (2, .int v2), (4, .int v4), (5, .int v5), (6, .int v6), (7, .int v7)] []) (v1 : Int32) (v2 : Int32) (v4 : Int32) (v6 : Int32) (v7 : Int32) (v10 : Int32) (s0 : Int32) (s1 : Int32) (I : MI) (J : MJ) (h : vc_X11_winds_B114  Q k53 v1 v2 v4 v6 v7 v10 s0 s1 I J) : GW Z 11 I J 114 [(1, .int v1), (2, .int v2), (4, .int v4), (6, .int v6), (7, .int v7), (10, .int v10)] [.int s1, .int s0] := by
  refine g_iadd X dX11_winds_114 ?_
  refine g_topi (fun x1 ex1 => ?_)
  have h := h x1 ex1
  refine g_istore X (lv' := [(5, .int x1), (1, .int v1), (2, .int v2), (4, .int v4), (6, .int v6), (7, .int v7), (10, .int v10)]) dX11_winds_115 (by decide) rfl ?_
  refine g_iload X dX11_winds_117 4 rfl ?_
  refine g_iload X dX11_winds_119 4 rfl ?_
  refine g_iconst X (v := 0) dX11_winds_121 (by decide) ?_
  refine g_iconst X (v := 0) dX11_winds_122 (by decide) ?_
  refine g_iload X dX11_winds_123 5 rfl ?_
  refine g_iload X dX11_winds_125 6 rfl ?_
  refine g_iconst X (v := 0) dX11_winds_127 (by decide) ?_
  refine g_callSI X (As := [.int v6, .int 0, .int 0, .int v7, .int v10, .int 0]) (rest := [.int v6]) (c_X11_loses (zl Z) (zE Z) v6 0 0 v7 v10 0) gX11_winds_X11_loses yo_X11_loses.2 rfl ⟨Nat.le_of_ble_eq_true rfl, Nat.le_of_ble_eq_true rfl⟩ rfl dX11_winds_128 h (fun r4 I2 J3 h => ?_)
  refine g_isub X dX11_winds_131 ?_
  refine g_topi (fun x5 ex5 => ?_)
  have h := h x5 ex5
  refine g_istore X (lv' := [(6, .int x5), (5, .int x1), (1, .int v1), (2, .int v2), (4, .int v4), (7, .int v7), (10, .int v10)]) dX11_winds_132 (by decide) rfl ?_
  obtain ⟨x6, ex6⟩ : ∃ y : Int32, y = v7 + 1 := ⟨_, rfl⟩
  have h := h x6 ex6
  refine g_iinc X (q := 5) (v := x6) (lv' := [(7, .int x6), (6, .int x5), (5, .int x1), (1, .int v1), (2, .int v2), (4, .int v4), (10, .int v10)]) dX11_winds_134 rfl (by rw [ex6]; rfl) (by decide) rfl ?_
  refine g_goto X (tgt := 53) dX11_winds_137 (by decide) ?_
  refine GW.sub (lv' := [(1, .int v1), (2, .int v2), (4, .int v4), (5, .int x1), (6, .int x5), (7, .int x6)]) [3, 4, 5, 2, 1, 0] rfl ?_
  exact hk53 v1 v2 v4 x1 x5 x6 I2 J3 h
def vc_X11_winds_B100  (Q : Int32 → MI → MJ → Prop) (k53 : Int32 → Int32 → Int32 → Int32 → Int32 → Int32 → MI → MJ → Prop) (v1 : Int32) (v2 : Int32) (v4 : Int32) (v5 : Int32) (v6 : Int32) (v7 : Int32) (s0 : Int32) (I : MI) (J : MJ) : Prop := ((s0 = 0 → vc_X11_winds_B114  Q k53 v1 v2 v4 v6 v7 s0 v5 0 I J) ∧ (¬ s0 = 0 → vc_X11_winds_B114  Q k53 v1 v2 v4 v6 v7 s0 v5 1 I J))
set_option maxRecDepth 100000 in
set_option maxHeartbeats 4000000 in
theorem w_X11_winds_B100 {Z : RT}  (X : Cx Z cX11_winds 11 RX11 wsX11_winds rmX11_winds (some .int)) {Q : Int32 → MI → MJ → Prop} (R : RI Z Q)  {k53 : Int32 → Int32 → Int32 → Int32 → Int32 → Int32 → MI → MJ → Prop} (hk53 : ∀ (v1 : Int32) (v2 : Int32) (v4 : Int32) (v5 : Int32) (v6 : Int32) (v7 : Int32) (I : MI) (J : MJ), k53 v1 v2 v4 v5 v6 v7 I J → GW Z 11 I J 53 [(1, .int v1), (2, .int v2), (4, .int v4), (5, .int v5), (6, .int v6), (7, .int v7)] []) (v1 : Int32) (v2 : Int32) (v4 : Int32) (v5 : Int32) (v6 : Int32) (v7 : Int32) (s0 : Int32) (I : MI) (J : MJ) (h : vc_X11_winds_B100  Q k53 v1 v2 v4 v5 v6 v7 s0 I J) : GW Z 11 I J 100 [(1, .int v1), (2, .int v2), (4, .int v4), (5, .int v5), (6, .int v6), (7, .int v7)] [.int s0] := by
  refine g_istore X (lv' := [(10, .int s0), (1, .int v1), (2, .int v2), (4, .int v4), (5, .int v5), (6, .int v6), (7, .int v7)]) dX11_winds_100 (by decide) rfl ?_
  refine g_iload X dX11_winds_102 4 rfl ?_
  refine g_iload X dX11_winds_104 0 rfl ?_
  refine g_if_eq X (tgt := 113) dX11_winds_106 (by decide) (fun c7 => ?_) (fun c7 => ?_)
  · have h := h.1 c7
    refine g_iconst X (v := 0) dX11_winds_113 (by decide) ?_
    refine GW.sub (lv' := [(1, .int v1), (2, .int v2), (4, .int v4), (6, .int v6), (7, .int v7), (10, .int s0)]) [1, 2, 3, 5, 6, 0] rfl ?_
    exact w_X11_winds_B114 X R  hk53 v1 v2 v4 v6 v7 s0 v5 0 I J h
  · have h := h.2 c7
    refine g_iconst X (v := 1) dX11_winds_109 (by decide) ?_
    refine g_goto X (tgt := 114) dX11_winds_110 (by decide) ?_
    refine GW.sub (lv' := [(1, .int v1), (2, .int v2), (4, .int v4), (6, .int v6), (7, .int v7), (10, .int s0)]) [1, 2, 3, 5, 6, 0] rfl ?_
    exact w_X11_winds_B114 X R  hk53 v1 v2 v4 v6 v7 s0 v5 1 I J h
def vc_X11_winds_L53s  (Q : Int32 → MI → MJ → Prop)  (k53 : Int32 → Int32 → Int32 → Int32 → Int32 → Int32 → MI → MJ → Prop) (v1 : Int32) (v2 : Int32) (v4 : Int32) (v5 : Int32) (v6 : Int32) (v7 : Int32) (I : MI) (J : MJ) : Prop := ((v2 ≤ v7 → ((¬ v4 = 0 → Q v6 I J) ∧ (v4 = 0 → Q v5 I J))) ∧ (¬ v2 ≤ v7 → ∀ x10 : Int64, x10 = ((7919 * (Int32.toInt64 v1)) + (6151 * (Int32.toInt64 v7))) + 1 → ((¬ (lg_cmp (((x10 * x10) - (x10 * x10) / 65521 * 65521) - ((x10 * x10) - (x10 * x10) / 65521 * 65521) / 4 * 4) 0) = 0 → vc_X11_winds_B100  Q k53 v1 v2 v4 v5 v6 v7 0 I J) ∧ ((lg_cmp (((x10 * x10) - (x10 * x10) / 65521 * 65521) - ((x10 * x10) - (x10 * x10) / 65521 * 65521) / 4 * 4) 0) = 0 → vc_X11_winds_B100  Q k53 v1 v2 v4 v5 v6 v7 1 I J))))
def vc_X11_winds_L53  (Q : Int32 → MI → MJ → Prop)  (n : Nat) : Int32 → Int32 → Int32 → Int32 → Int32 → Int32 → MI → MJ → Prop := Nat.rec (fun _ _ _ _ _ _ _ _ => False) (fun _ ih => vc_X11_winds_L53s  Q  ih) n
set_option maxRecDepth 100000 in
set_option maxHeartbeats 4000000 in
theorem w_X11_winds_L53s {Z : RT}  (X : Cx Z cX11_winds 11 RX11 wsX11_winds rmX11_winds (some .int)) {Q : Int32 → MI → MJ → Prop} (R : RI Z Q)    {k53 : Int32 → Int32 → Int32 → Int32 → Int32 → Int32 → MI → MJ → Prop} (hk53 : ∀ (v1 : Int32) (v2 : Int32) (v4 : Int32) (v5 : Int32) (v6 : Int32) (v7 : Int32) (I : MI) (J : MJ), k53 v1 v2 v4 v5 v6 v7 I J → GW Z 11 I J 53 [(1, .int v1), (2, .int v2), (4, .int v4), (5, .int v5), (6, .int v6), (7, .int v7)] []) (v1 : Int32) (v2 : Int32) (v4 : Int32) (v5 : Int32) (v6 : Int32) (v7 : Int32) (I : MI) (J : MJ) (h : vc_X11_winds_L53s  Q  k53 v1 v2 v4 v5 v6 v7 I J) : GW Z 11 I J 53 [(1, .int v1), (2, .int v2), (4, .int v4), (5, .int v5), (6, .int v6), (7, .int v7)] [] := by
  refine g_iload X dX11_winds_53 5 rfl ?_
  refine g_iload_n X dX11_winds_55 rfl 1 rfl ?_
  refine g_icmp_ge X (tgt := 140) dX11_winds_56 (by decide) (fun c8 => ?_) (fun c8 => ?_)
  · have h := h.1 c8
    refine g_iload X dX11_winds_140 2 rfl ?_
    refine g_if_ne X (tgt := 150) dX11_winds_142 (by decide) (fun c9 => ?_) (fun c9 => ?_)
    · have h := h.1 c9
      refine g_iload X dX11_winds_150 4 rfl ?_
      exact g_iret X R dX11_winds_152 h
    · have h := h.2 c9
      refine g_iload X dX11_winds_145 3 rfl ?_
      refine g_goto X (tgt := 152) dX11_winds_147 (by decide) ?_
      exact g_iret X R dX11_winds_152 h
  · have h := h.2 c8
    refine g_ldc2 X dX11_winds_59 kX11_winds_c312 ?_
    refine g_iload_n X dX11_winds_62 rfl 0 rfl ?_
    refine g_i2l X dX11_winds_63 ?_
    refine g_lmul X dX11_winds_64 ?_
    refine g_ldc2 X dX11_winds_65 kX11_winds_c314 ?_
    refine g_iload X dX11_winds_68 5 rfl ?_
    refine g_i2l X dX11_winds_70 ?_
    refine g_lmul X dX11_winds_71 ?_
    refine g_ladd X dX11_winds_72 ?_
    refine g_lconst X (v := 1) dX11_winds_73 (by decide) ?_
    refine g_ladd X dX11_winds_74 ?_
    refine g_topl (fun x10 ex10 => ?_)
    have h := h x10 ex10
    refine g_lstore X (lv' := [(8, .long x10), (1, .int v1), (2, .int v2), (4, .int v4), (5, .int v5), (6, .int v6), (7, .int v7)]) dX11_winds_75 (by decide) rfl ?_
    refine g_lload X dX11_winds_77 0 rfl ?_
    refine g_lload X dX11_winds_79 0 rfl ?_
    refine g_lmul X dX11_winds_81 ?_
    refine g_ldc2 X dX11_winds_82 kX11_winds_c316 ?_
    refine g_lrem X dX11_winds_85 (by decide) ?_
    refine g_ldc2 X dX11_winds_86 kX11_winds_c318 ?_
    refine g_lrem X dX11_winds_89 (by decide) ?_
    refine g_lconst X (v := 0) dX11_winds_90 (by decide) ?_
    refine g_lcmp X dX11_winds_91 ?_
    refine g_if_ne X (tgt := 99) dX11_winds_92 (by decide) (fun c11 => ?_) (fun c11 => ?_)
    · have h := h.1 c11
      refine g_iconst X (v := 0) dX11_winds_99 (by decide) ?_
      refine GW.sub (lv' := [(1, .int v1), (2, .int v2), (4, .int v4), (5, .int v5), (6, .int v6), (7, .int v7)]) [1, 2, 3, 4, 5, 6] rfl ?_
      exact w_X11_winds_B100 X R  hk53 v1 v2 v4 v5 v6 v7 0 I J h
    · have h := h.2 c11
      refine g_iconst X (v := 1) dX11_winds_95 (by decide) ?_
      refine g_goto X (tgt := 100) dX11_winds_96 (by decide) ?_
      refine GW.sub (lv' := [(1, .int v1), (2, .int v2), (4, .int v4), (5, .int v5), (6, .int v6), (7, .int v7)]) [1, 2, 3, 4, 5, 6] rfl ?_
      exact w_X11_winds_B100 X R  hk53 v1 v2 v4 v5 v6 v7 1 I J h
theorem w_X11_winds_L53 {Z : RT}  (X : Cx Z cX11_winds 11 RX11 wsX11_winds rmX11_winds (some .int)) {Q : Int32 → MI → MJ → Prop} (R : RI Z Q)    : ∀ (n : Nat) (v1 : Int32) (v2 : Int32) (v4 : Int32) (v5 : Int32) (v6 : Int32) (v7 : Int32) (I : MI) (J : MJ) (h : vc_X11_winds_L53  Q  n v1 v2 v4 v5 v6 v7 I J), GW Z 11 I J 53 [(1, .int v1), (2, .int v2), (4, .int v4), (5, .int v5), (6, .int v6), (7, .int v7)] [] := by
  intro n
  induction n with
  | zero => intro v1 v2 v4 v5 v6 v7 I J h; exact h.elim
  | succ n ih => intro v1 v2 v4 v5 v6 v7 I J h; exact w_X11_winds_L53s X R   ih v1 v2 v4 v5 v6 v7 I J h
def vc_X11_winds (p1 : Int32) (p2 : Int32) (p3 : Int32) (p4 : Int32) (I : MI) (J : MJ) (Q : Int32 → MI → MJ → Prop) : Prop := vc_X11_in p1 0 9999 I J (fun (r14 : Int32) (I12 : MI) (J13 : MJ) => ((r14 = 0 → Q (-3) I12 J13) ∧ (¬ r14 = 0 → vc_X11_in p2 0 24 I12 J13 (fun (r18 : Int32) (I16 : MI) (J17 : MJ) => ((r18 = 0 → Q (-3) I16 J17) ∧ (¬ r18 = 0 → vc_X11_in p3 0 99 I16 J17 (fun (r22 : Int32) (I20 : MI) (J21 : MJ) => ((r22 = 0 → Q (-3) I20 J21) ∧ (¬ r22 = 0 → vc_X11_in p4 0 1 I20 J21 (fun (r26 : Int32) (I24 : MI) (J25 : MJ) => ((¬ r26 = 0 → (∃ n, vc_X11_winds_L53  Q  n p1 p2 p4 0 p3 0 I24 J25)) ∧ (r26 = 0 → Q (-3) I24 J25))))))))))))
set_option maxRecDepth 100000 in
set_option maxHeartbeats 4000000 in
theorem c_X11_winds (l : Launch) (E : ET)  (p1 : Int32) (p2 : Int32) (p3 : Int32) (p4 : Int32) : CI l yX11_winds wsX11_winds rmX11_winds E [.ref (ea E 87), .int p1, .int p2, .int p3, .int p4] (vc_X11_winds p1 p2 p3 p4) := by
  refine CI.of (cc := cX11_winds) (maxL := 11) (own := RX11) (by decide) rfl rfl (Nat.le_of_ble_eq_true rfl) ?_
  intro Z I J Q hE hl X R h
  subst hE
  subst hl
  show GW Z 11 I J 0 [(0, .ref (ea (zE Z) 87)), (1, .int p1), (2, .int p2), (3, .int p3), (4, .int p4)] []
  refine g_iload_n X dX11_winds_0 rfl 1 rfl ?_
  refine g_iconst X (v := 0) dX11_winds_1 (by decide) ?_
  refine g_sipush X (v := 9999) dX11_winds_2 (by decide) ?_
  refine g_callSI X (As := [.int p1, .int 0, .int 9999]) (rest := []) (c_X11_in (zl Z) (zE Z) p1 0 9999) gX11_winds_X11_in yo_X11_in.2 rfl ⟨Nat.le_of_ble_eq_true rfl, Nat.le_of_ble_eq_true rfl⟩ rfl dX11_winds_5 h (fun r14 I12 J13 h => ?_)
  refine g_if_eq X (tgt := 41) dX11_winds_8 (by decide) (fun c15 => ?_) (fun c15 => ?_)
  · have h := h.1 c15
    refine g_bipush X (v := (-3)) dX11_winds_41 (by decide) ?_
    exact g_iret X R dX11_winds_43 h
  · have h := h.2 c15
    refine g_iload_n X dX11_winds_11 rfl 2 rfl ?_
    refine g_iconst X (v := 0) dX11_winds_12 (by decide) ?_
    refine g_bipush X (v := 24) dX11_winds_13 (by decide) ?_
    refine g_callSI X (As := [.int p2, .int 0, .int 24]) (rest := []) (c_X11_in (zl Z) (zE Z) p2 0 24) gX11_winds_X11_in yo_X11_in.2 rfl ⟨Nat.le_of_ble_eq_true rfl, Nat.le_of_ble_eq_true rfl⟩ rfl dX11_winds_15 h (fun r18 I16 J17 h => ?_)
    refine g_if_eq X (tgt := 41) dX11_winds_18 (by decide) (fun c19 => ?_) (fun c19 => ?_)
    · have h := h.1 c19
      refine g_bipush X (v := (-3)) dX11_winds_41 (by decide) ?_
      exact g_iret X R dX11_winds_43 h
    · have h := h.2 c19
      refine g_iload_n X dX11_winds_21 rfl 3 rfl ?_
      refine g_iconst X (v := 0) dX11_winds_22 (by decide) ?_
      refine g_bipush X (v := 99) dX11_winds_23 (by decide) ?_
      refine g_callSI X (As := [.int p3, .int 0, .int 99]) (rest := []) (c_X11_in (zl Z) (zE Z) p3 0 99) gX11_winds_X11_in yo_X11_in.2 rfl ⟨Nat.le_of_ble_eq_true rfl, Nat.le_of_ble_eq_true rfl⟩ rfl dX11_winds_25 h (fun r22 I20 J21 h => ?_)
      refine g_if_eq X (tgt := 41) dX11_winds_28 (by decide) (fun c23 => ?_) (fun c23 => ?_)
      · have h := h.1 c23
        refine g_bipush X (v := (-3)) dX11_winds_41 (by decide) ?_
        exact g_iret X R dX11_winds_43 h
      · have h := h.2 c23
        refine g_iload X dX11_winds_31 4 rfl ?_
        refine g_iconst X (v := 0) dX11_winds_33 (by decide) ?_
        refine g_iconst X (v := 1) dX11_winds_34 (by decide) ?_
        refine g_callSI X (As := [.int p4, .int 0, .int 1]) (rest := []) (c_X11_in (zl Z) (zE Z) p4 0 1) gX11_winds_X11_in yo_X11_in.2 rfl ⟨Nat.le_of_ble_eq_true rfl, Nat.le_of_ble_eq_true rfl⟩ rfl dX11_winds_35 h (fun r26 I24 J25 h => ?_)
        refine g_if_ne X (tgt := 44) dX11_winds_38 (by decide) (fun c27 => ?_) (fun c27 => ?_)
        · have h := h.1 c27
          refine g_iconst X (v := 0) dX11_winds_44 (by decide) ?_
          refine g_istore X (lv' := [(5, .int 0), (0, .ref (ea (zE Z) 87)), (1, .int p1), (2, .int p2), (3, .int p3), (4, .int p4)]) dX11_winds_45 (by decide) rfl ?_
          refine g_iload_n X dX11_winds_47 rfl 4 rfl ?_
          refine g_istore X (lv' := [(6, .int p3), (5, .int 0), (0, .ref (ea (zE Z) 87)), (1, .int p1), (2, .int p2), (3, .int p3), (4, .int p4)]) dX11_winds_48 (by decide) rfl ?_
          refine g_iconst X (v := 0) dX11_winds_50 (by decide) ?_
          refine g_istore X (lv' := [(7, .int 0), (6, .int p3), (5, .int 0), (0, .ref (ea (zE Z) 87)), (1, .int p1), (2, .int p2), (3, .int p3), (4, .int p4)]) dX11_winds_51 (by decide) rfl ?_
          refine GW.sub (lv' := [(1, .int p1), (2, .int p2), (4, .int p4), (5, .int 0), (6, .int p3), (7, .int 0)]) [4, 5, 7, 2, 1, 0] rfl ?_
          obtain ⟨n, h⟩ := h
          exact w_X11_winds_L53 X R   n p1 p2 p4 0 p3 0 I24 J25 h
        · have h := h.2 c27
          refine g_bipush X (v := (-3)) dX11_winds_41 (by decide) ?_
          exact g_iret X R dX11_winds_43 h

/-! X11_count.count(I)I -/
def rmX11_count : Room := { frames := 1, cells := 0, slots := 0, locals := 21 }
theorem yo_X11_count : yX11_count.cls = RX11 ∧ yX11_count.cls ≠ "java/lang/invoke/MethodHandle" ∧ yX11_count.cls ≠ "java/lang/invoke/VarHandle" ∧ (parseMethodDescriptor yX11_count.desc).map (fun d => d.parameters.length) = some 1 := by decide +kernel
theorem kX11_count_91 : Cond.fieldLink RX11 91 "SnowCourseModel" (TX11 0).2.1 (TX11 0).2.2.1 ∈ wsX11_count := by decide +kernel
theorem iX11_count_X11 : ∀ w ∈ u_ws RX11 TX11 39, w ∈ wsX11_count := by decide +kernel
theorem kX11_count_98 : Cond.fieldLink RX11 98 "SnowCourseModel" (TX11 2).2.1 (TX11 2).2.2.1 ∈ wsX11_count := by decide +kernel
theorem kX11_count_78 : Cond.fieldLink RX11 78 "SnowCourseModel" (TX11 4).2.1 (TX11 4).2.2.1 ∈ wsX11_count := by decide +kernel
theorem kX11_count_25 : Cond.fieldLink RX11 25 "SnowCourseModel" (TX11 20).2.1 (TX11 20).2.2.1 ∈ wsX11_count := by decide +kernel
theorem kX11_count_85 : Cond.fieldLink RX11 85 "SnowCourseModel" (TX11 26).2.1 (TX11 26).2.2.1 ∈ wsX11_count := by decide +kernel
theorem kX11_count_88 : Cond.fieldLink RX11 88 "SnowCourseModel" (TX11 28).2.1 (TX11 28).2.2.1 ∈ wsX11_count := by decide +kernel
theorem kX11_count_82 : Cond.fieldLink RX11 82 "SnowCourseModel" (TX11 24).2.1 (TX11 24).2.2.1 ∈ wsX11_count := by decide +kernel
theorem kX11_count_101 : Cond.fieldLink RX11 101 "SnowCourseModel" (TX11 7).2.1 (TX11 7).2.2.1 ∈ wsX11_count := by decide +kernel
def vc_X11_count_B95  (Q : Int32 → MI → MJ → Prop) (k72 : Int32 → Int32 → Int32 → Int32 → Int32 → MI → MJ → Prop) (v1 : Int32) (v2 : Int32) (v3 : Int32) (v5 : Int32) (s0 : Int32) (s1 : Int32) (I : MI) (J : MJ) : Prop := ∀ x1 : Int32, x1 = s0 + s1 → ∀ x2 : Int32, x2 = v5 + 1 → k72 v1 v2 v3 x1 x2 I J
set_option maxRecDepth 100000 in
set_option maxHeartbeats 4000000 in
theorem w_X11_count_B95 {Z : RT}  (X : Cx Z cX11_count 6 RX11 wsX11_count rmX11_count (some .int)) {Q : Int32 → MI → MJ → Prop} (R : RI Z Q)  {k72 : Int32 → Int32 → Int32 → Int32 → Int32 → MI → MJ → Prop} (hk72 : ∀ (v1 : Int32) (v2 : Int32) (v3 : Int32) (v4 : Int32) (v5 : Int32) (I : MI) (J : MJ), k72 v1 v2 v3 v4 v5 I J → GW Z 6 I J 72 [(0, .ref (ea (zE Z) 87)), (1, .int v1), (2, .int v2), (3, .int v3), (4, .int v4), (5, .int v5)] []) (v1 : Int32) (v2 : Int32) (v3 : Int32) (v5 : Int32) (s0 : Int32) (s1 : Int32) (I : MI) (J : MJ) (h : vc_X11_count_B95  Q k72 v1 v2 v3 v5 s0 s1 I J) : GW Z 6 I J 95 [(0, .ref (ea (zE Z) 87)), (1, .int v1), (2, .int v2), (3, .int v3), (5, .int v5)] [.int s1, .int s0] := by
  refine g_iadd X dX11_count_95 ?_
  refine g_topi (fun x1 ex1 => ?_)
  have h := h x1 ex1
  refine g_istore X (lv' := [(4, .int x1), (0, .ref (ea (zE Z) 87)), (1, .int v1), (2, .int v2), (3, .int v3), (5, .int v5)]) dX11_count_96 (by decide) rfl ?_
  obtain ⟨x2, ex2⟩ : ∃ y : Int32, y = v5 + 1 := ⟨_, rfl⟩
  have h := h x2 ex2
  refine g_iinc X (q := 5) (v := x2) (lv' := [(5, .int x2), (4, .int x1), (0, .ref (ea (zE Z) 87)), (1, .int v1), (2, .int v2), (3, .int v3)]) dX11_count_98 rfl (by rw [ex2]; rfl) (by decide) rfl ?_
  refine g_goto X (tgt := 72) dX11_count_101 (by decide) ?_
  refine GW.sub (lv' := [(0, .ref (ea (zE Z) 87)), (1, .int v1), (2, .int v2), (3, .int v3), (4, .int x1), (5, .int x2)]) [2, 3, 4, 5, 1, 0] rfl ?_
  exact hk72 v1 v2 v3 x1 x2 I J h
def vc_X11_count_L72s  (Q : Int32 → MI → MJ → Prop)  (k72 : Int32 → Int32 → Int32 → Int32 → Int32 → MI → MJ → Prop) (v1 : Int32) (v2 : Int32) (v3 : Int32) (v4 : Int32) (v5 : Int32) (I : MI) (J : MJ) : Prop := ((48 ≤ v5 → ((v1 = 0 → Q (I 87 0) I J) ∧ (¬ v1 = 0 → ((v1 = 1 → Q (I 87 2) I J) ∧ (¬ v1 = 1 → ((v1 = 2 → Q (I 87 4) I J) ∧ (¬ v1 = 2 → ((v1 = 3 → Q v4 I J) ∧ (¬ v1 = 3 → ((v1 = 4 → vp_in 19 20 ∧ Q (I 93 (Int32.toNatClampNeg 19)) I J) ∧ (¬ v1 = 4 → ((v1 = 5 → Q v2 I J) ∧ (¬ v1 = 5 → ((v1 = 6 → Q v3 I J) ∧ (¬ v1 = 6 → ((v1 = 7 → Q (I 87 26) I J) ∧ (¬ v1 = 7 → ((v1 = 8 → Q (I 87 28) I J) ∧ (¬ v1 = 8 → ((v1 = 9 → Q (I 87 24) I J) ∧ (¬ v1 = 9 → ((v1 = 10 → Q (I 87 7) I J) ∧ (¬ v1 = 10 → Q (-3) I J))))))))))))))))))))))) ∧ (¬ 48 ≤ v5 → vc_X11_isWarm v5 I J (fun (r18 : Int32) (I16 : MI) (J17 : MJ) => ((r18 = 0 → vc_X11_count_B95  Q k72 v1 v2 v3 v5 v4 0 I16 J17) ∧ (¬ r18 = 0 → vc_X11_count_B95  Q k72 v1 v2 v3 v5 v4 1 I16 J17)))))
def vc_X11_count_L72  (Q : Int32 → MI → MJ → Prop)  (n : Nat) : Int32 → Int32 → Int32 → Int32 → Int32 → MI → MJ → Prop := Nat.rec (fun _ _ _ _ _ _ _ => False) (fun _ ih => vc_X11_count_L72s  Q  ih) n
set_option maxRecDepth 100000 in
set_option maxHeartbeats 4000000 in
theorem w_X11_count_L72s {Z : RT}  (X : Cx Z cX11_count 6 RX11 wsX11_count rmX11_count (some .int)) {Q : Int32 → MI → MJ → Prop} (R : RI Z Q)    {k72 : Int32 → Int32 → Int32 → Int32 → Int32 → MI → MJ → Prop} (hk72 : ∀ (v1 : Int32) (v2 : Int32) (v3 : Int32) (v4 : Int32) (v5 : Int32) (I : MI) (J : MJ), k72 v1 v2 v3 v4 v5 I J → GW Z 6 I J 72 [(0, .ref (ea (zE Z) 87)), (1, .int v1), (2, .int v2), (3, .int v3), (4, .int v4), (5, .int v5)] []) (v1 : Int32) (v2 : Int32) (v3 : Int32) (v4 : Int32) (v5 : Int32) (I : MI) (J : MJ) (h : vc_X11_count_L72s  Q  k72 v1 v2 v3 v4 v5 I J) : GW Z 6 I J 72 [(0, .ref (ea (zE Z) 87)), (1, .int v1), (2, .int v2), (3, .int v3), (4, .int v4), (5, .int v5)] [] := by
  refine g_iload X dX11_count_72 5 rfl ?_
  refine g_bipush X (v := 48) dX11_count_74 (by decide) ?_
  refine g_icmp_ge X (tgt := 104) dX11_count_76 (by decide) (fun c3 => ?_) (fun c3 => ?_)
  · have h := h.1 c3
    refine g_iload_n X dX11_count_104 rfl 1 rfl ?_
    by_cases c4 : v1 = 0
    · have h := h.1 c4
      refine g_tin X (tgt := 164) dX11_count_105 c4 (by decide) (by decide) rfl (by decide) ?_
      refine g_aload_n X dX11_count_164 rfl 0 rfl ?_
      refine g_geti X (C := RX11) (T := TX11) (N := 39) (ci := 9) (k := 0) iX11_count_X11 rfl kX11_count_91 (Nat.le_of_ble_eq_true rfl) rfl (by decide) rfl rfl dX11_count_165 ?_
      exact g_iret X R dX11_count_168 h
    have h := h.2 c4
    by_cases c5 : v1 = 1
    · have h := h.1 c5
      refine g_tin X (tgt := 169) dX11_count_105 c5 (by decide) (by decide) rfl (by decide) ?_
      refine g_aload_n X dX11_count_169 rfl 0 rfl ?_
      refine g_geti X (C := RX11) (T := TX11) (N := 39) (ci := 9) (k := 2) iX11_count_X11 rfl kX11_count_98 (Nat.le_of_ble_eq_true rfl) rfl (by decide) rfl rfl dX11_count_170 ?_
      exact g_iret X R dX11_count_173 h
    have h := h.2 c5
    by_cases c6 : v1 = 2
    · have h := h.1 c6
      refine g_tin X (tgt := 174) dX11_count_105 c6 (by decide) (by decide) rfl (by decide) ?_
      refine g_aload_n X dX11_count_174 rfl 0 rfl ?_
      refine g_geti X (C := RX11) (T := TX11) (N := 39) (ci := 9) (k := 4) iX11_count_X11 rfl kX11_count_78 (Nat.le_of_ble_eq_true rfl) rfl (by decide) rfl rfl dX11_count_175 ?_
      exact g_iret X R dX11_count_178 h
    have h := h.2 c6
    by_cases c7 : v1 = 3
    · have h := h.1 c7
      refine g_tin X (tgt := 179) dX11_count_105 c7 (by decide) (by decide) rfl (by decide) ?_
      refine g_iload X dX11_count_179 4 rfl ?_
      exact g_iret X R dX11_count_181 h
    have h := h.2 c7
    by_cases c8 : v1 = 4
    · have h := h.1 c8
      refine g_tin X (tgt := 182) dX11_count_105 c8 (by decide) (by decide) rfl (by decide) ?_
      refine g_aload_n X dX11_count_182 rfl 0 rfl ?_
      refine g_getr X (C := RX11) (T := TX11) (N := 39) (ci := 9) (k := 20) iX11_count_X11 rfl kX11_count_25 (Nat.le_of_ble_eq_true rfl) rfl (by decide) rfl rfl dX11_count_183 ?_
      refine g_bipush X (v := 19) dX11_count_186 (by decide) ?_
      obtain ⟨b9, h⟩ := h
      refine g_iald X (Nat.le_of_ble_eq_true rfl) rfl b9 dX11_count_188 ?_
      exact g_iret X R dX11_count_189 h
    have h := h.2 c8
    by_cases c10 : v1 = 5
    · have h := h.1 c10
      refine g_tin X (tgt := 190) dX11_count_105 c10 (by decide) (by decide) rfl (by decide) ?_
      refine g_iload_n X dX11_count_190 rfl 2 rfl ?_
      exact g_iret X R dX11_count_191 h
    have h := h.2 c10
    by_cases c11 : v1 = 6
    · have h := h.1 c11
      refine g_tin X (tgt := 192) dX11_count_105 c11 (by decide) (by decide) rfl (by decide) ?_
      refine g_iload_n X dX11_count_192 rfl 3 rfl ?_
      exact g_iret X R dX11_count_193 h
    have h := h.2 c11
    by_cases c12 : v1 = 7
    · have h := h.1 c12
      refine g_tin X (tgt := 194) dX11_count_105 c12 (by decide) (by decide) rfl (by decide) ?_
      refine g_aload_n X dX11_count_194 rfl 0 rfl ?_
      refine g_geti X (C := RX11) (T := TX11) (N := 39) (ci := 9) (k := 26) iX11_count_X11 rfl kX11_count_85 (Nat.le_of_ble_eq_true rfl) rfl (by decide) rfl rfl dX11_count_195 ?_
      exact g_iret X R dX11_count_198 h
    have h := h.2 c12
    by_cases c13 : v1 = 8
    · have h := h.1 c13
      refine g_tin X (tgt := 199) dX11_count_105 c13 (by decide) (by decide) rfl (by decide) ?_
      refine g_aload_n X dX11_count_199 rfl 0 rfl ?_
      refine g_geti X (C := RX11) (T := TX11) (N := 39) (ci := 9) (k := 28) iX11_count_X11 rfl kX11_count_88 (Nat.le_of_ble_eq_true rfl) rfl (by decide) rfl rfl dX11_count_200 ?_
      exact g_iret X R dX11_count_203 h
    have h := h.2 c13
    by_cases c14 : v1 = 9
    · have h := h.1 c14
      refine g_tin X (tgt := 204) dX11_count_105 c14 (by decide) (by decide) rfl (by decide) ?_
      refine g_aload_n X dX11_count_204 rfl 0 rfl ?_
      refine g_geti X (C := RX11) (T := TX11) (N := 39) (ci := 9) (k := 24) iX11_count_X11 rfl kX11_count_82 (Nat.le_of_ble_eq_true rfl) rfl (by decide) rfl rfl dX11_count_205 ?_
      exact g_iret X R dX11_count_208 h
    have h := h.2 c14
    by_cases c15 : v1 = 10
    · have h := h.1 c15
      refine g_tin X (tgt := 209) dX11_count_105 c15 (by decide) (by decide) rfl (by decide) ?_
      refine g_aload_n X dX11_count_209 rfl 0 rfl ?_
      refine g_geti X (C := RX11) (T := TX11) (N := 39) (ci := 9) (k := 7) iX11_count_X11 rfl kX11_count_101 (Nat.le_of_ble_eq_true rfl) rfl (by decide) rfl rfl dX11_count_210 ?_
      exact g_iret X R dX11_count_213 h
    have h := h.2 c15
    refine g_tout X (tgt := 214) dX11_count_105 (sw_out (hi := 10) (fun k hk => by match k, hk with | 0, _ => exact c4 | 1, _ => exact c5 | 2, _ => exact c6 | 3, _ => exact c7 | 4, _ => exact c8 | 5, _ => exact c10 | 6, _ => exact c11 | 7, _ => exact c12 | 8, _ => exact c13 | 9, _ => exact c14 | 10, _ => exact c15 | k + 11, hk => exact absurd hk (by omega)) (by decide)) (by decide) ?_
    refine g_bipush X (v := (-3)) dX11_count_214 (by decide) ?_
    exact g_iret X R dX11_count_216 h
  · have h := h.2 c3
    refine g_iload X dX11_count_79 4 rfl ?_
    refine g_aload_n X dX11_count_81 rfl 0 rfl ?_
    refine g_iload X dX11_count_82 5 rfl ?_
    refine g_callVI X (As := [.int v5]) (rest := [.int v4]) (T := TX11) (N := 39) (c_X11_isWarm (zl Z) (zE Z) v5) gX11_count_X11_isWarm yo_X11_isWarm rfl ⟨Nat.le_of_ble_eq_true rfl, Nat.le_of_ble_eq_true rfl⟩ (Nat.le_of_ble_eq_true rfl) rfl rfl rfl dX11_count_84 h (fun r18 I16 J17 h => ?_)
    refine g_if_eq X (tgt := 94) dX11_count_87 (by decide) (fun c19 => ?_) (fun c19 => ?_)
    · have h := h.1 c19
      refine g_iconst X (v := 0) dX11_count_94 (by decide) ?_
      refine GW.sub (lv' := [(0, .ref (ea (zE Z) 87)), (1, .int v1), (2, .int v2), (3, .int v3), (5, .int v5)]) [0, 1, 2, 3, 5] rfl ?_
      exact w_X11_count_B95 X R  hk72 v1 v2 v3 v5 v4 0 I16 J17 h
    · have h := h.2 c19
      refine g_iconst X (v := 1) dX11_count_90 (by decide) ?_
      refine g_goto X (tgt := 95) dX11_count_91 (by decide) ?_
      refine GW.sub (lv' := [(0, .ref (ea (zE Z) 87)), (1, .int v1), (2, .int v2), (3, .int v3), (5, .int v5)]) [0, 1, 2, 3, 5] rfl ?_
      exact w_X11_count_B95 X R  hk72 v1 v2 v3 v5 v4 1 I16 J17 h
theorem w_X11_count_L72 {Z : RT}  (X : Cx Z cX11_count 6 RX11 wsX11_count rmX11_count (some .int)) {Q : Int32 → MI → MJ → Prop} (R : RI Z Q)    : ∀ (n : Nat) (v1 : Int32) (v2 : Int32) (v3 : Int32) (v4 : Int32) (v5 : Int32) (I : MI) (J : MJ) (h : vc_X11_count_L72  Q  n v1 v2 v3 v4 v5 I J), GW Z 6 I J 72 [(0, .ref (ea (zE Z) 87)), (1, .int v1), (2, .int v2), (3, .int v3), (4, .int v4), (5, .int v5)] [] := by
  intro n
  induction n with
  | zero => intro v1 v2 v3 v4 v5 I J h; exact h.elim
  | succ n ih => intro v1 v2 v3 v4 v5 I J h; exact w_X11_count_L72s X R   ih v1 v2 v3 v4 v5 I J h
def vc_X11_count_L41s  (Q : Int32 → MI → MJ → Prop)  (k41 : Int32 → Int32 → Int32 → Int32 → Int32 → MI → MJ → Prop) (v1 : Int32) (v2 : Int32) (v3 : Int32) (v4 : Int32) (v5 : Int32) (I : MI) (J : MJ) : Prop := (((I 87 0) ≤ v5 → (∃ n, vc_X11_count_L72  Q  n v1 v2 v3 v4 0 I J)) ∧ (¬ (I 87 0) ≤ v5 → vp_in (12 + v5) 20 ∧ ∀ x22 : Int32, x22 = v3 + (I 93 (Int32.toNatClampNeg (12 + v5))) → ∀ x23 : Int32, x23 = v5 + 1 → k41 v1 v2 x22 v4 x23 I J))
def vc_X11_count_L41  (Q : Int32 → MI → MJ → Prop)  (n : Nat) : Int32 → Int32 → Int32 → Int32 → Int32 → MI → MJ → Prop := Nat.rec (fun _ _ _ _ _ _ _ => False) (fun _ ih => vc_X11_count_L41s  Q  ih) n
set_option maxRecDepth 100000 in
set_option maxHeartbeats 4000000 in
theorem w_X11_count_L41s {Z : RT}  (X : Cx Z cX11_count 6 RX11 wsX11_count rmX11_count (some .int)) {Q : Int32 → MI → MJ → Prop} (R : RI Z Q)    {k41 : Int32 → Int32 → Int32 → Int32 → Int32 → MI → MJ → Prop} (hk41 : ∀ (v1 : Int32) (v2 : Int32) (v3 : Int32) (v4 : Int32) (v5 : Int32) (I : MI) (J : MJ), k41 v1 v2 v3 v4 v5 I J → GW Z 6 I J 41 [(0, .ref (ea (zE Z) 87)), (1, .int v1), (2, .int v2), (3, .int v3), (4, .int v4), (5, .int v5)] []) (v1 : Int32) (v2 : Int32) (v3 : Int32) (v4 : Int32) (v5 : Int32) (I : MI) (J : MJ) (h : vc_X11_count_L41s  Q  k41 v1 v2 v3 v4 v5 I J) : GW Z 6 I J 41 [(0, .ref (ea (zE Z) 87)), (1, .int v1), (2, .int v2), (3, .int v3), (4, .int v4), (5, .int v5)] [] := by
  refine g_iload X dX11_count_41 5 rfl ?_
  refine g_aload_n X dX11_count_43 rfl 0 rfl ?_
  refine g_geti X (C := RX11) (T := TX11) (N := 39) (ci := 9) (k := 0) iX11_count_X11 rfl kX11_count_91 (Nat.le_of_ble_eq_true rfl) rfl (by decide) rfl rfl dX11_count_44 ?_
  refine g_icmp_ge X (tgt := 69) dX11_count_47 (by decide) (fun c20 => ?_) (fun c20 => ?_)
  · have h := h.1 c20
    refine g_iconst X (v := 0) dX11_count_69 (by decide) ?_
    refine g_istore X (lv' := [(5, .int 0), (0, .ref (ea (zE Z) 87)), (1, .int v1), (2, .int v2), (3, .int v3), (4, .int v4)]) dX11_count_70 (by decide) rfl ?_
    refine GW.sub (lv' := [(0, .ref (ea (zE Z) 87)), (1, .int v1), (2, .int v2), (3, .int v3), (4, .int v4), (5, .int 0)]) [1, 2, 3, 4, 5, 0] rfl ?_
    obtain ⟨n, h⟩ := h
    exact w_X11_count_L72 X R   n v1 v2 v3 v4 0 I J h
  · have h := h.2 c20
    refine g_iload_n X dX11_count_50 rfl 3 rfl ?_
    refine g_aload_n X dX11_count_51 rfl 0 rfl ?_
    refine g_getr X (C := RX11) (T := TX11) (N := 39) (ci := 9) (k := 20) iX11_count_X11 rfl kX11_count_25 (Nat.le_of_ble_eq_true rfl) rfl (by decide) rfl rfl dX11_count_52 ?_
    refine g_bipush X (v := 12) dX11_count_55 (by decide) ?_
    refine g_iload X dX11_count_57 5 rfl ?_
    refine g_iadd X dX11_count_59 ?_
    obtain ⟨b21, h⟩ := h
    refine g_iald X (Nat.le_of_ble_eq_true rfl) rfl b21 dX11_count_60 ?_
    refine g_iadd X dX11_count_61 ?_
    refine g_topi (fun x22 ex22 => ?_)
    have h := h x22 ex22
    refine g_istore_n X (lv' := [(3, .int x22), (0, .ref (ea (zE Z) 87)), (1, .int v1), (2, .int v2), (4, .int v4), (5, .int v5)]) dX11_count_62 rfl (by decide) rfl ?_
    obtain ⟨x23, ex23⟩ : ∃ y : Int32, y = v5 + 1 := ⟨_, rfl⟩
    have h := h x23 ex23
    refine g_iinc X (q := 5) (v := x23) (lv' := [(5, .int x23), (3, .int x22), (0, .ref (ea (zE Z) 87)), (1, .int v1), (2, .int v2), (4, .int v4)]) dX11_count_63 rfl (by rw [ex23]; rfl) (by decide) rfl ?_
    refine g_goto X (tgt := 41) dX11_count_66 (by decide) ?_
    refine GW.sub (lv' := [(0, .ref (ea (zE Z) 87)), (1, .int v1), (2, .int v2), (3, .int x22), (4, .int v4), (5, .int x23)]) [2, 3, 4, 1, 5, 0] rfl ?_
    exact hk41 v1 v2 x22 v4 x23 I J h
theorem w_X11_count_L41 {Z : RT}  (X : Cx Z cX11_count 6 RX11 wsX11_count rmX11_count (some .int)) {Q : Int32 → MI → MJ → Prop} (R : RI Z Q)    : ∀ (n : Nat) (v1 : Int32) (v2 : Int32) (v3 : Int32) (v4 : Int32) (v5 : Int32) (I : MI) (J : MJ) (h : vc_X11_count_L41  Q  n v1 v2 v3 v4 v5 I J), GW Z 6 I J 41 [(0, .ref (ea (zE Z) 87)), (1, .int v1), (2, .int v2), (3, .int v3), (4, .int v4), (5, .int v5)] [] := by
  intro n
  induction n with
  | zero => intro v1 v2 v3 v4 v5 I J h; exact h.elim
  | succ n ih => intro v1 v2 v3 v4 v5 I J h; exact w_X11_count_L41s X R   ih v1 v2 v3 v4 v5 I J h
def vc_X11_count_L10s  (Q : Int32 → MI → MJ → Prop)  (k10 : Int32 → Int32 → Int32 → Int32 → Int32 → MI → MJ → Prop) (v1 : Int32) (v2 : Int32) (v3 : Int32) (v4 : Int32) (v5 : Int32) (I : MI) (J : MJ) : Prop := (((I 87 4) ≤ v5 → (∃ n, vc_X11_count_L41  Q  n v1 v2 v3 v4 0 I J)) ∧ (¬ (I 87 4) ≤ v5 → vp_in (8 + v5) 20 ∧ ∀ x26 : Int32, x26 = v2 + (I 93 (Int32.toNatClampNeg (8 + v5))) → ∀ x27 : Int32, x27 = v5 + 1 → k10 v1 x26 v3 v4 x27 I J))
def vc_X11_count_L10  (Q : Int32 → MI → MJ → Prop)  (n : Nat) : Int32 → Int32 → Int32 → Int32 → Int32 → MI → MJ → Prop := Nat.rec (fun _ _ _ _ _ _ _ => False) (fun _ ih => vc_X11_count_L10s  Q  ih) n
set_option maxRecDepth 100000 in
set_option maxHeartbeats 4000000 in
theorem w_X11_count_L10s {Z : RT}  (X : Cx Z cX11_count 6 RX11 wsX11_count rmX11_count (some .int)) {Q : Int32 → MI → MJ → Prop} (R : RI Z Q)    {k10 : Int32 → Int32 → Int32 → Int32 → Int32 → MI → MJ → Prop} (hk10 : ∀ (v1 : Int32) (v2 : Int32) (v3 : Int32) (v4 : Int32) (v5 : Int32) (I : MI) (J : MJ), k10 v1 v2 v3 v4 v5 I J → GW Z 6 I J 10 [(0, .ref (ea (zE Z) 87)), (1, .int v1), (2, .int v2), (3, .int v3), (4, .int v4), (5, .int v5)] []) (v1 : Int32) (v2 : Int32) (v3 : Int32) (v4 : Int32) (v5 : Int32) (I : MI) (J : MJ) (h : vc_X11_count_L10s  Q  k10 v1 v2 v3 v4 v5 I J) : GW Z 6 I J 10 [(0, .ref (ea (zE Z) 87)), (1, .int v1), (2, .int v2), (3, .int v3), (4, .int v4), (5, .int v5)] [] := by
  refine g_iload X dX11_count_10 5 rfl ?_
  refine g_aload_n X dX11_count_12 rfl 0 rfl ?_
  refine g_geti X (C := RX11) (T := TX11) (N := 39) (ci := 9) (k := 4) iX11_count_X11 rfl kX11_count_78 (Nat.le_of_ble_eq_true rfl) rfl (by decide) rfl rfl dX11_count_13 ?_
  refine g_icmp_ge X (tgt := 38) dX11_count_16 (by decide) (fun c24 => ?_) (fun c24 => ?_)
  · have h := h.1 c24
    refine g_iconst X (v := 0) dX11_count_38 (by decide) ?_
    refine g_istore X (lv' := [(5, .int 0), (0, .ref (ea (zE Z) 87)), (1, .int v1), (2, .int v2), (3, .int v3), (4, .int v4)]) dX11_count_39 (by decide) rfl ?_
    refine GW.sub (lv' := [(0, .ref (ea (zE Z) 87)), (1, .int v1), (2, .int v2), (3, .int v3), (4, .int v4), (5, .int 0)]) [1, 2, 3, 4, 5, 0] rfl ?_
    obtain ⟨n, h⟩ := h
    exact w_X11_count_L41 X R   n v1 v2 v3 v4 0 I J h
  · have h := h.2 c24
    refine g_iload_n X dX11_count_19 rfl 2 rfl ?_
    refine g_aload_n X dX11_count_20 rfl 0 rfl ?_
    refine g_getr X (C := RX11) (T := TX11) (N := 39) (ci := 9) (k := 20) iX11_count_X11 rfl kX11_count_25 (Nat.le_of_ble_eq_true rfl) rfl (by decide) rfl rfl dX11_count_21 ?_
    refine g_bipush X (v := 8) dX11_count_24 (by decide) ?_
    refine g_iload X dX11_count_26 5 rfl ?_
    refine g_iadd X dX11_count_28 ?_
    obtain ⟨b25, h⟩ := h
    refine g_iald X (Nat.le_of_ble_eq_true rfl) rfl b25 dX11_count_29 ?_
    refine g_iadd X dX11_count_30 ?_
    refine g_topi (fun x26 ex26 => ?_)
    have h := h x26 ex26
    refine g_istore_n X (lv' := [(2, .int x26), (0, .ref (ea (zE Z) 87)), (1, .int v1), (3, .int v3), (4, .int v4), (5, .int v5)]) dX11_count_31 rfl (by decide) rfl ?_
    obtain ⟨x27, ex27⟩ : ∃ y : Int32, y = v5 + 1 := ⟨_, rfl⟩
    have h := h x27 ex27
    refine g_iinc X (q := 5) (v := x27) (lv' := [(5, .int x27), (2, .int x26), (0, .ref (ea (zE Z) 87)), (1, .int v1), (3, .int v3), (4, .int v4)]) dX11_count_32 rfl (by rw [ex27]; rfl) (by decide) rfl ?_
    refine g_goto X (tgt := 10) dX11_count_35 (by decide) ?_
    refine GW.sub (lv' := [(0, .ref (ea (zE Z) 87)), (1, .int v1), (2, .int x26), (3, .int v3), (4, .int v4), (5, .int x27)]) [2, 3, 1, 4, 5, 0] rfl ?_
    exact hk10 v1 x26 v3 v4 x27 I J h
theorem w_X11_count_L10 {Z : RT}  (X : Cx Z cX11_count 6 RX11 wsX11_count rmX11_count (some .int)) {Q : Int32 → MI → MJ → Prop} (R : RI Z Q)    : ∀ (n : Nat) (v1 : Int32) (v2 : Int32) (v3 : Int32) (v4 : Int32) (v5 : Int32) (I : MI) (J : MJ) (h : vc_X11_count_L10  Q  n v1 v2 v3 v4 v5 I J), GW Z 6 I J 10 [(0, .ref (ea (zE Z) 87)), (1, .int v1), (2, .int v2), (3, .int v3), (4, .int v4), (5, .int v5)] [] := by
  intro n
  induction n with
  | zero => intro v1 v2 v3 v4 v5 I J h; exact h.elim
  | succ n ih => intro v1 v2 v3 v4 v5 I J h; exact w_X11_count_L10s X R   ih v1 v2 v3 v4 v5 I J h
def vc_X11_count (p1 : Int32) (I : MI) (J : MJ) (Q : Int32 → MI → MJ → Prop) : Prop := (∃ n, vc_X11_count_L10  Q  n p1 0 0 0 0 I J)
set_option maxRecDepth 100000 in
set_option maxHeartbeats 4000000 in
theorem c_X11_count (l : Launch) (E : ET)  (p1 : Int32) : CI l yX11_count wsX11_count rmX11_count E [.ref (ea E 87), .int p1] (vc_X11_count p1) := by
  refine CI.of (cc := cX11_count) (maxL := 6) (own := RX11) (by decide) rfl rfl (Nat.le_of_ble_eq_true rfl) ?_
  intro Z I J Q hE hl X R h
  subst hE
  subst hl
  show GW Z 6 I J 0 [(0, .ref (ea (zE Z) 87)), (1, .int p1)] []
  refine g_iconst X (v := 0) dX11_count_0 (by decide) ?_
  refine g_istore_n X (lv' := [(2, .int 0), (0, .ref (ea (zE Z) 87)), (1, .int p1)]) dX11_count_1 rfl (by decide) rfl ?_
  refine g_iconst X (v := 0) dX11_count_2 (by decide) ?_
  refine g_istore_n X (lv' := [(3, .int 0), (2, .int 0), (0, .ref (ea (zE Z) 87)), (1, .int p1)]) dX11_count_3 rfl (by decide) rfl ?_
  refine g_iconst X (v := 0) dX11_count_4 (by decide) ?_
  refine g_istore X (lv' := [(4, .int 0), (3, .int 0), (2, .int 0), (0, .ref (ea (zE Z) 87)), (1, .int p1)]) dX11_count_5 (by decide) rfl ?_
  refine g_iconst X (v := 0) dX11_count_7 (by decide) ?_
  refine g_istore X (lv' := [(5, .int 0), (4, .int 0), (3, .int 0), (2, .int 0), (0, .ref (ea (zE Z) 87)), (1, .int p1)]) dX11_count_8 (by decide) rfl ?_
  refine GW.sub (lv' := [(0, .ref (ea (zE Z) 87)), (1, .int p1), (2, .int 0), (3, .int 0), (4, .int 0), (5, .int 0)]) [4, 5, 3, 2, 1, 0] rfl ?_
  obtain ⟨n, h⟩ := h
  exact w_X11_count_L10 X R   n p1 0 0 0 0 I J h
