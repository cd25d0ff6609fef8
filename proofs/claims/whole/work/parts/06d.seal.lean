/-! X2_sealedWorth.sealedWorth(III)J -/
def rmX2_sealedWorth (n : Nat) : Room := { frames := n + 4, cells := 0, slots := 0, locals := 60 * n + 60 }
theorem yo_X2_sealedWorth : yX2_sealedWorth.cls = RX2 ∧ yX2_sealedWorth.cls ≠ "java/lang/invoke/MethodHandle" ∧ yX2_sealedWorth.cls ≠ "java/lang/invoke/VarHandle" ∧ (parseMethodDescriptor yX2_sealedWorth.desc).map (fun d => d.parameters.length) = some 3 := by decide +kernel
theorem kX2_sealedWorth_m25 : Cond.methodLink RX2 25 Lib.MathLoose.max_long.x ∈ wsX2_sealedWorth := by decide +kernel
theorem kX2_sealedWorth_msmax_long : Cond.static Lib.MathLoose.max_long.x ∈ wsX2_sealedWorth := by decide +kernel
theorem kX2_sealedWorth_mi : Cond.initialized "java/lang/Math" ∈ wsX2_sealedWorth := by decide +kernel
theorem kX2_sealedWorth_mcmax_long : Cond.code Lib.MathLoose.max_long.x Lib.MathLoose.max_long.code 4 (some .long) ∈ wsX2_sealedWorth := by decide +kernel
def vcs_X2_sealedWorth (rk : Int32 → Int32 → Int32 → MI → MJ → (Int64 → MI → MJ → Prop) → Prop) (p0 : Int32) (p1 : Int32) (p2 : Int32) (I : MI) (J : MJ) (Q : Int64 → MI → MJ → Prop) : Prop := ((p1 < 1 → Q 0 I J) ∧ (¬ p1 < 1 → ((p1 ≤ 6 → vc_X2_tens (p1 - 1) I J (fun (r5 : Int64) (I3 : MI) (J4 : MJ) => vc_X3_opened p0 I3 J4 (fun (r8 : Int32) (I6 : MI) (J7 : MJ) => rk r8 (p1 - 1) p2 I6 J7 (fun (r11 : Int64) (I9 : MI) (J10 : MJ) => ∀ x12 : Int64, x12 = (if r11 < ((Int32.toInt64 (5 * p0)) * r5) then ((Int32.toInt64 (5 * p0)) * r5) else r11) → rk p0 (p1 - 1) p2 I9 J10 (fun (r15 : Int64) (I13 : MI) (J14 : MJ) => ∀ x16 : Int64, x16 = (if r15 < ((Int32.toInt64 (3 * p0)) * r5) then ((Int32.toInt64 (3 * p0)) * r5) else r15) → Q (((Int32.toInt64 p2) * x12) + ((Int32.toInt64 (10 - p2)) * x16)) I13 J14))))) ∧ (¬ p1 ≤ 6 → Q 0 I J))))
def vc_X2_sealedWorth (n : Nat) : Int32 → Int32 → Int32 → MI → MJ → (Int64 → MI → MJ → Prop) → Prop := Nat.rec (fun _ _ _ _ _ _ => False) (fun _ ih => vcs_X2_sealedWorth ih) n
set_option maxRecDepth 100000 in
set_option maxHeartbeats 4000000 in
theorem c_X2_sealedWorth (l : Launch) (E : ET) : ∀ (n : Nat) (p0 : Int32) (p1 : Int32) (p2 : Int32), CL l yX2_sealedWorth wsX2_sealedWorth (rmX2_sealedWorth n) E [.int p0, .int p1, .int p2] (vc_X2_sealedWorth n p0 p1 p2) := by
  intro n
  induction n with
  | zero => intro p0 p1 p2 sz I J Q h; exact h.elim
  | succ n ih =>
  intro p0 p1 p2
  refine CL.of (cc := cX2_sealedWorth) (maxL := 9) (own := RX2) (by decide) rfl rfl (Nat.le_of_ble_eq_true rfl) ?_
  intro Z I J Q hE hl X R h
  subst hE
  subst hl
  show GW Z 9 I J 0 [(0, .int p0), (1, .int p1), (2, .int p2)] []
  refine g_iload_n X dX2_sealedWorth_0 rfl 1 rfl ?_
  refine g_iconst X (v := 1) dX2_sealedWorth_1 (by decide) ?_
  refine g_icmp_lt X (tgt := 11) dX2_sealedWorth_2 (by decide) (fun c1 => ?_) (fun c1 => ?_)
  · have h := h.1 c1
    refine g_lconst X (v := 0) dX2_sealedWorth_11 (by decide) ?_
    exact g_lret X R dX2_sealedWorth_12 h
  · have h := h.2 c1
    refine g_iload_n X dX2_sealedWorth_5 rfl 1 rfl ?_
    refine g_bipush X (v := 6) dX2_sealedWorth_6 (by decide) ?_
    refine g_icmp_le X (tgt := 13) dX2_sealedWorth_8 (by decide) (fun c2 => ?_) (fun c2 => ?_)
    · have h := h.1 c2
      refine g_iload_n X dX2_sealedWorth_13 rfl 1 rfl ?_
      refine g_iconst X (v := 1) dX2_sealedWorth_14 (by decide) ?_
      refine g_isub X dX2_sealedWorth_15 ?_
      refine g_callSL X (As := [.int (p1 - 1)]) (rest := []) (c_X2_tens (zl Z) (zE Z) (p1 - 1)) gX2_sealedWorth_X2_tens yo_X2_tens.2 rfl ⟨by show 0 + 1 ≤ n + 1 + 4; omega, by show 8 + (4 + 11) + 0 ≤ 60 * (n + 1) + 60; omega⟩ rfl dX2_sealedWorth_16 h (fun r5 I3 J4 h => ?_)
      refine g_lstore_n X (lv' := [(3, .long r5), (0, .int p0), (1, .int p1), (2, .int p2)]) dX2_sealedWorth_19 rfl (by decide) rfl ?_
      refine g_iconst X (v := 5) dX2_sealedWorth_20 (by decide) ?_
      refine g_iload_n X dX2_sealedWorth_21 rfl 1 rfl ?_
      refine g_imul X dX2_sealedWorth_22 ?_
      refine g_i2l X dX2_sealedWorth_23 ?_
      refine g_lload_n X dX2_sealedWorth_24 rfl 0 rfl ?_
      refine g_lmul X dX2_sealedWorth_25 ?_
      refine g_iload_n X dX2_sealedWorth_26 rfl 1 rfl ?_
      refine g_callSI X (As := [.int p0]) (rest := [.long ((Int32.toInt64 (5 * p0)) * r5)]) (c_X3_opened (zl Z) (zE Z) p0) gX2_sealedWorth_X3_opened yo_X3_opened.2 rfl ⟨by show 1 + 1 ≤ n + 1 + 4; omega, by show 8 + (1 + 11) + 22 ≤ 60 * (n + 1) + 60; omega⟩ rfl dX2_sealedWorth_27 h (fun r8 I6 J7 h => ?_)
      refine g_iload_n X dX2_sealedWorth_30 rfl 2 rfl ?_
      refine g_iconst X (v := 1) dX2_sealedWorth_31 (by decide) ?_
      refine g_isub X dX2_sealedWorth_32 ?_
      refine g_iload_n X dX2_sealedWorth_33 rfl 3 rfl ?_
      refine g_callSL X (As := [.int r8, .int (p1 - 1), .int p2]) (rest := [.long ((Int32.toInt64 (5 * p0)) * r5)]) (ih r8 (p1 - 1) p2) gX2_sealedWorth_X2_sealedWorth yo_X2_sealedWorth.2 rfl ⟨by show n + 4 + 1 ≤ n + 1 + 4; omega, by show 8 + (9 + 11) + (60 * n + 60) ≤ 60 * (n + 1) + 60; omega⟩ rfl dX2_sealedWorth_34 h (fun r11 I9 J10 h => ?_)
      refine g_lmax X kX2_sealedWorth_m25 kX2_sealedWorth_msmax_long kX2_sealedWorth_mi kX2_sealedWorth_mcmax_long ⟨by show 1 ≤ n + 1 + 4; omega, by show 0 + 15 ≤ 60 * (n + 1) + 60; omega⟩ dX2_sealedWorth_37 ?_
      refine g_topl (fun x12 ex12 => ?_)
      have h := h x12 ex12
      refine g_lstore X (lv' := [(5, .long x12), (3, .long r5), (0, .int p0), (1, .int p1), (2, .int p2)]) dX2_sealedWorth_40 (by decide) rfl ?_
      refine g_iconst X (v := 3) dX2_sealedWorth_42 (by decide) ?_
      refine g_iload_n X dX2_sealedWorth_43 rfl 2 rfl ?_
      refine g_imul X dX2_sealedWorth_44 ?_
      refine g_i2l X dX2_sealedWorth_45 ?_
      refine g_lload_n X dX2_sealedWorth_46 rfl 1 rfl ?_
      refine g_lmul X dX2_sealedWorth_47 ?_
      refine g_iload_n X dX2_sealedWorth_48 rfl 2 rfl ?_
      refine g_iload_n X dX2_sealedWorth_49 rfl 3 rfl ?_
      refine g_iconst X (v := 1) dX2_sealedWorth_50 (by decide) ?_
      refine g_isub X dX2_sealedWorth_51 ?_
      refine g_iload_n X dX2_sealedWorth_52 rfl 4 rfl ?_
      refine g_callSL X (As := [.int p0, .int (p1 - 1), .int p2]) (rest := [.long ((Int32.toInt64 (3 * p0)) * r5)]) (ih p0 (p1 - 1) p2) gX2_sealedWorth_X2_sealedWorth yo_X2_sealedWorth.2 rfl ⟨by show n + 4 + 1 ≤ n + 1 + 4; omega, by show 8 + (9 + 11) + (60 * n + 60) ≤ 60 * (n + 1) + 60; omega⟩ rfl dX2_sealedWorth_53 h (fun r15 I13 J14 h => ?_)
      refine g_lmax X kX2_sealedWorth_m25 kX2_sealedWorth_msmax_long kX2_sealedWorth_mi kX2_sealedWorth_mcmax_long ⟨by show 1 ≤ n + 1 + 4; omega, by show 0 + 15 ≤ 60 * (n + 1) + 60; omega⟩ dX2_sealedWorth_56 ?_
      refine g_topl (fun x16 ex16 => ?_)
      have h := h x16 ex16
      refine g_lstore X (lv' := [(7, .long x16), (5, .long x12), (3, .long r5), (0, .int p0), (1, .int p1), (2, .int p2)]) dX2_sealedWorth_59 (by decide) rfl ?_
      refine g_iload_n X dX2_sealedWorth_61 rfl 5 rfl ?_
      refine g_i2l X dX2_sealedWorth_62 ?_
      refine g_lload X dX2_sealedWorth_63 1 rfl ?_
      refine g_lmul X dX2_sealedWorth_65 ?_
      refine g_bipush X (v := 10) dX2_sealedWorth_66 (by decide) ?_
      refine g_iload_n X dX2_sealedWorth_68 rfl 5 rfl ?_
      refine g_isub X dX2_sealedWorth_69 ?_
      refine g_i2l X dX2_sealedWorth_70 ?_
      refine g_lload X dX2_sealedWorth_71 0 rfl ?_
      refine g_lmul X dX2_sealedWorth_73 ?_
      refine g_ladd X dX2_sealedWorth_74 ?_
      exact g_lret X R dX2_sealedWorth_75 h
    · have h := h.2 c2
      refine g_lconst X (v := 0) dX2_sealedWorth_11 (by decide) ?_
      exact g_lret X R dX2_sealedWorth_12 h

/-! X10_seal.seal(IIII)J -/
def rmX10_seal : Room := { frames := 12, cells := 0, slots := 0, locals := 508 }
theorem yo_X10_seal : yX10_seal.cls = RX10 ∧ yX10_seal.cls ≠ "java/lang/invoke/MethodHandle" ∧ yX10_seal.cls ≠ "java/lang/invoke/VarHandle" ∧ (parseMethodDescriptor yX10_seal.desc).map (fun d => d.parameters.length) = some 4 := by decide +kernel
theorem kX10_seal_c258 : Cond.constantLong RX10 258 (-3) ∈ wsX10_seal := by decide +kernel
theorem kX10_seal_iniX2_sealedWorth : Cond.initialized yX2_sealedWorth.cls ∈ wsX10_seal := by decide +kernel
theorem kX10_seal_staX2_sealedWorth : Cond.static yX2_sealedWorth ∈ wsX10_seal := by decide +kernel
def vc_X10_seal (p1 : Int32) (p2 : Int32) (p3 : Int32) (p4 : Int32) (I : MI) (J : MJ) (Q : Int64 → MI → MJ → Prop) : Prop := vc_X10_within p1 0 99 I J (fun (r3 : Int32) (I1 : MI) (J2 : MJ) => ((r3 = 0 → Q (-3) I1 J2) ∧ (¬ r3 = 0 → vc_X10_within p2 1 6 I1 J2 (fun (r7 : Int32) (I5 : MI) (J6 : MJ) => ((r7 = 0 → Q (-3) I5 J6) ∧ (¬ r7 = 0 → vc_X10_within p3 0 10 I5 J6 (fun (r11 : Int32) (I9 : MI) (J10 : MJ) => ((r11 = 0 → Q (-3) I9 J10) ∧ (¬ r11 = 0 → vc_X10_within p4 0 1 I9 J10 (fun (r15 : Int32) (I13 : MI) (J14 : MJ) => ((¬ r15 = 0 → vc_X2_sealedWorth 7 p1 p2 p3 I13 J14 (fun (r19 : Int64) (I17 : MI) (J18 : MJ) => vc_X2_inLowestTerms r19 p2 p4 I17 J18 (fun (r22 : Int64) (I20 : MI) (J21 : MJ) => Q r22 I20 J21))) ∧ (r15 = 0 → Q (-3) I13 J14))))))))))))
set_option maxRecDepth 100000 in
set_option maxHeartbeats 4000000 in
theorem c_X10_seal (l : Launch) (E : ET)  (p1 : Int32) (p2 : Int32) (p3 : Int32) (p4 : Int32) : CL l yX10_seal wsX10_seal rmX10_seal E [.ref (ea E 0), .int p1, .int p2, .int p3, .int p4] (vc_X10_seal p1 p2 p3 p4) := by
  refine CL.of (cc := cX10_seal) (maxL := 5) (own := RX10) (by decide) rfl rfl (Nat.le_of_ble_eq_true rfl) ?_
  intro Z I J Q hE hl X R h
  subst hE
  subst hl
  show GW Z 5 I J 0 [(0, .ref (ea (zE Z) 0)), (1, .int p1), (2, .int p2), (3, .int p3), (4, .int p4)] []
  refine g_iload_n X dX10_seal_0 rfl 1 rfl ?_
  refine g_iconst X (v := 0) dX10_seal_1 (by decide) ?_
  refine g_bipush X (v := 99) dX10_seal_2 (by decide) ?_
  refine g_callSI X (As := [.int p1, .int 0, .int 99]) (rest := []) (c_X10_within (zl Z) (zE Z) p1 0 99) gX10_seal_X10_within yo_X10_within.2 rfl ⟨Nat.le_of_ble_eq_true rfl, Nat.le_of_ble_eq_true rfl⟩ rfl dX10_seal_4 h (fun r3 I1 J2 h => ?_)
  refine g_if_eq X (tgt := 40) dX10_seal_7 (by decide) (fun c4 => ?_) (fun c4 => ?_)
  · have h := h.1 c4
    refine g_ldc2 X dX10_seal_40 kX10_seal_c258 ?_
    exact g_lret X R dX10_seal_43 h
  · have h := h.2 c4
    refine g_iload_n X dX10_seal_10 rfl 2 rfl ?_
    refine g_iconst X (v := 1) dX10_seal_11 (by decide) ?_
    refine g_bipush X (v := 6) dX10_seal_12 (by decide) ?_
    refine g_callSI X (As := [.int p2, .int 1, .int 6]) (rest := []) (c_X10_within (zl Z) (zE Z) p2 1 6) gX10_seal_X10_within yo_X10_within.2 rfl ⟨Nat.le_of_ble_eq_true rfl, Nat.le_of_ble_eq_true rfl⟩ rfl dX10_seal_14 h (fun r7 I5 J6 h => ?_)
    refine g_if_eq X (tgt := 40) dX10_seal_17 (by decide) (fun c8 => ?_) (fun c8 => ?_)
    · have h := h.1 c8
      refine g_ldc2 X dX10_seal_40 kX10_seal_c258 ?_
      exact g_lret X R dX10_seal_43 h
    · have h := h.2 c8
      refine g_iload_n X dX10_seal_20 rfl 3 rfl ?_
      refine g_iconst X (v := 0) dX10_seal_21 (by decide) ?_
      refine g_bipush X (v := 10) dX10_seal_22 (by decide) ?_
      refine g_callSI X (As := [.int p3, .int 0, .int 10]) (rest := []) (c_X10_within (zl Z) (zE Z) p3 0 10) gX10_seal_X10_within yo_X10_within.2 rfl ⟨Nat.le_of_ble_eq_true rfl, Nat.le_of_ble_eq_true rfl⟩ rfl dX10_seal_24 h (fun r11 I9 J10 h => ?_)
      refine g_if_eq X (tgt := 40) dX10_seal_27 (by decide) (fun c12 => ?_) (fun c12 => ?_)
      · have h := h.1 c12
        refine g_ldc2 X dX10_seal_40 kX10_seal_c258 ?_
        exact g_lret X R dX10_seal_43 h
      · have h := h.2 c12
        refine g_iload X dX10_seal_30 4 rfl ?_
        refine g_iconst X (v := 0) dX10_seal_32 (by decide) ?_
        refine g_iconst X (v := 1) dX10_seal_33 (by decide) ?_
        refine g_callSI X (As := [.int p4, .int 0, .int 1]) (rest := []) (c_X10_within (zl Z) (zE Z) p4 0 1) gX10_seal_X10_within yo_X10_within.2 rfl ⟨Nat.le_of_ble_eq_true rfl, Nat.le_of_ble_eq_true rfl⟩ rfl dX10_seal_34 h (fun r15 I13 J14 h => ?_)
        refine g_if_ne X (tgt := 44) dX10_seal_37 (by decide) (fun c16 => ?_) (fun c16 => ?_)
        · have h := h.1 c16
          refine g_iload_n X dX10_seal_44 rfl 1 rfl ?_
          refine g_iload_n X dX10_seal_45 rfl 2 rfl ?_
          refine g_iload_n X dX10_seal_46 rfl 3 rfl ?_
          refine g_callNL X (As := [.int p1, .int p2, .int p3]) (rest := []) (c_X2_sealedWorth (zl Z) (zE Z) 7 p1 p2 p3) ggX10_seal_X2_sealedWorth (cx_Sx X).2.2.2.2.1 kX10_seal_iniX2_sealedWorth kX10_seal_staX2_sealedWorth yo_X2_sealedWorth.2 rfl ⟨Nat.le_of_ble_eq_true rfl, Nat.le_of_ble_eq_true rfl⟩ rfl dX10_seal_47 h (fun r19 I17 J18 h => ?_)
          refine g_iload_n X dX10_seal_50 rfl 2 rfl ?_
          refine g_iload X dX10_seal_51 4 rfl ?_
          refine g_callSL X (As := [.long r19, .int p2, .int p4]) (rest := []) (c_X2_inLowestTerms (zl Z) (zE Z) r19 p2 p4) gX10_seal_X2_inLowestTerms yo_X2_inLowestTerms.2 rfl ⟨Nat.le_of_ble_eq_true rfl, Nat.le_of_ble_eq_true rfl⟩ rfl dX10_seal_53 h (fun r22 I20 J21 h => ?_)
          exact g_lret X R dX10_seal_56 h
        · have h := h.2 c16
          refine g_ldc2 X dX10_seal_40 kX10_seal_c258 ?_
          exact g_lret X R dX10_seal_43 h
