theorem ap_app {α : Type} (a : List α) (x : α) (b c : List α) : (a ++ (x :: b)) ++ c = a ++ (x :: (b ++ c)) := by simp
def po_X7 (E : ET) (h0 : Nat) (u : List Nat) : va_W := [(h0, .inr (5, [.ref (u.getD 0 0), .ref (u.getD 1 0), .ref (u.getD 2 0), .ref (u.getD 3 0), .int 0])), (u.getD 0 0, .inl (ecy E 0, 4, .inl (fun _ => 0))), (u.getD 1 0, .inl (ecy E 0, 4, .inl (fun _ => 0))), (u.getD 2 0, .inl (ecy E 0, 4, .inl (fun _ => 0))), (u.getD 3 0, .inl (ecy E 0, 7, .inl (fun _ => 0)))]
def e0_X7 : va_E := .inr (5, [.null, .null, .null, .null, .int 0])
def rmX7_init : Room := { frames := 1, cells := 4, slots := 19, locals := 12 }
theorem yo_X7_init : yX7_init.cls ≠ "java/lang/invoke/MethodHandle" ∧ yX7_init.cls ≠ "java/lang/invoke/VarHandle" ∧ (parseMethodDescriptor yX7_init.desc).map (fun d => d.parameters.length) = some 0 := by decide +kernel
set_option maxRecDepth 100000 in
set_option maxHeartbeats 4000000 in
theorem c_X7_init (l : Launch) (E : ET) : CN l yX7_init wsX7_init rmX7_init E e0_X7 4 4 19 (po_X7 E) := by
  refine CN.of (cc := cX7_init) (maxL := 1) (own := RX7) (by decide) rfl rfl rfl (by decide) ?_
  intro Z wc h0 hE hl X R
  subst hE
  subst hl
  show NW Z 1 0 0 (wc ++ ((h0, .inr (5, [.null, .null, .null, .null, .int 0])) :: [])) 0 [(0, .ref h0)] []
  refine n_aload_n X dX7_init_0 rfl 0 rfl ?_
  refine n_obj X (by decide +kernel) (by decide +kernel) (by decide +kernel) ⟨Nat.le_of_ble_eq_true rfl, Nat.le_of_ble_eq_true rfl⟩ dX7_init_1 ?_
  refine n_aload_n X dX7_init_4 rfl 0 rfl ?_
  refine n_iconst X (v := 4) dX7_init_5 (by decide) ?_
  refine n_newI X (N := 4) (by decide +kernel) (by decide) (by decide) (Nat.le_of_ble_eq_true rfl) (Nat.le_of_ble_eq_true rfl) (Nat.le_of_ble_eq_true rfl) dX7_init_6 (fun q0 => ?_)
  refine NW.eq (ap_app _ _ _ _) ?_
  refine n_putF X (C := RX7) (T := TX7) (N := 5) (ci := 5) (k := 0) (ty0 := tyX7) (ty := .array .int) (by decide +kernel) tyX7_ok nmX7 rfl (by decide) (by decide +kernel) rfl rfl (by decide +kernel) rfl rfl (Nat.le_of_ble_eq_true rfl) dX7_init_8 ?_
  refine n_aload_n X dX7_init_11 rfl 0 rfl ?_
  refine n_iconst X (v := 4) dX7_init_12 (by decide) ?_
  refine n_newI X (N := 4) (by decide +kernel) (by decide) (by decide) (Nat.le_of_ble_eq_true rfl) (Nat.le_of_ble_eq_true rfl) (Nat.le_of_ble_eq_true rfl) dX7_init_13 (fun q1 => ?_)
  refine NW.eq (ap_app _ _ _ _) ?_
  refine n_putF X (C := RX7) (T := TX7) (N := 5) (ci := 5) (k := 1) (ty0 := tyX7) (ty := .array .int) (by decide +kernel) tyX7_ok nmX7 rfl (by decide) (by decide +kernel) rfl rfl (by decide +kernel) rfl rfl (Nat.le_of_ble_eq_true rfl) dX7_init_15 ?_
  refine n_aload_n X dX7_init_18 rfl 0 rfl ?_
  refine n_iconst X (v := 4) dX7_init_19 (by decide) ?_
  refine n_newI X (N := 4) (by decide +kernel) (by decide) (by decide) (Nat.le_of_ble_eq_true rfl) (Nat.le_of_ble_eq_true rfl) (Nat.le_of_ble_eq_true rfl) dX7_init_20 (fun q2 => ?_)
  refine NW.eq (ap_app _ _ _ _) ?_
  refine n_putF X (C := RX7) (T := TX7) (N := 5) (ci := 5) (k := 2) (ty0 := tyX7) (ty := .array .int) (by decide +kernel) tyX7_ok nmX7 rfl (by decide) (by decide +kernel) rfl rfl (by decide +kernel) rfl rfl (Nat.le_of_ble_eq_true rfl) dX7_init_22 ?_
  refine n_aload_n X dX7_init_25 rfl 0 rfl ?_
  refine n_bipush X (v := 7) dX7_init_26 (by decide) ?_
  refine n_newI X (N := 7) (by decide +kernel) (by decide) (by decide) (Nat.le_of_ble_eq_true rfl) (Nat.le_of_ble_eq_true rfl) (Nat.le_of_ble_eq_true rfl) dX7_init_28 (fun q3 => ?_)
  refine NW.eq (ap_app _ _ _ _) ?_
  refine n_putF X (C := RX7) (T := TX7) (N := 5) (ci := 5) (k := 3) (ty0 := tyX7) (ty := .array .int) (by decide +kernel) tyX7_ok nmX7 rfl (by decide) (by decide +kernel) rfl rfl (by decide +kernel) rfl rfl (Nat.le_of_ble_eq_true rfl) dX7_init_30 ?_
  exact n_vret X R [q0, q1, q2, q3] rfl rfl dX7_init_33
def po_X6 (E : ET) (h0 : Nat) (u : List Nat) : va_W := [(h0, .inr (4, [.ref (u.getD 0 0), .int 0, .ref (u.getD 1 0), .ref (u.getD 2 0), .int 0, .int 0, .int 0, .int 0, .int 0, .int 0])), (u.getD 0 0, .inl (ecy E 2, 160, .inl (fun _ => 0))), (u.getD 1 0, .inl (ecy E 0, 14, .inl (fun _ => 0))), (u.getD 2 0, .inl (ecy E 0, 42, .inl (fun _ => 0)))]
def e0_X6 : va_E := .inr (4, [.null, .int 0, .null, .null, .int 0, .int 0, .int 0, .int 0, .int 0, .int 0])
def rmX6_init : Room := { frames := 1, cells := 3, slots := 216, locals := 12 }
theorem yo_X6_init : yX6_init.cls ≠ "java/lang/invoke/MethodHandle" ∧ yX6_init.cls ≠ "java/lang/invoke/VarHandle" ∧ (parseMethodDescriptor yX6_init.desc).map (fun d => d.parameters.length) = some 0 := by decide +kernel
set_option maxRecDepth 100000 in
set_option maxHeartbeats 4000000 in
theorem c_X6_init (l : Launch) (E : ET) : CN l yX6_init wsX6_init rmX6_init E e0_X6 3 3 216 (po_X6 E) := by
  refine CN.of (cc := cX6_init) (maxL := 1) (own := RX6) (by decide) rfl rfl rfl (by decide) ?_
  intro Z wc h0 hE hl X R
  subst hE
  subst hl
  show NW Z 1 0 0 (wc ++ ((h0, .inr (4, [.null, .int 0, .null, .null, .int 0, .int 0, .int 0, .int 0, .int 0, .int 0])) :: [])) 0 [(0, .ref h0)] []
  refine n_aload_n X dX6_init_0 rfl 0 rfl ?_
  refine n_obj X (by decide +kernel) (by decide +kernel) (by decide +kernel) ⟨Nat.le_of_ble_eq_true rfl, Nat.le_of_ble_eq_true rfl⟩ dX6_init_1 ?_
  refine n_aload_n X dX6_init_4 rfl 0 rfl ?_
  refine n_sipush X (v := 160) dX6_init_5 (by decide) ?_
  refine n_newC X (N := 160) (by decide +kernel) (by decide) (by decide) (Nat.le_of_ble_eq_true rfl) (Nat.le_of_ble_eq_true rfl) (Nat.le_of_ble_eq_true rfl) dX6_init_8 (fun q0 => ?_)
  refine NW.eq (ap_app _ _ _ _) ?_
  refine n_putF X (C := RX6) (T := TX6) (N := 10) (ci := 4) (k := 0) (ty0 := tyX6) (ty := .array .char) (by decide +kernel) tyX6_ok nmX6 rfl (by decide) (by decide +kernel) rfl rfl (by decide +kernel) rfl rfl (Nat.le_of_ble_eq_true rfl) dX6_init_10 ?_
  refine n_aload_n X dX6_init_13 rfl 0 rfl ?_
  refine n_bipush X (v := 14) dX6_init_14 (by decide) ?_
  refine n_newI X (N := 14) (by decide +kernel) (by decide) (by decide) (Nat.le_of_ble_eq_true rfl) (Nat.le_of_ble_eq_true rfl) (Nat.le_of_ble_eq_true rfl) dX6_init_16 (fun q1 => ?_)
  refine NW.eq (ap_app _ _ _ _) ?_
  refine n_putF X (C := RX6) (T := TX6) (N := 10) (ci := 4) (k := 2) (ty0 := tyX6) (ty := .array .int) (by decide +kernel) tyX6_ok nmX6 rfl (by decide) (by decide +kernel) rfl rfl (by decide +kernel) rfl rfl (Nat.le_of_ble_eq_true rfl) dX6_init_18 ?_
  refine n_aload_n X dX6_init_21 rfl 0 rfl ?_
  refine n_bipush X (v := 42) dX6_init_22 (by decide) ?_
  refine n_newI X (N := 42) (by decide +kernel) (by decide) (by decide) (Nat.le_of_ble_eq_true rfl) (Nat.le_of_ble_eq_true rfl) (Nat.le_of_ble_eq_true rfl) dX6_init_24 (fun q2 => ?_)
  refine NW.eq (ap_app _ _ _ _) ?_
  refine n_putF X (C := RX6) (T := TX6) (N := 10) (ci := 4) (k := 3) (ty0 := tyX6) (ty := .array .int) (by decide +kernel) tyX6_ok nmX6 rfl (by decide) (by decide +kernel) rfl rfl (by decide +kernel) rfl rfl (Nat.le_of_ble_eq_true rfl) dX6_init_26 ?_
  exact n_vret X R [q0, q1, q2] rfl rfl dX6_init_29
def po_X1 (E : ET) (h0 : Nat) (u : List Nat) : va_W := [(h0, .inr (1, [.ref (u.getD 0 0), .ref (u.getD 1 0), .ref (u.getD 2 0), .ref (u.getD 3 0), .ref (u.getD 4 0), .ref (u.getD 5 0), .ref (u.getD 6 0), .ref (u.getD 7 0), .int 0, .int 0, .int 0, .long 0])), (u.getD 0 0, .inl (ecy E 0, 7, .inl (fun _ => 0))), (u.getD 1 0, .inl (ecy E 0, 9, .inl (fun _ => 0))), (u.getD 2 0, .inl (ecy E 0, 9, .inl (fun _ => 0))), (u.getD 3 0, .inl (ecy E 0, 9, .inl (fun _ => 0))), (u.getD 4 0, .inl (ecy E 0, 9, .inl (fun _ => 0))), (u.getD 5 0, .inl (ecy E 0, 4, .inl (fun _ => 0))), (u.getD 6 0, .inl (ecy E 0, 4, .inl (fun _ => 0))), (u.getD 7 0, .inl (ecy E 0, 4, .inl (fun _ => 0)))]
def e0_X1 : va_E := .inr (1, [.null, .null, .null, .null, .null, .null, .null, .null, .int 0, .int 0, .int 0, .long 0])
def rmX1_init : Room := { frames := 1, cells := 8, slots := 55, locals := 12 }
theorem yo_X1_init : yX1_init.cls ≠ "java/lang/invoke/MethodHandle" ∧ yX1_init.cls ≠ "java/lang/invoke/VarHandle" ∧ (parseMethodDescriptor yX1_init.desc).map (fun d => d.parameters.length) = some 0 := by decide +kernel
set_option maxRecDepth 100000 in
set_option maxHeartbeats 4000000 in
theorem c_X1_init (l : Launch) (E : ET) : CN l yX1_init wsX1_init rmX1_init E e0_X1 8 8 55 (po_X1 E) := by
  refine CN.of (cc := cX1_init) (maxL := 1) (own := RX1) (by decide) rfl rfl rfl (by decide) ?_
  intro Z wc h0 hE hl X R
  subst hE
  subst hl
  show NW Z 1 0 0 (wc ++ ((h0, .inr (1, [.null, .null, .null, .null, .null, .null, .null, .null, .int 0, .int 0, .int 0, .long 0])) :: [])) 0 [(0, .ref h0)] []
  refine n_aload_n X dX1_init_0 rfl 0 rfl ?_
  refine n_obj X (by decide +kernel) (by decide +kernel) (by decide +kernel) ⟨Nat.le_of_ble_eq_true rfl, Nat.le_of_ble_eq_true rfl⟩ dX1_init_1 ?_
  refine n_aload_n X dX1_init_4 rfl 0 rfl ?_
  refine n_bipush X (v := 7) dX1_init_5 (by decide) ?_
  refine n_newI X (N := 7) (by decide +kernel) (by decide) (by decide) (Nat.le_of_ble_eq_true rfl) (Nat.le_of_ble_eq_true rfl) (Nat.le_of_ble_eq_true rfl) dX1_init_7 (fun q0 => ?_)
  refine NW.eq (ap_app _ _ _ _) ?_
  refine n_putF X (C := RX1) (T := TX1) (N := 12) (ci := 1) (k := 0) (ty0 := tyX1) (ty := .array .int) (by decide +kernel) tyX1_ok nmX1 rfl (by decide) (by decide +kernel) rfl rfl (by decide +kernel) rfl rfl (Nat.le_of_ble_eq_true rfl) dX1_init_9 ?_
  refine n_aload_n X dX1_init_12 rfl 0 rfl ?_
  refine n_bipush X (v := 9) dX1_init_13 (by decide) ?_
  refine n_newI X (N := 9) (by decide +kernel) (by decide) (by decide) (Nat.le_of_ble_eq_true rfl) (Nat.le_of_ble_eq_true rfl) (Nat.le_of_ble_eq_true rfl) dX1_init_15 (fun q1 => ?_)
  refine NW.eq (ap_app _ _ _ _) ?_
  refine n_putF X (C := RX1) (T := TX1) (N := 12) (ci := 1) (k := 1) (ty0 := tyX1) (ty := .array .int) (by decide +kernel) tyX1_ok nmX1 rfl (by decide) (by decide +kernel) rfl rfl (by decide +kernel) rfl rfl (Nat.le_of_ble_eq_true rfl) dX1_init_17 ?_
  refine n_aload_n X dX1_init_20 rfl 0 rfl ?_
  refine n_bipush X (v := 9) dX1_init_21 (by decide) ?_
  refine n_newI X (N := 9) (by decide +kernel) (by decide) (by decide) (Nat.le_of_ble_eq_true rfl) (Nat.le_of_ble_eq_true rfl) (Nat.le_of_ble_eq_true rfl) dX1_init_23 (fun q2 => ?_)
  refine NW.eq (ap_app _ _ _ _) ?_
  refine n_putF X (C := RX1) (T := TX1) (N := 12) (ci := 1) (k := 2) (ty0 := tyX1) (ty := .array .int) (by decide +kernel) tyX1_ok nmX1 rfl (by decide) (by decide +kernel) rfl rfl (by decide +kernel) rfl rfl (Nat.le_of_ble_eq_true rfl) dX1_init_25 ?_
  refine n_aload_n X dX1_init_28 rfl 0 rfl ?_
  refine n_bipush X (v := 9) dX1_init_29 (by decide) ?_
  refine n_newI X (N := 9) (by decide +kernel) (by decide) (by decide) (Nat.le_of_ble_eq_true rfl) (Nat.le_of_ble_eq_true rfl) (Nat.le_of_ble_eq_true rfl) dX1_init_31 (fun q3 => ?_)
  refine NW.eq (ap_app _ _ _ _) ?_
  refine n_putF X (C := RX1) (T := TX1) (N := 12) (ci := 1) (k := 3) (ty0 := tyX1) (ty := .array .int) (by decide +kernel) tyX1_ok nmX1 rfl (by decide) (by decide +kernel) rfl rfl (by decide +kernel) rfl rfl (Nat.le_of_ble_eq_true rfl) dX1_init_33 ?_
  refine n_aload_n X dX1_init_36 rfl 0 rfl ?_
  refine n_bipush X (v := 9) dX1_init_37 (by decide) ?_
  refine n_newI X (N := 9) (by decide +kernel) (by decide) (by decide) (Nat.le_of_ble_eq_true rfl) (Nat.le_of_ble_eq_true rfl) (Nat.le_of_ble_eq_true rfl) dX1_init_39 (fun q4 => ?_)
  refine NW.eq (ap_app _ _ _ _) ?_
  refine n_putF X (C := RX1) (T := TX1) (N := 12) (ci := 1) (k := 4) (ty0 := tyX1) (ty := .array .int) (by decide +kernel) tyX1_ok nmX1 rfl (by decide) (by decide +kernel) rfl rfl (by decide +kernel) rfl rfl (Nat.le_of_ble_eq_true rfl) dX1_init_41 ?_
  refine n_aload_n X dX1_init_44 rfl 0 rfl ?_
  refine n_iconst X (v := 4) dX1_init_45 (by decide) ?_
  refine n_newI X (N := 4) (by decide +kernel) (by decide) (by decide) (Nat.le_of_ble_eq_true rfl) (Nat.le_of_ble_eq_true rfl) (Nat.le_of_ble_eq_true rfl) dX1_init_46 (fun q5 => ?_)
  refine NW.eq (ap_app _ _ _ _) ?_
  refine n_putF X (C := RX1) (T := TX1) (N := 12) (ci := 1) (k := 5) (ty0 := tyX1) (ty := .array .int) (by decide +kernel) tyX1_ok nmX1 rfl (by decide) (by decide +kernel) rfl rfl (by decide +kernel) rfl rfl (Nat.le_of_ble_eq_true rfl) dX1_init_48 ?_
  refine n_aload_n X dX1_init_51 rfl 0 rfl ?_
  refine n_iconst X (v := 4) dX1_init_52 (by decide) ?_
  refine n_newI X (N := 4) (by decide +kernel) (by decide) (by decide) (Nat.le_of_ble_eq_true rfl) (Nat.le_of_ble_eq_true rfl) (Nat.le_of_ble_eq_true rfl) dX1_init_53 (fun q6 => ?_)
  refine NW.eq (ap_app _ _ _ _) ?_
  refine n_putF X (C := RX1) (T := TX1) (N := 12) (ci := 1) (k := 6) (ty0 := tyX1) (ty := .array .int) (by decide +kernel) tyX1_ok nmX1 rfl (by decide) (by decide +kernel) rfl rfl (by decide +kernel) rfl rfl (Nat.le_of_ble_eq_true rfl) dX1_init_55 ?_
  refine n_aload_n X dX1_init_58 rfl 0 rfl ?_
  refine n_iconst X (v := 4) dX1_init_59 (by decide) ?_
  refine n_newI X (N := 4) (by decide +kernel) (by decide) (by decide) (Nat.le_of_ble_eq_true rfl) (Nat.le_of_ble_eq_true rfl) (Nat.le_of_ble_eq_true rfl) dX1_init_60 (fun q7 => ?_)
  refine NW.eq (ap_app _ _ _ _) ?_
  refine n_putF X (C := RX1) (T := TX1) (N := 12) (ci := 1) (k := 7) (ty0 := tyX1) (ty := .array .int) (by decide +kernel) tyX1_ok nmX1 rfl (by decide) (by decide +kernel) rfl rfl (by decide +kernel) rfl rfl (Nat.le_of_ble_eq_true rfl) dX1_init_62 ?_
  exact n_vret X R [q0, q1, q2, q3, q4, q5, q6, q7] rfl rfl dX1_init_65
def po_X8 (E : ET) (h0 : Nat) (u : List Nat) : va_W := [(h0, .inr (6, [.ref (u.getD 0 0), .int 0])), (u.getD 0 0, .inl (ecy E 0, 5, .inl (fun _ => 0)))]
def e0_X8 : va_E := .inr (6, [.null, .int 0])
def rmX8_init : Room := { frames := 1, cells := 1, slots := 5, locals := 12 }
theorem yo_X8_init : yX8_init.cls ≠ "java/lang/invoke/MethodHandle" ∧ yX8_init.cls ≠ "java/lang/invoke/VarHandle" ∧ (parseMethodDescriptor yX8_init.desc).map (fun d => d.parameters.length) = some 0 := by decide +kernel
set_option maxRecDepth 100000 in
set_option maxHeartbeats 4000000 in
theorem c_X8_init (l : Launch) (E : ET) : CN l yX8_init wsX8_init rmX8_init E e0_X8 1 1 5 (po_X8 E) := by
  refine CN.of (cc := cX8_init) (maxL := 1) (own := RX8) (by decide) rfl rfl rfl (by decide) ?_
  intro Z wc h0 hE hl X R
  subst hE
  subst hl
  show NW Z 1 0 0 (wc ++ ((h0, .inr (6, [.null, .int 0])) :: [])) 0 [(0, .ref h0)] []
  refine n_aload_n X dX8_init_0 rfl 0 rfl ?_
  refine n_obj X (by decide +kernel) (by decide +kernel) (by decide +kernel) ⟨Nat.le_of_ble_eq_true rfl, Nat.le_of_ble_eq_true rfl⟩ dX8_init_1 ?_
  refine n_aload_n X dX8_init_4 rfl 0 rfl ?_
  refine n_iconst X (v := 5) dX8_init_5 (by decide) ?_
  refine n_newI X (N := 5) (by decide +kernel) (by decide) (by decide) (Nat.le_of_ble_eq_true rfl) (Nat.le_of_ble_eq_true rfl) (Nat.le_of_ble_eq_true rfl) dX8_init_6 (fun q0 => ?_)
  refine NW.eq (ap_app _ _ _ _) ?_
  refine n_putF X (C := RX8) (T := TX8) (N := 2) (ci := 6) (k := 0) (ty0 := tyX8) (ty := .array .int) (by decide +kernel) tyX8_ok nmX8 rfl (by decide) (by decide +kernel) rfl rfl (by decide +kernel) rfl rfl (Nat.le_of_ble_eq_true rfl) dX8_init_8 ?_
  exact n_vret X R [q0] rfl rfl dX8_init_11
def po_X4 (E : ET) (h0 : Nat) (u : List Nat) : va_W := [(h0, .inr (2, [.ref (u.getD 0 0), .int 0, .ref (u.getD 1 0), .ref (u.getD 2 0)])), (u.getD 0 0, .inl (ecy E 0, 5, .inl (fun _ => 0))), (u.getD 1 0, .inl (ecy E 0, 25, .inl (fun _ => 0))), (u.getD 2 0, .inl (ecy E 0, 32, .inl (fun _ => 0)))]
def e0_X4 : va_E := .inr (2, [.null, .int 0, .null, .null])
def rmX4_init : Room := { frames := 1, cells := 3, slots := 62, locals := 12 }
theorem yo_X4_init : yX4_init.cls ≠ "java/lang/invoke/MethodHandle" ∧ yX4_init.cls ≠ "java/lang/invoke/VarHandle" ∧ (parseMethodDescriptor yX4_init.desc).map (fun d => d.parameters.length) = some 0 := by decide +kernel
set_option maxRecDepth 100000 in
set_option maxHeartbeats 4000000 in
theorem c_X4_init (l : Launch) (E : ET) : CN l yX4_init wsX4_init rmX4_init E e0_X4 3 3 62 (po_X4 E) := by
  refine CN.of (cc := cX4_init) (maxL := 1) (own := RX4) (by decide) rfl rfl rfl (by decide) ?_
  intro Z wc h0 hE hl X R
  subst hE
  subst hl
  show NW Z 1 0 0 (wc ++ ((h0, .inr (2, [.null, .int 0, .null, .null])) :: [])) 0 [(0, .ref h0)] []
  refine n_aload_n X dX4_init_0 rfl 0 rfl ?_
  refine n_obj X (by decide +kernel) (by decide +kernel) (by decide +kernel) ⟨Nat.le_of_ble_eq_true rfl, Nat.le_of_ble_eq_true rfl⟩ dX4_init_1 ?_
  refine n_aload_n X dX4_init_4 rfl 0 rfl ?_
  refine n_iconst X (v := 5) dX4_init_5 (by decide) ?_
  refine n_newI X (N := 5) (by decide +kernel) (by decide) (by decide) (Nat.le_of_ble_eq_true rfl) (Nat.le_of_ble_eq_true rfl) (Nat.le_of_ble_eq_true rfl) dX4_init_6 (fun q0 => ?_)
  refine NW.eq (ap_app _ _ _ _) ?_
  refine n_putF X (C := RX4) (T := TX4) (N := 4) (ci := 2) (k := 0) (ty0 := tyX4) (ty := .array .int) (by decide +kernel) tyX4_ok nmX4 rfl (by decide) (by decide +kernel) rfl rfl (by decide +kernel) rfl rfl (Nat.le_of_ble_eq_true rfl) dX4_init_8 ?_
  refine n_aload_n X dX4_init_11 rfl 0 rfl ?_
  refine n_bipush X (v := 25) dX4_init_12 (by decide) ?_
  refine n_newI X (N := 25) (by decide +kernel) (by decide) (by decide) (Nat.le_of_ble_eq_true rfl) (Nat.le_of_ble_eq_true rfl) (Nat.le_of_ble_eq_true rfl) dX4_init_14 (fun q1 => ?_)
  refine NW.eq (ap_app _ _ _ _) ?_
  refine n_putF X (C := RX4) (T := TX4) (N := 4) (ci := 2) (k := 2) (ty0 := tyX4) (ty := .array .int) (by decide +kernel) tyX4_ok nmX4 rfl (by decide) (by decide +kernel) rfl rfl (by decide +kernel) rfl rfl (Nat.le_of_ble_eq_true rfl) dX4_init_16 ?_
  refine n_aload_n X dX4_init_19 rfl 0 rfl ?_
  refine n_bipush X (v := 32) dX4_init_20 (by decide) ?_
  refine n_newI X (N := 32) (by decide +kernel) (by decide) (by decide) (Nat.le_of_ble_eq_true rfl) (Nat.le_of_ble_eq_true rfl) (Nat.le_of_ble_eq_true rfl) dX4_init_22 (fun q2 => ?_)
  refine NW.eq (ap_app _ _ _ _) ?_
  refine n_putF X (C := RX4) (T := TX4) (N := 4) (ci := 2) (k := 3) (ty0 := tyX4) (ty := .array .int) (by decide +kernel) tyX4_ok nmX4 rfl (by decide) (by decide +kernel) rfl rfl (by decide +kernel) rfl rfl (Nat.le_of_ble_eq_true rfl) dX4_init_24 ?_
  exact n_vret X R [q0, q1, q2] rfl rfl dX4_init_27
def po_X9 (E : ET) (h0 : Nat) (u : List Nat) : va_W := [(h0, .inr (7, [.ref (u.getD 0 0)])), (u.getD 0 0, .inl (ecy E 0, 7, .inl (fun _ => 0)))]
def e0_X9 : va_E := .inr (7, [.null])
def rmX9_init : Room := { frames := 1, cells := 1, slots := 7, locals := 12 }
theorem yo_X9_init : yX9_init.cls ≠ "java/lang/invoke/MethodHandle" ∧ yX9_init.cls ≠ "java/lang/invoke/VarHandle" ∧ (parseMethodDescriptor yX9_init.desc).map (fun d => d.parameters.length) = some 0 := by decide +kernel
set_option maxRecDepth 100000 in
set_option maxHeartbeats 4000000 in
theorem c_X9_init (l : Launch) (E : ET) : CN l yX9_init wsX9_init rmX9_init E e0_X9 1 1 7 (po_X9 E) := by
  refine CN.of (cc := cX9_init) (maxL := 1) (own := RX9) (by decide) rfl rfl rfl (by decide) ?_
  intro Z wc h0 hE hl X R
  subst hE
  subst hl
  show NW Z 1 0 0 (wc ++ ((h0, .inr (7, [.null])) :: [])) 0 [(0, .ref h0)] []
  refine n_aload_n X dX9_init_0 rfl 0 rfl ?_
  refine n_obj X (by decide +kernel) (by decide +kernel) (by decide +kernel) ⟨Nat.le_of_ble_eq_true rfl, Nat.le_of_ble_eq_true rfl⟩ dX9_init_1 ?_
  refine n_aload_n X dX9_init_4 rfl 0 rfl ?_
  refine n_bipush X (v := 7) dX9_init_5 (by decide) ?_
  refine n_newI X (N := 7) (by decide +kernel) (by decide) (by decide) (Nat.le_of_ble_eq_true rfl) (Nat.le_of_ble_eq_true rfl) (Nat.le_of_ble_eq_true rfl) dX9_init_7 (fun q0 => ?_)
  refine NW.eq (ap_app _ _ _ _) ?_
  refine n_putF X (C := RX9) (T := TX9) (N := 1) (ci := 7) (k := 0) (ty0 := tyX9) (ty := .array .int) (by decide +kernel) tyX9_ok nmX9 rfl (by decide) (by decide +kernel) rfl rfl (by decide +kernel) rfl rfl (Nat.le_of_ble_eq_true rfl) dX9_init_9 ?_
  exact n_vret X R [q0] rfl rfl dX9_init_12
def po_X5 (E : ET) (h0 : Nat) (u : List Nat) : va_W := [(h0, .inr (3, [.ref (u.getD 0 0)])), (u.getD 0 0, .inl (ecy E 1, 700, .inr (.inl (fun _ => 0))))]
def e0_X5 : va_E := .inr (3, [.null])
def rmX5_init : Room := { frames := 1, cells := 1, slots := 700, locals := 12 }
theorem yo_X5_init : yX5_init.cls ≠ "java/lang/invoke/MethodHandle" ∧ yX5_init.cls ≠ "java/lang/invoke/VarHandle" ∧ (parseMethodDescriptor yX5_init.desc).map (fun d => d.parameters.length) = some 0 := by decide +kernel
set_option maxRecDepth 100000 in
set_option maxHeartbeats 4000000 in
theorem c_X5_init (l : Launch) (E : ET) : CN l yX5_init wsX5_init rmX5_init E e0_X5 1 1 700 (po_X5 E) := by
  refine CN.of (cc := cX5_init) (maxL := 1) (own := RX5) (by decide) rfl rfl rfl (by decide) ?_
  intro Z wc h0 hE hl X R
  subst hE
  subst hl
  show NW Z 1 0 0 (wc ++ ((h0, .inr (3, [.null])) :: [])) 0 [(0, .ref h0)] []
  refine n_aload_n X dX5_init_0 rfl 0 rfl ?_
  refine n_obj X (by decide +kernel) (by decide +kernel) (by decide +kernel) ⟨Nat.le_of_ble_eq_true rfl, Nat.le_of_ble_eq_true rfl⟩ dX5_init_1 ?_
  refine n_aload_n X dX5_init_4 rfl 0 rfl ?_
  refine n_sipush X (v := 700) dX5_init_5 (by decide) ?_
  refine n_newJ X (N := 700) (by decide +kernel) (by decide) (by decide) (Nat.le_of_ble_eq_true rfl) (Nat.le_of_ble_eq_true rfl) (Nat.le_of_ble_eq_true rfl) dX5_init_8 (fun q0 => ?_)
  refine NW.eq (ap_app _ _ _ _) ?_
  refine n_putF X (C := RX5) (T := TX5) (N := 1) (ci := 3) (k := 0) (ty0 := tyX5) (ty := .array .long) (by decide +kernel) tyX5_ok nmX5 rfl (by decide) (by decide +kernel) rfl rfl (by decide +kernel) rfl rfl (Nat.le_of_ble_eq_true rfl) dX5_init_10 ?_
  exact n_vret X R [q0] rfl rfl dX5_init_13
def po_X0 (E : ET) (h0 : Nat) (u : List Nat) : va_W := (h0, .inr (0, [.ref (u.getD 0 0), .ref (u.getD 5 0), .ref (u.getD 6 0), .ref (u.getD 7 0), .int 0, .int 0])) :: (po_X7 E (u.getD 0 0) [u.getD 1 0, u.getD 2 0, u.getD 3 0, u.getD 4 0] ++ ((u.getD 5 0, .inl (ecy E 4, 8, .inr (.inr (.inr (.inr (va_up (va_up (va_up (va_up (va_up (va_up (va_up (va_up (fun _ => none) 0 (some (u.getD 8 0))) 1 (some (u.getD 13 0))) 2 (some (u.getD 18 0))) 3 (some (u.getD 23 0))) 4 (some (u.getD 28 0))) 5 (some (u.getD 33 0))) 6 (some (u.getD 38 0))) 7 (some (u.getD 43 0)))))))) :: ((u.getD 6 0, .inl (ecy E 4, 2, .inr (.inr (.inr (.inr (va_up (va_up (fun _ => none) 0 (some (u.getD 48 0))) 1 (some (u.getD 53 0)))))))) :: ((u.getD 7 0, .inl (ecy E 3, 2, .inl (fun _ => 0))) :: (((((((((([] ++ po_X7 E (u.getD 8 0) [u.getD 9 0, u.getD 10 0, u.getD 11 0, u.getD 12 0]) ++ po_X7 E (u.getD 13 0) [u.getD 14 0, u.getD 15 0, u.getD 16 0, u.getD 17 0]) ++ po_X7 E (u.getD 18 0) [u.getD 19 0, u.getD 20 0, u.getD 21 0, u.getD 22 0]) ++ po_X7 E (u.getD 23 0) [u.getD 24 0, u.getD 25 0, u.getD 26 0, u.getD 27 0]) ++ po_X7 E (u.getD 28 0) [u.getD 29 0, u.getD 30 0, u.getD 31 0, u.getD 32 0]) ++ po_X7 E (u.getD 33 0) [u.getD 34 0, u.getD 35 0, u.getD 36 0, u.getD 37 0]) ++ po_X7 E (u.getD 38 0) [u.getD 39 0, u.getD 40 0, u.getD 41 0, u.getD 42 0]) ++ po_X7 E (u.getD 43 0) [u.getD 44 0, u.getD 45 0, u.getD 46 0, u.getD 47 0]) ++ po_X7 E (u.getD 48 0) [u.getD 49 0, u.getD 50 0, u.getD 51 0, u.getD 52 0]) ++ po_X7 E (u.getD 53 0) [u.getD 54 0, u.getD 55 0, u.getD 56 0, u.getD 57 0])))))
def e0_X0 : va_E := .inr (0, [.null, .null, .null, .null, .int 0, .int 0])
def rmX0_init : Room := { frames := 2, cells := 58, slots := 276, locals := 40 }
theorem yo_X0_init : yX0_init.cls ≠ "java/lang/invoke/MethodHandle" ∧ yX0_init.cls ≠ "java/lang/invoke/VarHandle" ∧ (parseMethodDescriptor yX0_init.desc).map (fun d => d.parameters.length) = some 0 := by decide +kernel
set_option maxRecDepth 100000 in
set_option maxHeartbeats 4000000 in
theorem it_past {Z : RT} (X : Nx Z cX0_init 2 RX0 wsX0_init rmX0_init none) {wc T : va_W} {h0 q0 p k z N ce sl : Nat} {u0 : List Nat} {f g : Nat → Option Nat} {i : Int32} (hi : vp_in i 8) (hN : i.toNatClampNeg = N) (hce : ce + 5 ≤ 58) (hsl : sl + 24 ≤ 276) (kk : ∀ (q : Nat) (u : List Nat), u.length = 4 → NW Z 2 (ce + 5) (sl + 24) (wc ++ ((h0, .inr (0, [.ref q0, .ref p, .ref k, .ref z, .int 0, .int 0])) :: (po_X7 (zE Z) q0 u0 ++ ((p, .inl (ecy (zE Z) 4, 8, .inr (.inr (.inr (.inr (va_up f N (some q))))))) :: ((k, .inl (ecy (zE Z) 4, 2, .inr (.inr (.inr (.inr g))))) :: ((z, .inl (ecy (zE Z) 3, 2, .inl (fun _ => 0))) :: (T ++ po_X7 (zE Z) q u))))))) 60 [(1, .int i), (0, .ref h0)] []) : NW Z 2 ce sl (wc ++ ((h0, .inr (0, [.ref q0, .ref p, .ref k, .ref z, .int 0, .int 0])) :: (po_X7 (zE Z) q0 u0 ++ ((p, .inl (ecy (zE Z) 4, 8, .inr (.inr (.inr (.inr f))))) :: ((k, .inl (ecy (zE Z) 4, 2, .inr (.inr (.inr (.inr g))))) :: ((z, .inl (ecy (zE Z) 3, 2, .inl (fun _ => 0))) :: T)))))) 47 [(1, .int i), (0, .ref h0)] [] := by
  refine n_aload_n X dX0_init_47 rfl 1 rfl ?_
  refine n_getr X (C := RX0) (T := TX0) (N := 6) (ci := 0) (k := 1) (by decide +kernel) rfl (by decide) (by decide +kernel) rfl rfl dX0_init_48 ?_
  refine n_iload_n X dX0_init_51 rfl 0 rfl ?_
  refine n_new X (C := RX7) (T := TX7) (N := 5) (ci := 5) (ty := tyX7) (fs := [.null, .null, .null, .null, .int 0]) (by decide +kernel) tyX7_ok (by decide +kernel) (by decide +kernel) (by decide +kernel) rfl (fun j hj => by rcases (show j = 0 ∨ j = 1 ∨ j = 2 ∨ j = 3 ∨ j = 4 by omega) with rfl | rfl | rfl | rfl | rfl <;> rfl) (by show ce + 1 ≤ 58; omega) (by show sl + 5 ≤ 276; omega) dX0_init_52 (fun q => ?_)
  refine n_dup X dX0_init_55 rfl ?_
  refine n_initN X (c_X7_init (zl Z) (zE Z)) ggX0_init_X7_init (nx_NS X).2.2.2.2.2.2.2 (by decide +kernel) (by decide +kernel) yo_X7_init rfl rfl rfl rfl ⟨Nat.le_of_ble_eq_true rfl, Nat.le_of_ble_eq_true rfl⟩ ⟨by show ce + 1 + 4 ≤ 58; omega, by show sl + 5 + 19 ≤ 276; omega⟩ dX0_init_56 (fun u hu => ?_)
  refine NW.eq (ws' := (wc ++ ((h0, .inr (0, [.ref q0, .ref p, .ref k, .ref z, .int 0, .int 0])) :: po_X7 (zE Z) q0 u0)) ++ ((p, .inl (ecy (zE Z) 4, 8, .inr (.inr (.inr (.inr f))))) :: (((k, .inl (ecy (zE Z) 4, 2, .inr (.inr (.inr (.inr g))))) :: ((z, .inl (ecy (zE Z) 3, 2, .inl (fun _ => 0))) :: T)) ++ ((q, .inr (5, [.ref (u.getD 0 0), .ref (u.getD 1 0), .ref (u.getD 2 0), .ref (u.getD 3 0), .int 0])) :: [(u.getD 0 0, .inl (ecy (zE Z) 0, 4, .inl (fun _ => 0))), (u.getD 1 0, .inl (ecy (zE Z) 0, 4, .inl (fun _ => 0))), (u.getD 2 0, .inl (ecy (zE Z) 0, 4, .inl (fun _ => 0))), (u.getD 3 0, .inl (ecy (zE Z) 0, 7, .inl (fun _ => 0)))])))) (by simp [po_X7]) ?_
  refine n_astQ X hi dX0_init_59 ?_
  rw [hN]
  refine NW.eq (ws' := wc ++ ((h0, .inr (0, [.ref q0, .ref p, .ref k, .ref z, .int 0, .int 0])) :: (po_X7 (zE Z) q0 u0 ++ ((p, .inl (ecy (zE Z) 4, 8, .inr (.inr (.inr (.inr (va_up f N (some q))))))) :: ((k, .inl (ecy (zE Z) 4, 2, .inr (.inr (.inr (.inr g))))) :: ((z, .inl (ecy (zE Z) 3, 2, .inl (fun _ => 0))) :: (T ++ po_X7 (zE Z) q u))))))) (by simp [po_X7]) ?_
  exact kk q u hu
set_option maxRecDepth 100000 in
set_option maxHeartbeats 4000000 in
theorem it_kept {Z : RT} (X : Nx Z cX0_init 2 RX0 wsX0_init rmX0_init none) {wc T : va_W} {h0 q0 p k z N ce sl : Nat} {u0 : List Nat} {f g : Nat → Option Nat} {i : Int32} (hi : vp_in i 2) (hN : i.toNatClampNeg = N) (hce : ce + 5 ≤ 58) (hsl : sl + 24 ≤ 276) (kk : ∀ (q : Nat) (u : List Nat), u.length = 4 → NW Z 2 (ce + 5) (sl + 24) (wc ++ ((h0, .inr (0, [.ref q0, .ref p, .ref k, .ref z, .int 0, .int 0])) :: (po_X7 (zE Z) q0 u0 ++ ((p, .inl (ecy (zE Z) 4, 8, .inr (.inr (.inr (.inr f))))) :: ((k, .inl (ecy (zE Z) 4, 2, .inr (.inr (.inr (.inr (va_up g N (some q))))))) :: ((z, .inl (ecy (zE Z) 3, 2, .inl (fun _ => 0))) :: (T ++ po_X7 (zE Z) q u))))))) 86 [(1, .int i), (0, .ref h0)] []) : NW Z 2 ce sl (wc ++ ((h0, .inr (0, [.ref q0, .ref p, .ref k, .ref z, .int 0, .int 0])) :: (po_X7 (zE Z) q0 u0 ++ ((p, .inl (ecy (zE Z) 4, 8, .inr (.inr (.inr (.inr f))))) :: ((k, .inl (ecy (zE Z) 4, 2, .inr (.inr (.inr (.inr g))))) :: ((z, .inl (ecy (zE Z) 3, 2, .inl (fun _ => 0))) :: T)))))) 73 [(1, .int i), (0, .ref h0)] [] := by
  refine n_aload_n X dX0_init_73 rfl 1 rfl ?_
  refine n_getr X (C := RX0) (T := TX0) (N := 6) (ci := 0) (k := 2) (by decide +kernel) rfl (by decide) (by decide +kernel) rfl rfl dX0_init_74 ?_
  refine n_iload_n X dX0_init_77 rfl 0 rfl ?_
  refine n_new X (C := RX7) (T := TX7) (N := 5) (ci := 5) (ty := tyX7) (fs := [.null, .null, .null, .null, .int 0]) (by decide +kernel) tyX7_ok (by decide +kernel) (by decide +kernel) (by decide +kernel) rfl (fun j hj => by rcases (show j = 0 ∨ j = 1 ∨ j = 2 ∨ j = 3 ∨ j = 4 by omega) with rfl | rfl | rfl | rfl | rfl <;> rfl) (by show ce + 1 ≤ 58; omega) (by show sl + 5 ≤ 276; omega) dX0_init_78 (fun q => ?_)
  refine n_dup X dX0_init_81 rfl ?_
  refine n_initN X (c_X7_init (zl Z) (zE Z)) ggX0_init_X7_init (nx_NS X).2.2.2.2.2.2.2 (by decide +kernel) (by decide +kernel) yo_X7_init rfl rfl rfl rfl ⟨Nat.le_of_ble_eq_true rfl, Nat.le_of_ble_eq_true rfl⟩ ⟨by show ce + 1 + 4 ≤ 58; omega, by show sl + 5 + 19 ≤ 276; omega⟩ dX0_init_82 (fun u hu => ?_)
  refine NW.eq (ws' := (wc ++ ((h0, .inr (0, [.ref q0, .ref p, .ref k, .ref z, .int 0, .int 0])) :: (po_X7 (zE Z) q0 u0 ++ [(p, .inl (ecy (zE Z) 4, 8, .inr (.inr (.inr (.inr f)))))]))) ++ ((k, .inl (ecy (zE Z) 4, 2, .inr (.inr (.inr (.inr g))))) :: (((z, .inl (ecy (zE Z) 3, 2, .inl (fun _ => 0))) :: T) ++ ((q, .inr (5, [.ref (u.getD 0 0), .ref (u.getD 1 0), .ref (u.getD 2 0), .ref (u.getD 3 0), .int 0])) :: [(u.getD 0 0, .inl (ecy (zE Z) 0, 4, .inl (fun _ => 0))), (u.getD 1 0, .inl (ecy (zE Z) 0, 4, .inl (fun _ => 0))), (u.getD 2 0, .inl (ecy (zE Z) 0, 4, .inl (fun _ => 0))), (u.getD 3 0, .inl (ecy (zE Z) 0, 7, .inl (fun _ => 0)))])))) (by simp [po_X7]) ?_
  refine n_astQ X hi dX0_init_85 ?_
  rw [hN]
  refine NW.eq (ws' := wc ++ ((h0, .inr (0, [.ref q0, .ref p, .ref k, .ref z, .int 0, .int 0])) :: (po_X7 (zE Z) q0 u0 ++ ((p, .inl (ecy (zE Z) 4, 8, .inr (.inr (.inr (.inr f))))) :: ((k, .inl (ecy (zE Z) 4, 2, .inr (.inr (.inr (.inr (va_up g N (some q))))))) :: ((z, .inl (ecy (zE Z) 3, 2, .inl (fun _ => 0))) :: (T ++ po_X7 (zE Z) q u))))))) (by simp [po_X7]) ?_
  exact kk q u hu
set_option maxRecDepth 100000 in
set_option maxHeartbeats 4000000 in
theorem c_X0_init (l : Launch) (E : ET) : CN l yX0_init wsX0_init rmX0_init E e0_X0 58 58 276 (po_X0 E) := by
  refine CN.of (cc := cX0_init) (maxL := 2) (own := RX0) (by decide) rfl rfl rfl (by decide) ?_
  intro Z wc h0 hE hl X R
  subst hE
  subst hl
  show NW Z 2 0 0 (wc ++ ((h0, .inr (0, [.null, .null, .null, .null, .int 0, .int 0])) :: [])) 0 [(0, .ref h0)] []
  refine n_aload_n X dX0_init_0 rfl 0 rfl ?_
  refine n_obj X (by decide +kernel) (by decide +kernel) (by decide +kernel) ⟨Nat.le_of_ble_eq_true rfl, Nat.le_of_ble_eq_true rfl⟩ dX0_init_1 ?_
  refine n_aload_n X dX0_init_4 rfl 0 rfl ?_
  refine n_new X (C := RX7) (T := TX7) (N := 5) (ci := 5) (ty := tyX7) (fs := [.null, .null, .null, .null, .int 0]) (by decide +kernel) tyX7_ok (by decide +kernel) (by decide +kernel) (by decide +kernel) rfl (fun j hj => by rcases (show j = 0 ∨ j = 1 ∨ j = 2 ∨ j = 3 ∨ j = 4 by omega) with rfl | rfl | rfl | rfl | rfl <;> rfl) (Nat.le_of_ble_eq_true rfl) (Nat.le_of_ble_eq_true rfl) dX0_init_5 (fun q0 => ?_)
  refine n_dup X dX0_init_8 rfl ?_
  refine n_initN X (c_X7_init (zl Z) (zE Z)) ggX0_init_X7_init (nx_NS X).2.2.2.2.2.2.2 (by decide +kernel) (by decide +kernel) yo_X7_init rfl rfl rfl rfl ⟨Nat.le_of_ble_eq_true rfl, Nat.le_of_ble_eq_true rfl⟩ ⟨Nat.le_of_ble_eq_true rfl, Nat.le_of_ble_eq_true rfl⟩ dX0_init_9 (fun u0 hu0 => ?_)
  refine NW.eq (ap_app _ _ _ _) ?_
  refine n_putF X (C := RX0) (T := TX0) (N := 6) (ci := 0) (k := 0) (ty0 := tyX0) (ty := .object "SnowCourse$Standing") (by decide +kernel) tyX0_ok nmX0 rfl (by decide) (by decide +kernel) rfl rfl (by decide +kernel) rfl rfl (Nat.le_of_ble_eq_true rfl) dX0_init_12 ?_
  refine n_aload_n X dX0_init_15 rfl 0 rfl ?_
  refine n_bipush X (v := 8) dX0_init_16 (by decide) ?_
  refine n_newQ X (N := 8) (by decide +kernel) (by decide) (by decide) (Nat.le_of_ble_eq_true rfl) (Nat.le_of_ble_eq_true rfl) (Nat.le_of_ble_eq_true rfl) dX0_init_18 (fun p => ?_)
  refine NW.eq (ap_app _ _ _ _) ?_
  refine n_putF X (C := RX0) (T := TX0) (N := 6) (ci := 0) (k := 1) (ty0 := tyX0) (ty := .array (.object "SnowCourse$Standing")) (by decide +kernel) tyX0_ok nmX0 rfl (by decide) (by decide +kernel) rfl rfl (by decide +kernel) rfl rfl (Nat.le_of_ble_eq_true rfl) dX0_init_21 ?_
  refine n_aload_n X dX0_init_24 rfl 0 rfl ?_
  refine n_iconst X (v := 2) dX0_init_25 (by decide) ?_
  refine n_newQ X (N := 2) (by decide +kernel) (by decide) (by decide) (Nat.le_of_ble_eq_true rfl) (Nat.le_of_ble_eq_true rfl) (Nat.le_of_ble_eq_true rfl) dX0_init_26 (fun k => ?_)
  refine NW.eq (ap_app _ _ _ _) ?_
  refine n_putF X (C := RX0) (T := TX0) (N := 6) (ci := 0) (k := 2) (ty0 := tyX0) (ty := .array (.object "SnowCourse$Standing")) (by decide +kernel) tyX0_ok nmX0 rfl (by decide) (by decide +kernel) rfl rfl (by decide +kernel) rfl rfl (Nat.le_of_ble_eq_true rfl) dX0_init_29 ?_
  refine n_aload_n X dX0_init_32 rfl 0 rfl ?_
  refine n_iconst X (v := 2) dX0_init_33 (by decide) ?_
  refine n_newZ X (N := 2) (by decide +kernel) (by decide) (by decide) (Nat.le_of_ble_eq_true rfl) (Nat.le_of_ble_eq_true rfl) (Nat.le_of_ble_eq_true rfl) dX0_init_34 (fun z => ?_)
  refine NW.eq (ap_app _ _ _ _) ?_
  refine n_putF X (C := RX0) (T := TX0) (N := 6) (ci := 0) (k := 3) (ty0 := tyX0) (ty := .array .boolean) (by decide +kernel) tyX0_ok nmX0 rfl (by decide) (by decide +kernel) rfl rfl (by decide +kernel) rfl rfl (Nat.le_of_ble_eq_true rfl) dX0_init_36 ?_
  refine n_iconst X (v := 0) dX0_init_39 (by decide) ?_
  refine n_istore_n X (lv' := [(1, .int 0), (0, .ref h0)]) dX0_init_40 rfl (by decide) rfl ?_
  refine NW.eq (ws' := wc ++ ((h0, .inr (0, [.ref q0, .ref p, .ref k, .ref z, .int 0, .int 0])) :: (po_X7 (zE Z) q0 u0 ++ ((p, .inl (ecy (zE Z) 4, 8, .inr (.inr (.inr (.inr (fun _ => none)))))) :: ((k, .inl (ecy (zE Z) 4, 2, .inr (.inr (.inr (.inr (fun _ => none)))))) :: ((z, .inl (ecy (zE Z) 3, 2, .inl (fun _ => 0))) :: [])))))) (by simp) ?_
  refine n_iload_n X dX0_init_41 rfl 0 rfl ?_
  refine n_bipush X (v := 8) dX0_init_42 (by decide) ?_
  refine n_icmp_ge X (tgt := 66) dX0_init_44 (by decide) (fun q => absurd q (by decide)) (fun _ => ?_)
  refine it_past X (N := 0) (by unfold vp_in; decide) (by decide) (Nat.le_of_ble_eq_true rfl) (Nat.le_of_ble_eq_true rfl) (fun s0 w0 hw0 => ?_)
  refine n_iinc X (q := 0) (v := 1) (lv' := [(1, .int 1), (0, .ref h0)]) dX0_init_60 rfl (by decide) (by decide) rfl ?_
  refine n_goto X (tgt := 41) dX0_init_63 (by decide) ?_
  refine n_iload_n X dX0_init_41 rfl 0 rfl ?_
  refine n_bipush X (v := 8) dX0_init_42 (by decide) ?_
  refine n_icmp_ge X (tgt := 66) dX0_init_44 (by decide) (fun q => absurd q (by decide)) (fun _ => ?_)
  refine it_past X (N := 1) (by unfold vp_in; decide) (by decide) (Nat.le_of_ble_eq_true rfl) (Nat.le_of_ble_eq_true rfl) (fun s1 w1 hw1 => ?_)
  refine n_iinc X (q := 0) (v := 2) (lv' := [(1, .int 2), (0, .ref h0)]) dX0_init_60 rfl (by decide) (by decide) rfl ?_
  refine n_goto X (tgt := 41) dX0_init_63 (by decide) ?_
  refine n_iload_n X dX0_init_41 rfl 0 rfl ?_
  refine n_bipush X (v := 8) dX0_init_42 (by decide) ?_
  refine n_icmp_ge X (tgt := 66) dX0_init_44 (by decide) (fun q => absurd q (by decide)) (fun _ => ?_)
  refine it_past X (N := 2) (by unfold vp_in; decide) (by decide) (Nat.le_of_ble_eq_true rfl) (Nat.le_of_ble_eq_true rfl) (fun s2 w2 hw2 => ?_)
  refine n_iinc X (q := 0) (v := 3) (lv' := [(1, .int 3), (0, .ref h0)]) dX0_init_60 rfl (by decide) (by decide) rfl ?_
  refine n_goto X (tgt := 41) dX0_init_63 (by decide) ?_
  refine n_iload_n X dX0_init_41 rfl 0 rfl ?_
  refine n_bipush X (v := 8) dX0_init_42 (by decide) ?_
  refine n_icmp_ge X (tgt := 66) dX0_init_44 (by decide) (fun q => absurd q (by decide)) (fun _ => ?_)
  refine it_past X (N := 3) (by unfold vp_in; decide) (by decide) (Nat.le_of_ble_eq_true rfl) (Nat.le_of_ble_eq_true rfl) (fun s3 w3 hw3 => ?_)
  refine n_iinc X (q := 0) (v := 4) (lv' := [(1, .int 4), (0, .ref h0)]) dX0_init_60 rfl (by decide) (by decide) rfl ?_
  refine n_goto X (tgt := 41) dX0_init_63 (by decide) ?_
  refine n_iload_n X dX0_init_41 rfl 0 rfl ?_
  refine n_bipush X (v := 8) dX0_init_42 (by decide) ?_
  refine n_icmp_ge X (tgt := 66) dX0_init_44 (by decide) (fun q => absurd q (by decide)) (fun _ => ?_)
  refine it_past X (N := 4) (by unfold vp_in; decide) (by decide) (Nat.le_of_ble_eq_true rfl) (Nat.le_of_ble_eq_true rfl) (fun s4 w4 hw4 => ?_)
  refine n_iinc X (q := 0) (v := 5) (lv' := [(1, .int 5), (0, .ref h0)]) dX0_init_60 rfl (by decide) (by decide) rfl ?_
  refine n_goto X (tgt := 41) dX0_init_63 (by decide) ?_
  refine n_iload_n X dX0_init_41 rfl 0 rfl ?_
  refine n_bipush X (v := 8) dX0_init_42 (by decide) ?_
  refine n_icmp_ge X (tgt := 66) dX0_init_44 (by decide) (fun q => absurd q (by decide)) (fun _ => ?_)
  refine it_past X (N := 5) (by unfold vp_in; decide) (by decide) (Nat.le_of_ble_eq_true rfl) (Nat.le_of_ble_eq_true rfl) (fun s5 w5 hw5 => ?_)
  refine n_iinc X (q := 0) (v := 6) (lv' := [(1, .int 6), (0, .ref h0)]) dX0_init_60 rfl (by decide) (by decide) rfl ?_
  refine n_goto X (tgt := 41) dX0_init_63 (by decide) ?_
  refine n_iload_n X dX0_init_41 rfl 0 rfl ?_
  refine n_bipush X (v := 8) dX0_init_42 (by decide) ?_
  refine n_icmp_ge X (tgt := 66) dX0_init_44 (by decide) (fun q => absurd q (by decide)) (fun _ => ?_)
  refine it_past X (N := 6) (by unfold vp_in; decide) (by decide) (Nat.le_of_ble_eq_true rfl) (Nat.le_of_ble_eq_true rfl) (fun s6 w6 hw6 => ?_)
  refine n_iinc X (q := 0) (v := 7) (lv' := [(1, .int 7), (0, .ref h0)]) dX0_init_60 rfl (by decide) (by decide) rfl ?_
  refine n_goto X (tgt := 41) dX0_init_63 (by decide) ?_
  refine n_iload_n X dX0_init_41 rfl 0 rfl ?_
  refine n_bipush X (v := 8) dX0_init_42 (by decide) ?_
  refine n_icmp_ge X (tgt := 66) dX0_init_44 (by decide) (fun q => absurd q (by decide)) (fun _ => ?_)
  refine it_past X (N := 7) (by unfold vp_in; decide) (by decide) (Nat.le_of_ble_eq_true rfl) (Nat.le_of_ble_eq_true rfl) (fun s7 w7 hw7 => ?_)
  refine n_iinc X (q := 0) (v := 8) (lv' := [(1, .int 8), (0, .ref h0)]) dX0_init_60 rfl (by decide) (by decide) rfl ?_
  refine n_goto X (tgt := 41) dX0_init_63 (by decide) ?_
  refine n_iload_n X dX0_init_41 rfl 0 rfl ?_
  refine n_bipush X (v := 8) dX0_init_42 (by decide) ?_
  refine n_icmp_ge X (tgt := 66) dX0_init_44 (by decide) (fun _ => ?_) (fun q => absurd (by decide) q)
  refine n_iconst X (v := 0) dX0_init_66 (by decide) ?_
  refine n_istore_n X (lv' := [(1, .int 0), (0, .ref h0)]) dX0_init_67 rfl (by decide) rfl ?_
  refine n_iload_n X dX0_init_68 rfl 0 rfl ?_
  refine n_iconst X (v := 2) dX0_init_69 (by decide) ?_
  refine n_icmp_ge X (tgt := 92) dX0_init_70 (by decide) (fun q => absurd q (by decide)) (fun _ => ?_)
  refine it_kept X (N := 0) (by unfold vp_in; decide) (by decide) (Nat.le_of_ble_eq_true rfl) (Nat.le_of_ble_eq_true rfl) (fun s8 w8 hw8 => ?_)
  refine n_iinc X (q := 0) (v := 1) (lv' := [(1, .int 1), (0, .ref h0)]) dX0_init_86 rfl (by decide) (by decide) rfl ?_
  refine n_goto X (tgt := 68) dX0_init_89 (by decide) ?_
  refine n_iload_n X dX0_init_68 rfl 0 rfl ?_
  refine n_iconst X (v := 2) dX0_init_69 (by decide) ?_
  refine n_icmp_ge X (tgt := 92) dX0_init_70 (by decide) (fun q => absurd q (by decide)) (fun _ => ?_)
  refine it_kept X (N := 1) (by unfold vp_in; decide) (by decide) (Nat.le_of_ble_eq_true rfl) (Nat.le_of_ble_eq_true rfl) (fun s9 w9 hw9 => ?_)
  refine n_iinc X (q := 0) (v := 2) (lv' := [(1, .int 2), (0, .ref h0)]) dX0_init_86 rfl (by decide) (by decide) rfl ?_
  refine n_goto X (tgt := 68) dX0_init_89 (by decide) ?_
  refine n_iload_n X dX0_init_68 rfl 0 rfl ?_
  refine n_iconst X (v := 2) dX0_init_69 (by decide) ?_
  refine n_icmp_ge X (tgt := 92) dX0_init_70 (by decide) (fun _ => ?_) (fun q => absurd (by decide) q)
  exact n_vret X R [q0, u0.getD 0 0, u0.getD 1 0, u0.getD 2 0, u0.getD 3 0, p, k, z, s0, w0.getD 0 0, w0.getD 1 0, w0.getD 2 0, w0.getD 3 0, s1, w1.getD 0 0, w1.getD 1 0, w1.getD 2 0, w1.getD 3 0, s2, w2.getD 0 0, w2.getD 1 0, w2.getD 2 0, w2.getD 3 0, s3, w3.getD 0 0, w3.getD 1 0, w3.getD 2 0, w3.getD 3 0, s4, w4.getD 0 0, w4.getD 1 0, w4.getD 2 0, w4.getD 3 0, s5, w5.getD 0 0, w5.getD 1 0, w5.getD 2 0, w5.getD 3 0, s6, w6.getD 0 0, w6.getD 1 0, w6.getD 2 0, w6.getD 3 0, s7, w7.getD 0 0, w7.getD 1 0, w7.getD 2 0, w7.getD 3 0, s8, w8.getD 0 0, w8.getD 1 0, w8.getD 2 0, w8.getD 3 0, s9, w9.getD 0 0, w9.getD 1 0, w9.getD 2 0, w9.getD 3 0] rfl rfl dX0_init_92
def po_X10 (E : ET) (h0 : Nat) (u : List Nat) : va_W := (h0, .inr (8, [.ref (u.getD 0 0), .ref (u.getD 4 0), .ref (u.getD 13 0), .ref (u.getD 17 0), .ref (u.getD 19 0), .ref (u.getD 23 0), .ref (u.getD 25 0), .ref (u.getD 27 0), .ref (u.getD 29 0)])) :: ((((((((([] ++ po_X6 E (u.getD 0 0) [u.getD 1 0, u.getD 2 0, u.getD 3 0]) ++ po_X1 E (u.getD 4 0) [u.getD 5 0, u.getD 6 0, u.getD 7 0, u.getD 8 0, u.getD 9 0, u.getD 10 0, u.getD 11 0, u.getD 12 0]) ++ po_X0 E (u.getD 13 0) [u.getD 31 0, u.getD 32 0, u.getD 33 0, u.getD 34 0, u.getD 35 0, u.getD 14 0, u.getD 15 0, u.getD 16 0, u.getD 36 0, u.getD 37 0, u.getD 38 0, u.getD 39 0, u.getD 40 0, u.getD 41 0, u.getD 42 0, u.getD 43 0, u.getD 44 0, u.getD 45 0, u.getD 46 0, u.getD 47 0, u.getD 48 0, u.getD 49 0, u.getD 50 0, u.getD 51 0, u.getD 52 0, u.getD 53 0, u.getD 54 0, u.getD 55 0, u.getD 56 0, u.getD 57 0, u.getD 58 0, u.getD 59 0, u.getD 60 0, u.getD 61 0, u.getD 62 0, u.getD 63 0, u.getD 64 0, u.getD 65 0, u.getD 66 0, u.getD 67 0, u.getD 68 0, u.getD 69 0, u.getD 70 0, u.getD 71 0, u.getD 72 0, u.getD 73 0, u.getD 74 0, u.getD 75 0, u.getD 76 0, u.getD 77 0, u.getD 78 0, u.getD 79 0, u.getD 80 0, u.getD 81 0, u.getD 82 0, u.getD 83 0, u.getD 84 0, u.getD 85 0]) ++ po_X8 E (u.getD 17 0) [u.getD 18 0]) ++ po_X4 E (u.getD 19 0) [u.getD 20 0, u.getD 21 0, u.getD 22 0]) ++ po_X9 E (u.getD 23 0) [u.getD 24 0]) ++ po_X5 E (u.getD 25 0) [u.getD 26 0]) ++ po_X5 E (u.getD 27 0) [u.getD 28 0]) ++ po_X5 E (u.getD 29 0) [u.getD 30 0])
def e0_X10 : va_E := .inr (8, [.null, .null, .null, .null, .null, .null, .null, .null, .null])
def rmX10_init : Room := { frames := 3, cells := 86, slots := 2759, locals := 62 }
theorem yo_X10_init : yX10_init.cls ≠ "java/lang/invoke/MethodHandle" ∧ yX10_init.cls ≠ "java/lang/invoke/VarHandle" ∧ (parseMethodDescriptor yX10_init.desc).map (fun d => d.parameters.length) = some 0 := by decide +kernel
set_option maxRecDepth 100000 in
set_option maxHeartbeats 4000000 in
theorem c_X10_init (l : Launch) (E : ET) : CN l yX10_init wsX10_init rmX10_init E e0_X10 86 86 2759 (po_X10 E) := by
  refine CN.of (cc := cX10_init) (maxL := 1) (own := RX10) (by decide) rfl rfl rfl (by decide) ?_
  intro Z wc h0 hE hl X R
  subst hE
  subst hl
  show NW Z 1 0 0 (wc ++ ((h0, .inr (8, [.null, .null, .null, .null, .null, .null, .null, .null, .null])) :: [])) 0 [(0, .ref h0)] []
  refine n_aload_n X dX10_init_0 rfl 0 rfl ?_
  refine n_obj X (by decide +kernel) (by decide +kernel) (by decide +kernel) ⟨Nat.le_of_ble_eq_true rfl, Nat.le_of_ble_eq_true rfl⟩ dX10_init_1 ?_
  refine n_aload_n X dX10_init_4 rfl 0 rfl ?_
  refine n_new X (C := RX6) (T := TX6) (N := 10) (ci := 4) (ty := tyX6) (fs := [.null, .int 0, .null, .null, .int 0, .int 0, .int 0, .int 0, .int 0, .int 0]) (by decide +kernel) tyX6_ok (by decide +kernel) (by decide +kernel) (by decide +kernel) rfl (fun j hj => by rcases (show j = 0 ∨ j = 1 ∨ j = 2 ∨ j = 3 ∨ j = 4 ∨ j = 5 ∨ j = 6 ∨ j = 7 ∨ j = 8 ∨ j = 9 by omega) with rfl | rfl | rfl | rfl | rfl | rfl | rfl | rfl | rfl | rfl <;> rfl) (Nat.le_of_ble_eq_true rfl) (Nat.le_of_ble_eq_true rfl) dX10_init_5 (fun o0 => ?_)
  refine n_dup X dX10_init_8 rfl ?_
  refine n_initN X (c_X6_init (zl Z) (zE Z)) ggX10_init_X6_init (nx_NS X).2.1 (by decide +kernel) (by decide +kernel) yo_X6_init rfl rfl rfl rfl ⟨Nat.le_of_ble_eq_true rfl, Nat.le_of_ble_eq_true rfl⟩ ⟨Nat.le_of_ble_eq_true rfl, Nat.le_of_ble_eq_true rfl⟩ dX10_init_9 (fun u0 hu0 => ?_)
  refine NW.eq (ap_app _ _ _ _) ?_
  refine n_putF X (C := RX10) (T := TX10) (N := 9) (ci := 8) (k := 0) (ty0 := tyX10) (ty := .object "SnowCourse$Script") (by decide +kernel) tyX10_ok nmX10 rfl (by decide) (by decide +kernel) rfl rfl (by decide +kernel) rfl rfl (Nat.le_of_ble_eq_true rfl) dX10_init_12 ?_
  refine n_aload_n X dX10_init_15 rfl 0 rfl ?_
  refine n_new X (C := RX1) (T := TX1) (N := 12) (ci := 1) (ty := tyX1) (fs := [.null, .null, .null, .null, .null, .null, .null, .null, .int 0, .int 0, .int 0, .long 0]) (by decide +kernel) tyX1_ok (by decide +kernel) (by decide +kernel) (by decide +kernel) rfl (fun j hj => by rcases (show j = 0 ∨ j = 1 ∨ j = 2 ∨ j = 3 ∨ j = 4 ∨ j = 5 ∨ j = 6 ∨ j = 7 ∨ j = 8 ∨ j = 9 ∨ j = 10 ∨ j = 11 by omega) with rfl | rfl | rfl | rfl | rfl | rfl | rfl | rfl | rfl | rfl | rfl | rfl <;> rfl) (Nat.le_of_ble_eq_true rfl) (Nat.le_of_ble_eq_true rfl) dX10_init_16 (fun o1 => ?_)
  refine n_dup X dX10_init_19 rfl ?_
  refine n_initN X (c_X1_init (zl Z) (zE Z)) ggX10_init_X1_init (nx_NS X).2.2.1 (by decide +kernel) (by decide +kernel) yo_X1_init rfl rfl rfl rfl ⟨Nat.le_of_ble_eq_true rfl, Nat.le_of_ble_eq_true rfl⟩ ⟨Nat.le_of_ble_eq_true rfl, Nat.le_of_ble_eq_true rfl⟩ dX10_init_20 (fun u1 hu1 => ?_)
  refine NW.eq (ap_app _ _ _ _) ?_
  refine n_putF X (C := RX10) (T := TX10) (N := 9) (ci := 8) (k := 1) (ty0 := tyX10) (ty := .object "SnowCourse$Country") (by decide +kernel) tyX10_ok nmX10 rfl (by decide) (by decide +kernel) rfl rfl (by decide +kernel) rfl rfl (Nat.le_of_ble_eq_true rfl) dX10_init_23 ?_
  refine n_aload_n X dX10_init_26 rfl 0 rfl ?_
  refine n_new X (C := RX0) (T := TX0) (N := 6) (ci := 0) (ty := tyX0) (fs := [.null, .null, .null, .null, .int 0, .int 0]) (by decide +kernel) tyX0_ok (by decide +kernel) (by decide +kernel) (by decide +kernel) rfl (fun j hj => by rcases (show j = 0 ∨ j = 1 ∨ j = 2 ∨ j = 3 ∨ j = 4 ∨ j = 5 by omega) with rfl | rfl | rfl | rfl | rfl | rfl <;> rfl) (Nat.le_of_ble_eq_true rfl) (Nat.le_of_ble_eq_true rfl) dX10_init_27 (fun o2 => ?_)
  refine n_dup X dX10_init_30 rfl ?_
  refine n_initI X (c_X0_init (zl Z) (zE Z)) ggX10_init_X0_init (by decide +kernel) (by decide +kernel) (by decide +kernel) yo_X0_init rfl rfl rfl rfl ⟨Nat.le_of_ble_eq_true rfl, Nat.le_of_ble_eq_true rfl⟩ ⟨Nat.le_of_ble_eq_true rfl, Nat.le_of_ble_eq_true rfl⟩ dX10_init_31 (fun u2 hu2 => ?_)
  refine NW.eq (ap_app _ _ _ _) ?_
  refine n_putF X (C := RX10) (T := TX10) (N := 9) (ci := 8) (k := 2) (ty0 := tyX10) (ty := .object "SnowCourse$Chronicle") (by decide +kernel) tyX10_ok nmX10 rfl (by decide) (by decide +kernel) rfl rfl (by decide +kernel) rfl rfl (Nat.le_of_ble_eq_true rfl) dX10_init_34 ?_
  refine n_aload_n X dX10_init_37 rfl 0 rfl ?_
  refine n_new X (C := RX8) (T := TX8) (N := 2) (ci := 6) (ty := tyX8) (fs := [.null, .int 0]) (by decide +kernel) tyX8_ok (by decide +kernel) (by decide +kernel) (by decide +kernel) rfl (fun j hj => by rcases (show j = 0 ∨ j = 1 by omega) with rfl | rfl <;> rfl) (Nat.le_of_ble_eq_true rfl) (Nat.le_of_ble_eq_true rfl) dX10_init_38 (fun o3 => ?_)
  refine n_dup X dX10_init_41 rfl ?_
  refine n_initN X (c_X8_init (zl Z) (zE Z)) ggX10_init_X8_init (nx_NS X).2.2.2.1 (by decide +kernel) (by decide +kernel) yo_X8_init rfl rfl rfl rfl ⟨Nat.le_of_ble_eq_true rfl, Nat.le_of_ble_eq_true rfl⟩ ⟨Nat.le_of_ble_eq_true rfl, Nat.le_of_ble_eq_true rfl⟩ dX10_init_42 (fun u3 hu3 => ?_)
  refine NW.eq (ap_app _ _ _ _) ?_
  refine n_putF X (C := RX10) (T := TX10) (N := 9) (ci := 8) (k := 3) (ty0 := tyX10) (ty := .object "SnowCourse$Takers") (by decide +kernel) tyX10_ok nmX10 rfl (by decide) (by decide +kernel) rfl rfl (by decide +kernel) rfl rfl (Nat.le_of_ble_eq_true rfl) dX10_init_45 ?_
  refine n_aload_n X dX10_init_48 rfl 0 rfl ?_
  refine n_new X (C := RX4) (T := TX4) (N := 4) (ci := 2) (ty := tyX4) (fs := [.null, .int 0, .null, .null]) (by decide +kernel) tyX4_ok (by decide +kernel) (by decide +kernel) (by decide +kernel) rfl (fun j hj => by rcases (show j = 0 ∨ j = 1 ∨ j = 2 ∨ j = 3 by omega) with rfl | rfl | rfl | rfl <;> rfl) (Nat.le_of_ble_eq_true rfl) (Nat.le_of_ble_eq_true rfl) dX10_init_49 (fun o4 => ?_)
  refine n_dup X dX10_init_52 rfl ?_
  refine n_initN X (c_X4_init (zl Z) (zE Z)) ggX10_init_X4_init (nx_NS X).2.2.2.2.1 (by decide +kernel) (by decide +kernel) yo_X4_init rfl rfl rfl rfl ⟨Nat.le_of_ble_eq_true rfl, Nat.le_of_ble_eq_true rfl⟩ ⟨Nat.le_of_ble_eq_true rfl, Nat.le_of_ble_eq_true rfl⟩ dX10_init_53 (fun u4 hu4 => ?_)
  refine NW.eq (ap_app _ _ _ _) ?_
  refine n_putF X (C := RX10) (T := TX10) (N := 9) (ci := 8) (k := 4) (ty0 := tyX10) (ty := .object "SnowCourse$PassRow") (by decide +kernel) tyX10_ok nmX10 rfl (by decide) (by decide +kernel) rfl rfl (by decide +kernel) rfl rfl (Nat.le_of_ble_eq_true rfl) dX10_init_56 ?_
  refine n_aload_n X dX10_init_59 rfl 0 rfl ?_
  refine n_new X (C := RX9) (T := TX9) (N := 1) (ci := 7) (ty := tyX9) (fs := [.null]) (by decide +kernel) tyX9_ok (by decide +kernel) (by decide +kernel) (by decide +kernel) rfl (fun j hj => by rcases (show j = 0 by omega) with rfl; rfl) (Nat.le_of_ble_eq_true rfl) (Nat.le_of_ble_eq_true rfl) dX10_init_60 (fun o5 => ?_)
  refine n_dup X dX10_init_63 rfl ?_
  refine n_initN X (c_X9_init (zl Z) (zE Z)) ggX10_init_X9_init (nx_NS X).2.2.2.2.2.1 (by decide +kernel) (by decide +kernel) yo_X9_init rfl rfl rfl rfl ⟨Nat.le_of_ble_eq_true rfl, Nat.le_of_ble_eq_true rfl⟩ ⟨Nat.le_of_ble_eq_true rfl, Nat.le_of_ble_eq_true rfl⟩ dX10_init_64 (fun u5 hu5 => ?_)
  refine NW.eq (ap_app _ _ _ _) ?_
  refine n_putF X (C := RX10) (T := TX10) (N := 9) (ci := 8) (k := 5) (ty0 := tyX10) (ty := .object "SnowCourse$Ways") (by decide +kernel) tyX10_ok nmX10 rfl (by decide) (by decide +kernel) rfl rfl (by decide +kernel) rfl rfl (Nat.le_of_ble_eq_true rfl) dX10_init_67 ?_
  refine n_aload_n X dX10_init_70 rfl 0 rfl ?_
  refine n_new X (C := RX5) (T := TX5) (N := 1) (ci := 3) (ty := tyX5) (fs := [.null]) (by decide +kernel) tyX5_ok (by decide +kernel) (by decide +kernel) (by decide +kernel) rfl (fun j hj => by rcases (show j = 0 by omega) with rfl; rfl) (Nat.le_of_ble_eq_true rfl) (Nat.le_of_ble_eq_true rfl) dX10_init_71 (fun o6 => ?_)
  refine n_dup X dX10_init_74 rfl ?_
  refine n_initN X (c_X5_init (zl Z) (zE Z)) ggX10_init_X5_init (nx_NS X).2.2.2.2.2.2.1 (by decide +kernel) (by decide +kernel) yo_X5_init rfl rfl rfl rfl ⟨Nat.le_of_ble_eq_true rfl, Nat.le_of_ble_eq_true rfl⟩ ⟨Nat.le_of_ble_eq_true rfl, Nat.le_of_ble_eq_true rfl⟩ dX10_init_75 (fun u6 hu6 => ?_)
  refine NW.eq (ap_app _ _ _ _) ?_
  refine n_putF X (C := RX10) (T := TX10) (N := 9) (ci := 8) (k := 6) (ty0 := tyX10) (ty := .object "SnowCourse$Reach") (by decide +kernel) tyX10_ok nmX10 rfl (by decide) (by decide +kernel) rfl rfl (by decide +kernel) rfl rfl (Nat.le_of_ble_eq_true rfl) dX10_init_78 ?_
  refine n_aload_n X dX10_init_81 rfl 0 rfl ?_
  refine n_new X (C := RX5) (T := TX5) (N := 1) (ci := 3) (ty := tyX5) (fs := [.null]) (by decide +kernel) tyX5_ok (by decide +kernel) (by decide +kernel) (by decide +kernel) rfl (fun j hj => by rcases (show j = 0 by omega) with rfl; rfl) (Nat.le_of_ble_eq_true rfl) (Nat.le_of_ble_eq_true rfl) dX10_init_82 (fun o7 => ?_)
  refine n_dup X dX10_init_85 rfl ?_
  refine n_initN X (c_X5_init (zl Z) (zE Z)) ggX10_init_X5_init (nx_NS X).2.2.2.2.2.2.1 (by decide +kernel) (by decide +kernel) yo_X5_init rfl rfl rfl rfl ⟨Nat.le_of_ble_eq_true rfl, Nat.le_of_ble_eq_true rfl⟩ ⟨Nat.le_of_ble_eq_true rfl, Nat.le_of_ble_eq_true rfl⟩ dX10_init_86 (fun u7 hu7 => ?_)
  refine NW.eq (ap_app _ _ _ _) ?_
  refine n_putF X (C := RX10) (T := TX10) (N := 9) (ci := 8) (k := 7) (ty0 := tyX10) (ty := .object "SnowCourse$Reach") (by decide +kernel) tyX10_ok nmX10 rfl (by decide) (by decide +kernel) rfl rfl (by decide +kernel) rfl rfl (Nat.le_of_ble_eq_true rfl) dX10_init_89 ?_
  refine n_aload_n X dX10_init_92 rfl 0 rfl ?_
  refine n_new X (C := RX5) (T := TX5) (N := 1) (ci := 3) (ty := tyX5) (fs := [.null]) (by decide +kernel) tyX5_ok (by decide +kernel) (by decide +kernel) (by decide +kernel) rfl (fun j hj => by rcases (show j = 0 by omega) with rfl; rfl) (Nat.le_of_ble_eq_true rfl) (Nat.le_of_ble_eq_true rfl) dX10_init_93 (fun o8 => ?_)
  refine n_dup X dX10_init_96 rfl ?_
  refine n_initN X (c_X5_init (zl Z) (zE Z)) ggX10_init_X5_init (nx_NS X).2.2.2.2.2.2.1 (by decide +kernel) (by decide +kernel) yo_X5_init rfl rfl rfl rfl ⟨Nat.le_of_ble_eq_true rfl, Nat.le_of_ble_eq_true rfl⟩ ⟨Nat.le_of_ble_eq_true rfl, Nat.le_of_ble_eq_true rfl⟩ dX10_init_97 (fun u8 hu8 => ?_)
  refine NW.eq (ap_app _ _ _ _) ?_
  refine n_putF X (C := RX10) (T := TX10) (N := 9) (ci := 8) (k := 8) (ty0 := tyX10) (ty := .object "SnowCourse$Reach") (by decide +kernel) tyX10_ok nmX10 rfl (by decide) (by decide +kernel) rfl rfl (by decide +kernel) rfl rfl (Nat.le_of_ble_eq_true rfl) dX10_init_100 ?_
  exact n_vret X R [o0, u0.getD 0 0, u0.getD 1 0, u0.getD 2 0, o1, u1.getD 0 0, u1.getD 1 0, u1.getD 2 0, u1.getD 3 0, u1.getD 4 0, u1.getD 5 0, u1.getD 6 0, u1.getD 7 0, o2, u2.getD 5 0, u2.getD 6 0, u2.getD 7 0, o3, u3.getD 0 0, o4, u4.getD 0 0, u4.getD 1 0, u4.getD 2 0, o5, u5.getD 0 0, o6, u6.getD 0 0, o7, u7.getD 0 0, o8, u8.getD 0 0, u2.getD 0 0, u2.getD 1 0, u2.getD 2 0, u2.getD 3 0, u2.getD 4 0, u2.getD 8 0, u2.getD 9 0, u2.getD 10 0, u2.getD 11 0, u2.getD 12 0, u2.getD 13 0, u2.getD 14 0, u2.getD 15 0, u2.getD 16 0, u2.getD 17 0, u2.getD 18 0, u2.getD 19 0, u2.getD 20 0, u2.getD 21 0, u2.getD 22 0, u2.getD 23 0, u2.getD 24 0, u2.getD 25 0, u2.getD 26 0, u2.getD 27 0, u2.getD 28 0, u2.getD 29 0, u2.getD 30 0, u2.getD 31 0, u2.getD 32 0, u2.getD 33 0, u2.getD 34 0, u2.getD 35 0, u2.getD 36 0, u2.getD 37 0, u2.getD 38 0, u2.getD 39 0, u2.getD 40 0, u2.getD 41 0, u2.getD 42 0, u2.getD 43 0, u2.getD 44 0, u2.getD 45 0, u2.getD 46 0, u2.getD 47 0, u2.getD 48 0, u2.getD 49 0, u2.getD 50 0, u2.getD 51 0, u2.getD 52 0, u2.getD 53 0, u2.getD 54 0, u2.getD 55 0, u2.getD 56 0, u2.getD 57 0] rfl rfl dX10_init_103
