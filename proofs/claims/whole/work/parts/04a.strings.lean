/-! ===== the texts: rows for String's own cells, and the contracts of String's methods over the fourteen constants ===== -/
section GWT
variable {Z : RT} {cc : ByteArray} {nL : Nat} {own : String} {Ts : List Cond} {rm : Room} {rt : Option FieldType} {I : MI} {J : MJ} {pc : Nat} {lv : List (Nat × Value)} {rest : List Value}
theorem g_ldcS (X : Cx Z cc nL RX6 Ts rm rt) (i : Nat) {index : Nat} (hi : i < 14) (hx : stI.getD i 0 = index) (d : decode cc pc = .ok (.ldc index, 2)) (k : GW Z nL I J (pc + 2) lv (.ref (eK (zE Z) i) :: rest)) : GW Z nL I J pc lv rest := by
  subst hx
  exact fun H locs ls hP hS hl => va_ldcS (cx_hx X) (cx_hb X) (cx_own X) ((cx_Sx X).2.2.1 i hi) d (k H locs ls hP hS hl)
theorem g_sval (X : Cx Z cc nL own Ts rm rt) {k index : Nat} (hk : k < 14) (hlink : Cond.fieldLink own index "java/lang/String" "value" "[B" ∈ Ts) (d : decode cc pc = .ok (.getfield index, 3)) (kk : GW Z nL I J (pc + 3) lv (.ref (eV (zE Z) k) :: rest)) : GW Z nL I J pc lv (.ref (eK (zE Z) k) :: rest) :=
  fun H locs ls hP hS hl => vk_getf (cx_hx X) (cx_hb X) ((cx_Sx X).2.1.1 k hk).2.2.1 hS (cx_own X) (cx_ts X _ hlink) (fun _ h => h) d (kk H locs ls hP hS hl)
theorem g_scod (X : Cx Z cc nL own Ts rm rt) {k index : Nat} (hk : k < 14) (hlink : Cond.fieldLink own index "java/lang/String" "coder" "B" ∈ Ts) (d : decode cc pc = .ok (.getfield index, 3)) (kk : GW Z nL I J (pc + 3) lv (.int 0 :: rest)) : GW Z nL I J pc lv (.ref (eK (zE Z) k) :: rest) :=
  fun H locs ls hP hS hl => vk_getf (cx_hx X) (cx_hb X) ((cx_Sx X).2.1.1 k hk).2.1 hS (cx_own X) (cx_ts X _ hlink) (fun _ h => h) d (kk H locs ls hP hS hl)
theorem g_slen (X : Cx Z cc nL own Ts rm rt) {k : Nat} (hk : k < 14) (d : decode cc pc = .ok (.arraylength, 1)) (kk : GW Z nL I J (pc + 1) lv (.int (Int32.ofNat (stL.getD k 0)) :: rest)) : GW Z nL I J pc lv (.ref (eV (zE Z) k) :: rest) :=
  fun H locs ls hP hS hl => va_tlen (cx_hx X) (cx_hb X) ((cx_Sx X).2.1.1 k hk).2.2.2 hS rfl d (kk H locs ls hP hS hl)
theorem g_sbyt (X : Cx Z cc nL own Ts rm rt) {k : Nat} {x : Int32} (hk : k < 14) (hx : vp_in x (stL.getD k 0)) (d : decode cc pc = .ok (.baload, 1)) (kk : GW Z nL I J (pc + 1) lv (.int ((stB.getD k []).getD x.toNatClampNeg 0) :: rest)) : GW Z nL I J pc lv (.int x :: .ref (eV (zE Z) k) :: rest) :=
  fun H locs ls hP hS hl => va_tb (cx_hx X) (cx_hb X) ((cx_Sx X).2.1.1 k hk).2.2.2 hS hx rfl d (kk H locs ls hP hS hl)
theorem g_scomp (X : Cx Z cc nL own Ts rm rt) {index : Nat} (hlink : Cond.fieldLink own index "java/lang/String" "COMPACT_STRINGS" "Z" ∈ Ts) (d : decode cc pc = .ok (.getstatic index, 3)) (kk : GW Z nL I J (pc + 3) lv (.int 1 :: rest)) : GW Z nL I J pc lv rest :=
  fun H locs ls hP hS hl => va_gets (cx_hx X) (cx_hb X) (cx_Sx X).2.2.2.2.2.1 hS (cx_own X) (cx_ts X _ hlink) (fun _ h => h) d (kk H locs ls hP hS hl)
theorem g_sfmt (X : Cx Z cc nL own Ts rm rt) {index : Nat} (hlink : Cond.fieldLink own index "jdk/internal/util/Preconditions" "SIOOBE_FORMATTER" "Ljava/util/function/BiFunction;" ∈ Ts) (d : decode cc pc = .ok (.getstatic index, 3)) (k0 : GW Z nL I J (pc + 3) lv (.null :: rest)) (k1 : ∀ t : Nat, GW Z nL I J (pc + 3) lv (.ref t :: rest)) : GW Z nL I J pc lv rest := by
  intro H locs ls hP hS hl
  rcases (cx_Sx X).2.2.2.2.2.2 with h | ⟨t, h⟩
  · exact va_gets (cx_hx X) (cx_hb X) h hS (cx_own X) (cx_ts X _ hlink) (fun _ h => h) d (k0 H locs ls hP hS hl)
  · exact va_gets (cx_hx X) (cx_hb X) h hS (cx_own X) (cx_ts X _ hlink) (fun _ h => h) d (k1 t H locs ls hP hS hl)
theorem g_callTI (X : Cx Z cc nL own Ts rm rt) {y : MethodName} {bytes : ByteArray} {maxL index n : Nat} {As st : List Value} {ws ws' : List Cond} {rm' : Room} {ty : Option FieldType} {vc : MI → MJ → (Int32 → MI → MJ → Prop) → Prop} {Qr : Int32 → MI → MJ → Prop} {b : Nat} (hM : CI (zl Z) y ws rm' (zE Z) (.ref (eK (zE Z) b) :: As) vc) (hg : GoodIn Ts (wsV own index RJ0 y ws)) (hd : y.cls = RJ0 ∧ y.cls ≠ "java/lang/invoke/MethodHandle" ∧ y.cls ≠ "java/lang/invoke/VarHandle" ∧ (parseMethodDescriptor y.desc).map (fun d => d.parameters.length) = some n) (hw : ws = Cond.code y bytes maxL ty :: ws') (hR : rm'.frames + 1 ≤ rm.frames ∧ 8 + (maxL + 11) + rm'.locals ≤ rm.locals) (hi : b < 14) (hst : As.reverse ++ .ref (eK (zE Z) b) :: rest = st) (d : decode cc pc = .ok (.invokevirtual index, 3)) (h : vc I J Qr) (kk : ∀ (r : Int32) (I' : MI) (J' : MJ), Qr r I' J' → GW Z nL I' J' (pc + 3) lv (.int r :: rest)) (hrc : rm'.cells = 0 := by rfl) (hrs : rm'.slots = 0 := by rfl) (hn : As.length = n := by rfl) (hrm : (rest.map fun v => v.category).sum ≤ 8 := by exact Nat.le_of_ble_eq_true rfl) : GW Z nL I J pc lv st := by
  intro H locs ls hP hS hl
  subst hst
  refine va_calli (va_runV (As := As) (rest := rest) ⟨cx_hx X, cx_hb X, cx_ml X, cx_own X, cx_ts X⟩ (hM H.size I J Qr h) (cwV n (cx_ts X) hg hw hrc hrs hd (by rw [cx_rm X]; exact hR)) ⟨pre_blind, vk_recv (cx_Sx X).2.1 hi hS, cx_pre X hP hS⟩ rfl hn hl.1 rfl (lv_room hrm) d (cx_f X)) hS (fun q _ h => cx_free X hS q h) (cx_free X hS) (fun r u t H1 locs1 ht hvm hw1 hB hz hk hS1 => ?_)
  exact kk r u.1 u.2 hw1 H1 locs1 ls (by rw [← ht]; exact hB) hS1 hl
theorem g_aload_nN (X : Cx Z cc nL own Ts rm rt) {f : Fin 4} {i : Nat} (d : decode cc pc = .ok (.aload_n f, 1)) (hi : (f : Nat) = i) (q : Nat) (hq : lv[q]? = some (i, .null)) (k : GW Z nL I J (pc + 1) lv (.null :: rest)) : GW Z nL I J pc lv rest := fun H locs ls hP hS hl => lv_aload_nN (cx_hx X) (cx_hb X) d hi (lv_at hl q hq) (k H locs ls hP hS hl)
end GWT
/-- the char of a text -/
def stC (k : Nat) (x : Int32) : Int32 := (((stB.getD k []).getD x.toNatClampNeg 0 &&& 255).toUInt32 % 65536).toInt32
def vc_J0_isEmpty_aae02 (k : Nat) (I : MI) (J : MJ) (Q : Int32 → MI → MJ → Prop) : Prop := (¬ Int32.ofNat (stL.getD k 0) = 0 → Q 0 I J) ∧ (Int32.ofNat (stL.getD k 0) = 0 → Q 1 I J)
def vc_J0_length_8abf5 (k : Nat) (I : MI) (J : MJ) (Q : Int32 → MI → MJ → Prop) : Prop := Q (Int32.ofNat (stL.getD k 0) >>> ((0 : Int32) &&& 31)) I J
def vc_J0_charAt_5068e (k : Nat) (x : Int32) (I : MI) (J : MJ) (Q : Int32 → MI → MJ → Prop) : Prop := vp_in x (stL.getD k 0) ∧ ¬ x < 0 ∧ x < Int32.ofNat (stL.getD k 0) ∧ Q (stC k x) I J
def rmJ0 : Room := { frames := 0, cells := 0, slots := 0, locals := 0 }
def rmJ1 : Room := { frames := 1, cells := 0, slots := 0, locals := 24 }
def rmJ2 : Room := { frames := 2, cells := 0, slots := 0, locals := 48 }
def rmJ3 : Room := { frames := 3, cells := 0, slots := 0, locals := 72 }
theorem yo_J0_coder_7d493 : yJ0_coder_7d493.cls = RJ0 ∧ yJ0_coder_7d493.cls ≠ "java/lang/invoke/MethodHandle" ∧ yJ0_coder_7d493.cls ≠ "java/lang/invoke/VarHandle" ∧ (parseMethodDescriptor yJ0_coder_7d493.desc).map (fun d => d.parameters.length) = some 0 := by decide +kernel
theorem yo_J0_isLatin1_aae02 : yJ0_isLatin1_aae02.cls = RJ0 ∧ yJ0_isLatin1_aae02.cls ≠ "java/lang/invoke/MethodHandle" ∧ yJ0_isLatin1_aae02.cls ≠ "java/lang/invoke/VarHandle" ∧ (parseMethodDescriptor yJ0_isLatin1_aae02.desc).map (fun d => d.parameters.length) = some 0 := by decide +kernel
theorem yo_J0_length_8abf5 : yJ0_length_8abf5.cls = RJ0 ∧ yJ0_length_8abf5.cls ≠ "java/lang/invoke/MethodHandle" ∧ yJ0_length_8abf5.cls ≠ "java/lang/invoke/VarHandle" ∧ (parseMethodDescriptor yJ0_length_8abf5.desc).map (fun d => d.parameters.length) = some 0 := by decide +kernel
theorem yo_J0_isEmpty_aae02 : yJ0_isEmpty_aae02.cls = RJ0 ∧ yJ0_isEmpty_aae02.cls ≠ "java/lang/invoke/MethodHandle" ∧ yJ0_isEmpty_aae02.cls ≠ "java/lang/invoke/VarHandle" ∧ (parseMethodDescriptor yJ0_isEmpty_aae02.desc).map (fun d => d.parameters.length) = some 0 := by decide +kernel
theorem yo_J0_charAt_5068e : yJ0_charAt_5068e.cls = RJ0 ∧ yJ0_charAt_5068e.cls ≠ "java/lang/invoke/MethodHandle" ∧ yJ0_charAt_5068e.cls ≠ "java/lang/invoke/VarHandle" ∧ (parseMethodDescriptor yJ0_charAt_5068e.desc).map (fun d => d.parameters.length) = some 1 := by decide +kernel
theorem yo_J0_checkIndex_df160 : yJ0_checkIndex_df160.cls ≠ "java/lang/invoke/MethodHandle" ∧ yJ0_checkIndex_df160.cls ≠ "java/lang/invoke/VarHandle" ∧ (parseMethodDescriptor yJ0_checkIndex_df160.desc).map (fun d => d.parameters.length) = some 2 := by decide +kernel
theorem yo_J1_charAt_3b067 : yJ1_charAt_3b067.cls ≠ "java/lang/invoke/MethodHandle" ∧ yJ1_charAt_3b067.cls ≠ "java/lang/invoke/VarHandle" ∧ (parseMethodDescriptor yJ1_charAt_3b067.desc).map (fun d => d.parameters.length) = some 2 := by decide +kernel
theorem yo_J3_checkIndex_8e157 : yJ3_checkIndex_8e157.cls ≠ "java/lang/invoke/MethodHandle" ∧ yJ3_checkIndex_8e157.cls ≠ "java/lang/invoke/VarHandle" ∧ (parseMethodDescriptor yJ3_checkIndex_8e157.desc).map (fun d => d.parameters.length) = some 3 := by decide +kernel
set_option maxRecDepth 100000 in
set_option maxHeartbeats 4000000 in
theorem c_J0_coder_7d493 (l : Launch) (E : ET) {k : Nat} (hk : k < 14) : CI l yJ0_coder_7d493 wsJ0_coder_7d493 rmJ0 E [.ref (eK E k)] (fun I J Q => Q 0 I J) := by
  refine CI.of (cc := cJ0_coder_7d493) (maxL := 1) (own := RJ0) (by decide) rfl rfl (Nat.le_of_ble_eq_true rfl) ?_
  intro Z I J Q hE hl X R h
  subst hE
  subst hl
  show GW Z 1 I J 0 [(0, .ref (eK (zE Z) k))] []
  refine g_scomp X (index := 38) (by decide +kernel) dJ0_coder_7d493_0 ?_
  refine g_if_eq X (tgt := 13) dJ0_coder_7d493_3 (by decide) (fun q => absurd q (by decide)) (fun _ => ?_)
  refine g_aload_n X dJ0_coder_7d493_6 rfl 0 rfl ?_
  refine g_scod X (index := 15) hk (by decide +kernel) dJ0_coder_7d493_7 ?_
  refine g_goto X (tgt := 14) dJ0_coder_7d493_10 (by decide) ?_
  exact g_xret X R rfl dJ0_coder_7d493_14 h
set_option maxRecDepth 100000 in
set_option maxHeartbeats 4000000 in
theorem c_J0_isLatin1_aae02 (l : Launch) (E : ET) {k : Nat} (hk : k < 14) : CI l yJ0_isLatin1_aae02 wsJ0_isLatin1_aae02 rmJ0 E [.ref (eK E k)] (fun I J Q => Q 1 I J) := by
  refine CI.of (cc := cJ0_isLatin1_aae02) (maxL := 1) (own := RJ0) (by decide) rfl rfl (Nat.le_of_ble_eq_true rfl) ?_
  intro Z I J Q hE hl X R h
  subst hE
  subst hl
  show GW Z 1 I J 0 [(0, .ref (eK (zE Z) k))] []
  refine g_scomp X (index := 38) (by decide +kernel) dJ0_isLatin1_aae02_0 ?_
  refine g_if_eq X (tgt := 17) dJ0_isLatin1_aae02_3 (by decide) (fun q => absurd q (by decide)) (fun _ => ?_)
  refine g_aload_n X dJ0_isLatin1_aae02_6 rfl 0 rfl ?_
  refine g_scod X (index := 15) hk (by decide +kernel) dJ0_isLatin1_aae02_7 ?_
  refine g_if_ne X (tgt := 17) dJ0_isLatin1_aae02_10 (by decide) (fun q => absurd rfl q) (fun _ => ?_)
  refine g_iconst X (v := 1) dJ0_isLatin1_aae02_13 (by decide) ?_
  refine g_goto X (tgt := 18) dJ0_isLatin1_aae02_14 (by decide) ?_
  exact g_zret X R (by decide) dJ0_isLatin1_aae02_18 h
set_option maxRecDepth 100000 in
set_option maxHeartbeats 4000000 in
theorem c_J0_length_8abf5 (l : Launch) (E : ET) {k : Nat} (hk : k < 14) : CI l yJ0_length_8abf5 wsJ0_length_8abf5 rmJ1 E [.ref (eK E k)] (vc_J0_length_8abf5 k) := by
  refine CI.of (cc := cJ0_length_8abf5) (maxL := 1) (own := RJ0) (by decide) rfl rfl (Nat.le_of_ble_eq_true rfl) ?_
  intro Z I J Q hE hl X R h
  subst hE
  subst hl
  show GW Z 1 I J 0 [(0, .ref (eK (zE Z) k))] []
  refine g_aload_n X dJ0_length_8abf5_0 rfl 0 rfl ?_
  refine g_sval X (index := 9) hk (by decide +kernel) dJ0_length_8abf5_1 ?_
  refine g_slen X hk dJ0_length_8abf5_4 ?_
  refine g_aload_n X dJ0_length_8abf5_5 rfl 0 rfl ?_
  refine g_callTI X (As := []) (rest := [.int (Int32.ofNat (stL.getD k 0))]) (Qr := fun r I' J' => r = 0 ∧ Q (Int32.ofNat (stL.getD k 0) >>> ((0 : Int32) &&& 31)) I' J') (c_J0_coder_7d493 (zl Z) (zE Z) hk) gJ0_length_8abf5_J0_coder_7d493 yo_J0_coder_7d493 rfl ⟨Nat.le_of_ble_eq_true rfl, Nat.le_of_ble_eq_true rfl⟩ hk rfl dJ0_length_8abf5_6 ⟨rfl, h⟩ (fun r I' J' h => ?_)
  obtain ⟨rfl, h⟩ := h
  refine g_ishr X dJ0_length_8abf5_9 ?_
  exact g_iret X R dJ0_length_8abf5_10 h
set_option maxRecDepth 100000 in
set_option maxHeartbeats 4000000 in
theorem c_J0_isEmpty_aae02 (l : Launch) (E : ET) {k : Nat} (hk : k < 14) : CI l yJ0_isEmpty_aae02 wsJ0_isEmpty_aae02 rmJ0 E [.ref (eK E k)] (vc_J0_isEmpty_aae02 k) := by
  refine CI.of (cc := cJ0_isEmpty_aae02) (maxL := 1) (own := RJ0) (by decide) rfl rfl (Nat.le_of_ble_eq_true rfl) ?_
  intro Z I J Q hE hl X R h
  subst hE
  subst hl
  show GW Z 1 I J 0 [(0, .ref (eK (zE Z) k))] []
  refine g_aload_n X dJ0_isEmpty_aae02_0 rfl 0 rfl ?_
  refine g_sval X (index := 9) hk (by decide +kernel) dJ0_isEmpty_aae02_1 ?_
  refine g_slen X hk dJ0_isEmpty_aae02_4 ?_
  refine g_if_ne X (tgt := 12) dJ0_isEmpty_aae02_5 (by decide) (fun c => ?_) (fun c => ?_)
  · refine g_iconst X (v := 0) dJ0_isEmpty_aae02_12 (by decide) ?_
    exact g_zret X R (by decide) dJ0_isEmpty_aae02_13 (h.1 c)
  · refine g_iconst X (v := 1) dJ0_isEmpty_aae02_8 (by decide) ?_
    refine g_goto X (tgt := 13) dJ0_isEmpty_aae02_9 (by decide) ?_
    exact g_zret X R (by decide) dJ0_isEmpty_aae02_13 (h.2 c)
set_option maxRecDepth 100000 in
set_option maxHeartbeats 4000000 in
theorem c_J3_checkIndex_8e157 (l : Launch) (E : ET) (v : Value) (hv : v.category = 1) (i n : Int32) : CI l yJ3_checkIndex_8e157 wsJ3_checkIndex_8e157 rmJ0 E [.int i, .int n, v] (fun I J Q => ¬ i < 0 ∧ i < n ∧ Q i I J) := by
  refine CI.of (cc := cJ3_checkIndex_8e157) (maxL := 3) (own := RJ3) (by decide) rfl rfl (by cases v <;> first | exact Nat.le_of_ble_eq_true rfl | exact absurd hv (by simp [Value.category])) ?_
  intro Z I J Q hE hl X R h
  subst hE
  subst hl
  obtain ⟨h1, h2, h⟩ := h
  show GW Z 3 I J 0 ((0, .int i) :: (1, .int n) :: lv_args 2 [v]) []
  generalize lv_args 2 [v] = lx
  refine g_iload_n X dJ3_checkIndex_8e157_0 rfl 0 rfl ?_
  refine g_if_lt X (tgt := 9) dJ3_checkIndex_8e157_1 (by decide) (fun c => absurd c h1) (fun _ => ?_)
  refine g_iload_n X dJ3_checkIndex_8e157_4 rfl 0 rfl ?_
  refine g_iload_n X dJ3_checkIndex_8e157_5 rfl 1 rfl ?_
  refine g_icmp_lt X (tgt := 16) dJ3_checkIndex_8e157_6 (by decide) (fun _ => ?_) (fun c => absurd h2 c)
  refine g_iload_n X dJ3_checkIndex_8e157_16 rfl 0 rfl ?_
  exact g_iret X R dJ3_checkIndex_8e157_17 h
set_option maxRecDepth 100000 in
set_option maxHeartbeats 4000000 in
theorem c_J0_checkIndex_df160 (l : Launch) (E : ET) (i n : Int32) : CV l yJ0_checkIndex_df160 wsJ0_checkIndex_df160 rmJ1 E [.int i, .int n] (fun I J Q => ¬ i < 0 ∧ i < n ∧ Q I J) := by
  refine CV.of (cc := cJ0_checkIndex_df160) (maxL := 2) (own := RJ0) (by decide) rfl rfl (Nat.le_of_ble_eq_true rfl) ?_
  intro Z I J Q hE hl X R h
  subst hE
  subst hl
  show GW Z 2 I J 0 [(0, .int i), (1, .int n)] []
  refine g_iload_n X dJ0_checkIndex_df160_0 rfl 0 rfl ?_
  refine g_iload_n X dJ0_checkIndex_df160_1 rfl 1 rfl ?_
  refine g_sfmt X (index := 1053) (by decide +kernel) dJ0_checkIndex_df160_2 ?_ (fun t => ?_)
  · refine g_callSI X (As := [.int i, .int n, .null]) (rest := []) (Qr := fun _ I' J' => Q I' J') (c_J3_checkIndex_8e157 (zl Z) (zE Z) .null rfl i n) gJ0_checkIndex_df160_J3_checkIndex_8e157 yo_J3_checkIndex_8e157 rfl ⟨Nat.le_of_ble_eq_true rfl, Nat.le_of_ble_eq_true rfl⟩ rfl dJ0_checkIndex_df160_5 h (fun r I' J' h => ?_)
    refine g_pop X dJ0_checkIndex_df160_8 rfl ?_
    exact g_vret X R dJ0_checkIndex_df160_9 h
  · refine g_callSI X (As := [.int i, .int n, .ref t]) (rest := []) (Qr := fun _ I' J' => Q I' J') (c_J3_checkIndex_8e157 (zl Z) (zE Z) (.ref t) rfl i n) gJ0_checkIndex_df160_J3_checkIndex_8e157 yo_J3_checkIndex_8e157 rfl ⟨Nat.le_of_ble_eq_true rfl, Nat.le_of_ble_eq_true rfl⟩ rfl dJ0_checkIndex_df160_5 h (fun r I' J' h => ?_)
    refine g_pop X dJ0_checkIndex_df160_8 rfl ?_
    exact g_vret X R dJ0_checkIndex_df160_9 h
set_option maxRecDepth 100000 in
set_option maxHeartbeats 4000000 in
theorem c_J1_charAt_3b067 (l : Launch) (E : ET) {k : Nat} (hk : k < 14) (x : Int32) : CI l yJ1_charAt_3b067 wsJ1_charAt_3b067 rmJ2 E [.ref (eV E k), .int x] (fun I J Q => vp_in x (stL.getD k 0) ∧ ¬ x < 0 ∧ x < Int32.ofNat (stL.getD k 0) ∧ Q (stC k x) I J) := by
  refine CI.of (cc := cJ1_charAt_3b067) (maxL := 2) (own := RJ1) (by decide) rfl rfl (Nat.le_of_ble_eq_true rfl) ?_
  intro Z I J Q hE hl X R h
  subst hE
  subst hl
  obtain ⟨h1, h2, h3, h⟩ := h
  show GW Z 2 I J 0 [(0, .ref (eV (zE Z) k)), (1, .int x)] []
  refine g_iload_n X dJ1_charAt_3b067_0 rfl 1 rfl ?_
  refine g_aload_n X dJ1_charAt_3b067_1 rfl 0 rfl ?_
  refine g_slen X hk dJ1_charAt_3b067_2 ?_
  refine g_callSV X (As := [.int x, .int (Int32.ofNat (stL.getD k 0))]) (rest := []) (Qr := fun I' J' => Q (stC k x) I' J') (c_J0_checkIndex_df160 (zl Z) (zE Z) x (Int32.ofNat (stL.getD k 0))) gJ1_charAt_3b067_J0_checkIndex_df160 yo_J0_checkIndex_df160 rfl ⟨Nat.le_of_ble_eq_true rfl, Nat.le_of_ble_eq_true rfl⟩ rfl dJ1_charAt_3b067_3 ⟨h2, h3, h⟩ (fun I' J' h => ?_)
  refine g_aload_n X dJ1_charAt_3b067_6 rfl 0 rfl ?_
  refine g_iload_n X dJ1_charAt_3b067_7 rfl 1 rfl ?_
  refine g_sbyt X hk h1 dJ1_charAt_3b067_8 ?_
  refine g_sipush X (v := 255) dJ1_charAt_3b067_9 (by decide) ?_
  refine g_iand X dJ1_charAt_3b067_12 ?_
  refine g_i2c X dJ1_charAt_3b067_13 ?_
  exact g_xret X R (pk_nc _) dJ1_charAt_3b067_14 h
set_option maxRecDepth 100000 in
set_option maxHeartbeats 4000000 in
theorem c_J0_charAt_5068e (l : Launch) (E : ET) {k : Nat} (hk : k < 14) (x : Int32) : CI l yJ0_charAt_5068e wsJ0_charAt_5068e rmJ3 E [.ref (eK E k), .int x] (vc_J0_charAt_5068e k x) := by
  refine CI.of (cc := cJ0_charAt_5068e) (maxL := 2) (own := RJ0) (by decide) rfl rfl (Nat.le_of_ble_eq_true rfl) ?_
  intro Z I J Q hE hl X R h
  subst hE
  subst hl
  show GW Z 2 I J 0 [(0, .ref (eK (zE Z) k)), (1, .int x)] []
  refine g_aload_n X dJ0_charAt_5068e_0 rfl 0 rfl ?_
  refine g_callTI X (As := []) (rest := []) (Qr := fun r I' J' => r = 1 ∧ (vp_in x (stL.getD k 0) ∧ ¬ x < 0 ∧ x < Int32.ofNat (stL.getD k 0) ∧ Q (stC k x) I' J')) (c_J0_isLatin1_aae02 (zl Z) (zE Z) hk) gJ0_charAt_5068e_J0_isLatin1_aae02 yo_J0_isLatin1_aae02 rfl ⟨Nat.le_of_ble_eq_true rfl, Nat.le_of_ble_eq_true rfl⟩ hk rfl dJ0_charAt_5068e_1 ⟨rfl, h⟩ (fun r I' J' h => ?_)
  obtain ⟨rfl, h⟩ := h
  refine g_if_eq X (tgt := 16) dJ0_charAt_5068e_4 (by decide) (fun q => absurd q (by decide)) (fun _ => ?_)
  refine g_aload_n X dJ0_charAt_5068e_7 rfl 0 rfl ?_
  refine g_sval X (index := 9) hk (by decide +kernel) dJ0_charAt_5068e_8 ?_
  refine g_iload_n X dJ0_charAt_5068e_11 rfl 1 rfl ?_
  refine g_callSI X (As := [.ref (eV (zE Z) k), .int x]) (rest := []) (Qr := fun r I' J' => r = stC k x ∧ Q (stC k x) I' J') (c_J1_charAt_3b067 (zl Z) (zE Z) hk x) gJ0_charAt_5068e_J1_charAt_3b067 yo_J1_charAt_3b067 rfl ⟨Nat.le_of_ble_eq_true rfl, Nat.le_of_ble_eq_true rfl⟩ rfl dJ0_charAt_5068e_12 ⟨h.1, h.2.1, h.2.2.1, rfl, h.2.2.2⟩ (fun r I' J' h => ?_)
  obtain ⟨rfl, h⟩ := h
  exact g_xret X R (pk_nc _) dJ0_charAt_5068e_15 h
