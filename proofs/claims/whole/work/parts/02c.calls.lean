/-! ===== contracts over the world, returns, calls ===== -/
def Pre (E : ET) (sz : Nat) (I : MI) (J : MJ) (U : State) : Prop := U.heap.size = sz ∧ va_P (eD E) vwCl (wd E I J) U.heap ∧ Sx E (aA E sz) U U.heap ∧ inj E
def Bx (E : ET) (u : MI × MJ) (t : State) : Prop := va_P (eD E) vwCl (wd E u.1 u.2) t.heap
theorem pre_blind {As : List Value} {E : ET} {sz : Nat} {I : MI} {J : MJ} : FrameBlind (va_Pc As (Pre E sz I J)) := fun _ _ _ _ q => ⟨q.1, q.2.1, q.2.2.1, q.2.2.2.1.same rfl, q.2.2.2.2⟩
def CI (l : Launch) (y : MethodName) (ws : List Cond) (rm : Room) (E : ET) (As : List Value) (vc : MI → MJ → (Int32 → MI → MJ → Prop) → Prop) : Prop :=
  ∀ (sz : Nat) (I : MI) (J : MJ) (Q : Int32 → MI → MJ → Prop), vc I J Q → Met l y ws rm (va_Pc As (Pre E sz I J)) (va_Qi (fun r (u : MI × MJ) => Q r u.1 u.2) (Bx E) (aA E sz)) 0 0 (aA E sz)
def CL (l : Launch) (y : MethodName) (ws : List Cond) (rm : Room) (E : ET) (As : List Value) (vc : MI → MJ → (Int64 → MI → MJ → Prop) → Prop) : Prop :=
  ∀ (sz : Nat) (I : MI) (J : MJ) (Q : Int64 → MI → MJ → Prop), vc I J Q → Met l y ws rm (va_Pc As (Pre E sz I J)) (va_Ql (fun r (u : MI × MJ) => Q r u.1 u.2) (Bx E) (aA E sz)) 0 0 (aA E sz)
def CV (l : Launch) (y : MethodName) (ws : List Cond) (rm : Room) (E : ET) (As : List Value) (vc : MI → MJ → (MI → MJ → Prop) → Prop) : Prop :=
  ∀ (sz : Nat) (I : MI) (J : MJ) (Q : MI → MJ → Prop), vc I J Q → Met l y ws rm (va_Pc As (Pre E sz I J)) (va_Qv (fun (u : MI × MJ) => Q u.1 u.2) (Bx E) (aA E sz)) 0 0 (aA E sz)
abbrev RI (Z : RT) (Q : Int32 → MI → MJ → Prop) : Prop := zQ Z = MQ (zb Z) (va_Qi (fun r (u : MI × MJ) => Q r u.1 u.2) (Bx (zE Z)) (zA Z)) (za Z) (zs Z) (zC Z) (zS Z) (zA Z)
abbrev RL_ (Z : RT) (Q : Int64 → MI → MJ → Prop) : Prop := zQ Z = MQ (zb Z) (va_Ql (fun r (u : MI × MJ) => Q r u.1 u.2) (Bx (zE Z)) (zA Z)) (za Z) (zs Z) (zC Z) (zS Z) (zA Z)
abbrev RV (Z : RT) (Q : MI → MJ → Prop) : Prop := zQ Z = MQ (zb Z) (va_Qv (fun (u : MI × MJ) => Q u.1 u.2) (Bx (zE Z)) (zA Z)) (za Z) (zs Z) (zC Z) (zS Z) (zA Z)
theorem CI.of {l : Launch} {y : MethodName} {ws ws' : List Cond} {rm : Room} {E : ET} {As : List Value} {vc : MI → MJ → (Int32 → MI → MJ → Prop) → Prop} {cc : ByteArray} {maxL : Nat} {ty : FieldType} {own : String} (hy : plainName y.cls = true) (hown : y.cls = own) (hw : ws = Cond.code y cc maxL (some ty) :: ws') (hla : (lg_sl As).length ≤ maxL)
    (body : ∀ (Z : RT) (I : MI) (J : MJ) (Q : Int32 → MI → MJ → Prop), zE Z = E → zl Z = l → Cx Z cc maxL own ws rm (some ty) → RI Z Q → vc I J Q → GW Z maxL I J 0 (lv_args 0 As) []) : CI l y ws rm E As vc := by
  intro sz I J Q h
  refine Met.ofW (cc := cc) (maxL := maxL) (ret := some ty) hy hw ?_
  intro p e s m args below meth c s₁ B hml hv
  obtain ⟨rfl, hsz, hP, hSx, hinj⟩ := hv
  subst hsz
  have hl := lv_entry As (n := maxL) hla
  rw [lg_entry_eq]
  have X : Cx ((p, l, e, (headSpec ws rm).room, s), (m, As.toArray, below, meth, c), (MQ below (va_Qi (fun r (u : MI × MJ) => Q r u.1 u.2) (Bx E) (aA E s.heap.size)) As.toArray s 0 0 (aA E s.heap.size), aA E s.heap.size, E, 0, 0)) cc maxL own ws rm (some ty) :=
    ⟨B.exec, B.bytes, hml, by rw [← hown]; exact findClass_of_methodNamed B.named, atoms_spec (ws := ws) B.pre, B.notSynchronized, B.returns, rfl, hSx, hinj, fun i hi => Or.inl ⟨i, hi, rfl⟩, fun q h => Or.inr h, Nat.zero_le _, Nat.zero_le _⟩
  exact body _ I J Q rfl rfl X rfl h s.heap [] _ hP va_S.rf hl
theorem CL.of {l : Launch} {y : MethodName} {ws ws' : List Cond} {rm : Room} {E : ET} {As : List Value} {vc : MI → MJ → (Int64 → MI → MJ → Prop) → Prop} {cc : ByteArray} {maxL : Nat} {ty : FieldType} {own : String} (hy : plainName y.cls = true) (hown : y.cls = own) (hw : ws = Cond.code y cc maxL (some ty) :: ws') (hla : (lg_sl As).length ≤ maxL)
    (body : ∀ (Z : RT) (I : MI) (J : MJ) (Q : Int64 → MI → MJ → Prop), zE Z = E → zl Z = l → Cx Z cc maxL own ws rm (some ty) → RL_ Z Q → vc I J Q → GW Z maxL I J 0 (lv_args 0 As) []) : CL l y ws rm E As vc := by
  intro sz I J Q h
  refine Met.ofW (cc := cc) (maxL := maxL) (ret := some ty) hy hw ?_
  intro p e s m args below meth c s₁ B hml hv
  obtain ⟨rfl, hsz, hP, hSx, hinj⟩ := hv
  subst hsz
  have hl := lv_entry As (n := maxL) hla
  rw [lg_entry_eq]
  have X : Cx ((p, l, e, (headSpec ws rm).room, s), (m, As.toArray, below, meth, c), (MQ below (va_Ql (fun r (u : MI × MJ) => Q r u.1 u.2) (Bx E) (aA E s.heap.size)) As.toArray s 0 0 (aA E s.heap.size), aA E s.heap.size, E, 0, 0)) cc maxL own ws rm (some ty) :=
    ⟨B.exec, B.bytes, hml, by rw [← hown]; exact findClass_of_methodNamed B.named, atoms_spec (ws := ws) B.pre, B.notSynchronized, B.returns, rfl, hSx, hinj, fun i hi => Or.inl ⟨i, hi, rfl⟩, fun q h => Or.inr h, Nat.zero_le _, Nat.zero_le _⟩
  exact body _ I J Q rfl rfl X rfl h s.heap [] _ hP va_S.rf hl
theorem CV.of {l : Launch} {y : MethodName} {ws ws' : List Cond} {rm : Room} {E : ET} {As : List Value} {vc : MI → MJ → (MI → MJ → Prop) → Prop} {cc : ByteArray} {maxL : Nat} {own : String} (hy : plainName y.cls = true) (hown : y.cls = own) (hw : ws = Cond.code y cc maxL (none) :: ws') (hla : (lg_sl As).length ≤ maxL)
    (body : ∀ (Z : RT) (I : MI) (J : MJ) (Q : MI → MJ → Prop), zE Z = E → zl Z = l → Cx Z cc maxL own ws rm (none) → RV Z Q → vc I J Q → GW Z maxL I J 0 (lv_args 0 As) []) : CV l y ws rm E As vc := by
  intro sz I J Q h
  refine Met.ofW (cc := cc) (maxL := maxL) (ret := none) hy hw ?_
  intro p e s m args below meth c s₁ B hml hv
  obtain ⟨rfl, hsz, hP, hSx, hinj⟩ := hv
  subst hsz
  have hl := lv_entry As (n := maxL) hla
  rw [lg_entry_eq]
  have X : Cx ((p, l, e, (headSpec ws rm).room, s), (m, As.toArray, below, meth, c), (MQ below (va_Qv (fun (u : MI × MJ) => Q u.1 u.2) (Bx E) (aA E s.heap.size)) As.toArray s 0 0 (aA E s.heap.size), aA E s.heap.size, E, 0, 0)) cc maxL own ws rm (none) :=
    ⟨B.exec, B.bytes, hml, by rw [← hown]; exact findClass_of_methodNamed B.named, atoms_spec (ws := ws) B.pre, B.notSynchronized, B.returns, rfl, hSx, hinj, fun i hi => Or.inl ⟨i, hi, rfl⟩, fun q h => Or.inr h, Nat.zero_le _, Nat.zero_le _⟩
  exact body _ I J Q rfl rfl X rfl h s.heap [] _ hP va_S.rf hl
section GWC
variable {Z : RT} {cc : ByteArray} {nL : Nat} {own : String} {Ts : List Cond} {rm : Room} {rt : Option FieldType} {I : MI} {J : MJ} {pc : Nat} {lv : List (Nat × Value)} {rest : List Value}
theorem g_iret (X : Cx Z cc nL own Ts rm (some .int)) {Q : Int32 → MI → MJ → Prop} (R : RI Z Q) {v : Int32} (d : decode cc pc = .ok (.ireturn, 1)) (h : Q v I J) : GW Z nL I J pc lv [.int v] := by
  intro H locs ls hP hS hl
  rw [show zQ Z = _ from R]
  exact W.iret (cx_hx X) (cx_hb X) (cx_rt X) (fun t ht hW => ⟨⟨v, (I, J), rfl, h, by show va_P _ _ _ t.heap; rw [ht]; exact hP⟩, hS.F ht⟩) hS.2.2 d (cx_lk X)
theorem g_zret (X : Cx Z cc nL own Ts rm (some .boolean)) {Q : Int32 → MI → MJ → Prop} (R : RI Z Q) {v : Int32} (hv : v = 0 ∨ v = 1) (d : decode cc pc = .ok (.ireturn, 1)) (h : Q v I J) : GW Z nL I J pc lv [.int v] := by
  intro H locs ls hP hS hl
  rw [show zQ Z = _ from R]
  exact W.zret (cx_hx X) (cx_hb X) (cx_rt X) (by rcases hv with rfl | rfl <;> rfl) (fun t ht hW => ⟨⟨v, (I, J), rfl, h, by show va_P _ _ _ t.heap; rw [ht]; exact hP⟩, hS.F ht⟩) hS.2.2 d (cx_lk X)
theorem g_xret {ty : FieldType} (X : Cx Z cc nL own Ts rm (some ty)) {Q : Int32 → MI → MJ → Prop} (R : RI Z Q) {v : Int32} (hv : narrow ty (.int v) = .int v) (d : decode cc pc = .ok (.ireturn, 1)) (h : Q v I J) : GW Z nL I J pc lv [.int v] := by
  intro H locs ls hP hS hl
  rw [show zQ Z = _ from R]
  exact W.zret (cx_hx X) (cx_hb X) (cx_rt X) hv (fun t ht hW => ⟨⟨v, (I, J), rfl, h, by show va_P _ _ _ t.heap; rw [ht]; exact hP⟩, hS.F ht⟩) hS.2.2 d (cx_lk X)
theorem g_lret (X : Cx Z cc nL own Ts rm (some .long)) {Q : Int64 → MI → MJ → Prop} (R : RL_ Z Q) {v : Int64} (d : decode cc pc = .ok (.lreturn, 1)) (h : Q v I J) : GW Z nL I J pc lv [.long v] := by
  intro H locs ls hP hS hl
  rw [show zQ Z = _ from R]
  exact W.lret (cx_hx X) (cx_hb X) (cx_rt X) (fun t ht hW => ⟨⟨v, (I, J), rfl, h, by show va_P _ _ _ t.heap; rw [ht]; exact hP⟩, hS.F ht⟩) hS.2.2 d (cx_lk X)
theorem g_vret (X : Cx Z cc nL own Ts rm none) {Q : MI → MJ → Prop} (R : RV Z Q) (d : decode cc pc = .ok (.return_, 1)) (h : Q I J) : GW Z nL I J pc lv [] := by
  intro H locs ls hP hS hl
  rw [show zQ Z = _ from R]
  exact W.vret (cx_hx X) (cx_hb X) (cx_rt X) (fun t ht hW => ⟨⟨(I, J), rfl, h, by show va_P _ _ _ t.heap; rw [ht]; exact hP⟩, hS.F ht⟩) hS.2.2 d (cx_lk X)
theorem cx_free (X : Cx Z cc nL own Ts rm rt) {H : Heap} {locs : List Loc} (hS : va_S (zA Z) (zs Z).heap H locs) : ∀ q, aA (zE Z) H.size q → zA Z q := fun q h => h.elim (fun ⟨i, hi, e⟩ => e ▸ cx_A X i hi) (fun h => cx_up X q (Nat.le_trans hS.1 h))
theorem cx_pre (X : Cx Z cc nL own Ts rm rt) {H : Heap} {locs : List Loc} (hP : va_P (eD (zE Z)) vwCl (wd (zE Z) I J) H) (hS : va_S (zA Z) (zs Z).heap H locs) {As : List Value} : ∀ U : State, U.heap = H → (zs Z).WarmedH U.vm → va_Pc As (Pre (zE Z) H.size I J) As.toArray U := fun U hU hW =>
  ⟨rfl, by rw [hU], by rw [hU]; exact hP, by rw [hU]; exact (cx_Sx X).warm hW hS.2.1 (cx_free X hS), cx_inj X⟩
theorem cx_f (X : Cx Z cc nL own Ts rm rt) : zC Z + 0 ≤ (zR Z).cells ∧ zS Z + 0 ≤ (zR Z).slots := by rw [cx_rm X]; exact ⟨X.2.2.2.2.2.2.2.2.2.2.2.2.1, X.2.2.2.2.2.2.2.2.2.2.2.2.2⟩
theorem g_callVI (X : Cx Z cc nL own Ts rm rt) {y : MethodName} {bytes : ByteArray} {maxL index n : Nat} {As st : List Value} {ws ws' : List Cond} {rm' : Room} {ty : Option FieldType} {vc : MI → MJ → (Int32 → MI → MJ → Prop) → Prop} {Qr : Int32 → MI → MJ → Prop} {b ci N : Nat} {C : String} {T : u_T} (hM : CI (zl Z) y ws rm' (zE Z) (.ref (ea (zE Z) b) :: As) vc) (hg : GoodIn Ts (wsV own index C y ws)) (hd : y.cls = C ∧ y.cls ≠ "java/lang/invoke/MethodHandle" ∧ y.cls ≠ "java/lang/invoke/VarHandle" ∧ (parseMethodDescriptor y.desc).map (fun d => d.parameters.length) = some n) (hw : ws = Cond.code y bytes maxL ty :: ws') (hR : rm'.frames + 1 ≤ rm.frames ∧ 8 + (maxL + 11) + rm'.locals ≤ rm.locals) (hi : b < 109) (hkd : kd b = (5, ci)) (hc : vwCl[ci]? = some (C, T, N)) (hst : As.reverse ++ .ref (ea (zE Z) b) :: rest = st) (d : decode cc pc = .ok (.invokevirtual index, 3)) (h : vc I J Qr) (kk : ∀ (r : Int32) (I' : MI) (J' : MJ), Qr r I' J' → GW Z nL I' J' (pc + 3) lv (.int r :: rest)) (hrc : rm'.cells = 0 := by rfl) (hrs : rm'.slots = 0 := by rfl) (hn : As.length = n := by rfl) (hrm : (rest.map fun v => v.category).sum ≤ 8 := by exact Nat.le_of_ble_eq_true rfl) : GW Z nL I J (pc) lv (st) := by
  intro H locs ls hP hS hl
  subst hst
  refine va_calli (va_runV (As := As) (rest := rest) ⟨cx_hx X, cx_hb X, cx_ml X, cx_own X, cx_ts X⟩ (hM H.size I J Qr h) (cwV n (cx_ts X) hg hw hrc hrs hd (by rw [cx_rm X]; exact hR)) ⟨pre_blind, va_recv (cx_K X) hP hc ((wd_get hi).trans (by rw [co_o hkd])), cx_pre X hP hS⟩ rfl hn hl.1 rfl (lv_room hrm) d (cx_f X)) hS (fun q _ h => cx_free X hS q h) (cx_free X hS) (fun r u t H1 locs1 ht hvm hw1 hB hz hk hS1 => ?_)
  exact kk r u.1 u.2 hw1 H1 locs1 ls (by rw [← ht]; exact hB) hS1 hl
theorem g_callSI (X : Cx Z cc nL own Ts rm rt) {y : MethodName} {bytes : ByteArray} {maxL index n : Nat} {As st : List Value} {ws ws' : List Cond} {rm' : Room} {ty : Option FieldType} {vc : MI → MJ → (Int32 → MI → MJ → Prop) → Prop} {Qr : Int32 → MI → MJ → Prop} (hM : CI (zl Z) y ws rm' (zE Z) As vc) (hg : GoodIn Ts (va_wsS own index y ws)) (hd : y.cls ≠ "java/lang/invoke/MethodHandle" ∧ y.cls ≠ "java/lang/invoke/VarHandle" ∧ (parseMethodDescriptor y.desc).map (fun d => d.parameters.length) = some n) (hw : ws = Cond.code y bytes maxL ty :: ws') (hR : rm'.frames + 1 ≤ rm.frames ∧ 8 + (maxL + 11) + rm'.locals ≤ rm.locals) (hst : As.reverse ++ rest = st) (d : decode cc pc = .ok (.invokestatic index, 3)) (h : vc I J Qr) (kk : ∀ (r : Int32) (I' : MI) (J' : MJ), Qr r I' J' → GW Z nL I' J' (pc + 3) lv (.int r :: rest)) (hrc : rm'.cells = 0 := by rfl) (hrs : rm'.slots = 0 := by rfl) (hn : As.length = n := by rfl) (hrm : (rest.map fun v => v.category).sum ≤ 8 := by exact Nat.le_of_ble_eq_true rfl) : GW Z nL I J (pc) lv (st) := by
  intro H locs ls hP hS hl
  subst hst
  refine va_calli (va_runS (As := As) (rest := rest) ⟨cx_hx X, cx_hb X, cx_ml X, cx_own X, cx_ts X⟩ (hM H.size I J Qr h) (va_cwS n (cx_ts X) hg hw hrc hrs hd (by rw [cx_rm X]; exact hR)) ⟨pre_blind, cx_pre X hP hS⟩ rfl hn hl.1 rfl (lv_room hrm) d (cx_f X)) hS (fun q _ h => cx_free X hS q h) (cx_free X hS) (fun r u t H1 locs1 ht hvm hw1 hB hz hk hS1 => ?_)
  exact kk r u.1 u.2 hw1 H1 locs1 ls (by rw [← ht]; exact hB) hS1 hl
theorem g_callNI (X : Cx Z cc nL own Ts rm rt) {y : MethodName} {bytes : ByteArray} {maxL index n : Nat} {As st : List Value} {ws ws' : List Cond} {rm' : Room} {ty : Option FieldType} {vc : MI → MJ → (Int32 → MI → MJ → Prop) → Prop} {Qr : Int32 → MI → MJ → Prop} {host : String} (hM : CI (zl Z) y ws rm' (zE Z) As vc) (hg : GoodIn Ts ws) (hN : va_Nw (.methodLinkNest own index y host) (zs Z)) (hini : Cond.initialized y.cls ∈ Ts) (hsta : Cond.static y ∈ Ts) (hd : y.cls ≠ "java/lang/invoke/MethodHandle" ∧ y.cls ≠ "java/lang/invoke/VarHandle" ∧ (parseMethodDescriptor y.desc).map (fun d => d.parameters.length) = some n) (hw : ws = Cond.code y bytes maxL ty :: ws') (hR : rm'.frames + 1 ≤ rm.frames ∧ 8 + (maxL + 11) + rm'.locals ≤ rm.locals) (hst : As.reverse ++ rest = st) (d : decode cc pc = .ok (.invokestatic index, 3)) (h : vc I J Qr) (kk : ∀ (r : Int32) (I' : MI) (J' : MJ), Qr r I' J' → GW Z nL I' J' (pc + 3) lv (.int r :: rest)) (hrc : rm'.cells = 0 := by rfl) (hrs : rm'.slots = 0 := by rfl) (hn : As.length = n := by rfl) (hrm : (rest.map fun v => v.category).sum ≤ 8 := by exact Nat.le_of_ble_eq_true rfl) : GW Z nL I J (pc) lv (st) := by
  intro H locs ls hP hS hl
  subst hst
  refine va_calli (va_runSN (As := As) (rest := rest) ⟨cx_hx X, cx_hb X, cx_ml X, cx_own X, cx_ts X⟩ (hM H.size I J Qr h) ⟨va_cnB n (cx_ts X) hg hw hrc hrs hN (cx_ts X _ hini) hd (by rw [cx_rm X]; exact hR), cx_ts X _ hsta, trivial⟩ ⟨pre_blind, cx_pre X hP hS⟩ rfl hn hl.1 rfl (lv_room hrm) d (cx_f X)) hS (fun q _ h => cx_free X hS q h) (cx_free X hS) (fun r u t H1 locs1 ht hvm hw1 hB hz hk hS1 => ?_)
  exact kk r u.1 u.2 hw1 H1 locs1 ls (by rw [← ht]; exact hB) hS1 hl
theorem g_callVL (X : Cx Z cc nL own Ts rm rt) {y : MethodName} {bytes : ByteArray} {maxL index n : Nat} {As st : List Value} {ws ws' : List Cond} {rm' : Room} {ty : Option FieldType} {vc : MI → MJ → (Int64 → MI → MJ → Prop) → Prop} {Qr : Int64 → MI → MJ → Prop} {b ci N : Nat} {C : String} {T : u_T} (hM : CL (zl Z) y ws rm' (zE Z) (.ref (ea (zE Z) b) :: As) vc) (hg : GoodIn Ts (wsV own index C y ws)) (hd : y.cls = C ∧ y.cls ≠ "java/lang/invoke/MethodHandle" ∧ y.cls ≠ "java/lang/invoke/VarHandle" ∧ (parseMethodDescriptor y.desc).map (fun d => d.parameters.length) = some n) (hw : ws = Cond.code y bytes maxL ty :: ws') (hR : rm'.frames + 1 ≤ rm.frames ∧ 8 + (maxL + 11) + rm'.locals ≤ rm.locals) (hi : b < 109) (hkd : kd b = (5, ci)) (hc : vwCl[ci]? = some (C, T, N)) (hst : As.reverse ++ .ref (ea (zE Z) b) :: rest = st) (d : decode cc pc = .ok (.invokevirtual index, 3)) (h : vc I J Qr) (kk : ∀ (r : Int64) (I' : MI) (J' : MJ), Qr r I' J' → GW Z nL I' J' (pc + 3) lv (.long r :: rest)) (hrc : rm'.cells = 0 := by rfl) (hrs : rm'.slots = 0 := by rfl) (hn : As.length = n := by rfl) (hrm : (rest.map fun v => v.category).sum ≤ 8 := by exact Nat.le_of_ble_eq_true rfl) : GW Z nL I J (pc) lv (st) := by
  intro H locs ls hP hS hl
  subst hst
  refine va_calll (va_runV (As := As) (rest := rest) ⟨cx_hx X, cx_hb X, cx_ml X, cx_own X, cx_ts X⟩ (hM H.size I J Qr h) (cwV n (cx_ts X) hg hw hrc hrs hd (by rw [cx_rm X]; exact hR)) ⟨pre_blind, va_recv (cx_K X) hP hc ((wd_get hi).trans (by rw [co_o hkd])), cx_pre X hP hS⟩ rfl hn hl.1 rfl (lv_room hrm) d (cx_f X)) hS (fun q _ h => cx_free X hS q h) (cx_free X hS) (fun r u t H1 locs1 ht hvm hw1 hB hz hk hS1 => ?_)
  exact kk r u.1 u.2 hw1 H1 locs1 ls (by rw [← ht]; exact hB) hS1 hl
theorem g_callSL (X : Cx Z cc nL own Ts rm rt) {y : MethodName} {bytes : ByteArray} {maxL index n : Nat} {As st : List Value} {ws ws' : List Cond} {rm' : Room} {ty : Option FieldType} {vc : MI → MJ → (Int64 → MI → MJ → Prop) → Prop} {Qr : Int64 → MI → MJ → Prop} (hM : CL (zl Z) y ws rm' (zE Z) As vc) (hg : GoodIn Ts (va_wsS own index y ws)) (hd : y.cls ≠ "java/lang/invoke/MethodHandle" ∧ y.cls ≠ "java/lang/invoke/VarHandle" ∧ (parseMethodDescriptor y.desc).map (fun d => d.parameters.length) = some n) (hw : ws = Cond.code y bytes maxL ty :: ws') (hR : rm'.frames + 1 ≤ rm.frames ∧ 8 + (maxL + 11) + rm'.locals ≤ rm.locals) (hst : As.reverse ++ rest = st) (d : decode cc pc = .ok (.invokestatic index, 3)) (h : vc I J Qr) (kk : ∀ (r : Int64) (I' : MI) (J' : MJ), Qr r I' J' → GW Z nL I' J' (pc + 3) lv (.long r :: rest)) (hrc : rm'.cells = 0 := by rfl) (hrs : rm'.slots = 0 := by rfl) (hn : As.length = n := by rfl) (hrm : (rest.map fun v => v.category).sum ≤ 8 := by exact Nat.le_of_ble_eq_true rfl) : GW Z nL I J (pc) lv (st) := by
  intro H locs ls hP hS hl
  subst hst
  refine va_calll (va_runS (As := As) (rest := rest) ⟨cx_hx X, cx_hb X, cx_ml X, cx_own X, cx_ts X⟩ (hM H.size I J Qr h) (va_cwS n (cx_ts X) hg hw hrc hrs hd (by rw [cx_rm X]; exact hR)) ⟨pre_blind, cx_pre X hP hS⟩ rfl hn hl.1 rfl (lv_room hrm) d (cx_f X)) hS (fun q _ h => cx_free X hS q h) (cx_free X hS) (fun r u t H1 locs1 ht hvm hw1 hB hz hk hS1 => ?_)
  exact kk r u.1 u.2 hw1 H1 locs1 ls (by rw [← ht]; exact hB) hS1 hl
theorem g_callNL (X : Cx Z cc nL own Ts rm rt) {y : MethodName} {bytes : ByteArray} {maxL index n : Nat} {As st : List Value} {ws ws' : List Cond} {rm' : Room} {ty : Option FieldType} {vc : MI → MJ → (Int64 → MI → MJ → Prop) → Prop} {Qr : Int64 → MI → MJ → Prop} {host : String} (hM : CL (zl Z) y ws rm' (zE Z) As vc) (hg : GoodIn Ts ws) (hN : va_Nw (.methodLinkNest own index y host) (zs Z)) (hini : Cond.initialized y.cls ∈ Ts) (hsta : Cond.static y ∈ Ts) (hd : y.cls ≠ "java/lang/invoke/MethodHandle" ∧ y.cls ≠ "java/lang/invoke/VarHandle" ∧ (parseMethodDescriptor y.desc).map (fun d => d.parameters.length) = some n) (hw : ws = Cond.code y bytes maxL ty :: ws') (hR : rm'.frames + 1 ≤ rm.frames ∧ 8 + (maxL + 11) + rm'.locals ≤ rm.locals) (hst : As.reverse ++ rest = st) (d : decode cc pc = .ok (.invokestatic index, 3)) (h : vc I J Qr) (kk : ∀ (r : Int64) (I' : MI) (J' : MJ), Qr r I' J' → GW Z nL I' J' (pc + 3) lv (.long r :: rest)) (hrc : rm'.cells = 0 := by rfl) (hrs : rm'.slots = 0 := by rfl) (hn : As.length = n := by rfl) (hrm : (rest.map fun v => v.category).sum ≤ 8 := by exact Nat.le_of_ble_eq_true rfl) : GW Z nL I J (pc) lv (st) := by
  intro H locs ls hP hS hl
  subst hst
  refine va_calll (va_runSN (As := As) (rest := rest) ⟨cx_hx X, cx_hb X, cx_ml X, cx_own X, cx_ts X⟩ (hM H.size I J Qr h) ⟨va_cnB n (cx_ts X) hg hw hrc hrs hN (cx_ts X _ hini) hd (by rw [cx_rm X]; exact hR), cx_ts X _ hsta, trivial⟩ ⟨pre_blind, cx_pre X hP hS⟩ rfl hn hl.1 rfl (lv_room hrm) d (cx_f X)) hS (fun q _ h => cx_free X hS q h) (cx_free X hS) (fun r u t H1 locs1 ht hvm hw1 hB hz hk hS1 => ?_)
  exact kk r u.1 u.2 hw1 H1 locs1 ls (by rw [← ht]; exact hB) hS1 hl
theorem g_callVV (X : Cx Z cc nL own Ts rm rt) {y : MethodName} {bytes : ByteArray} {maxL index n : Nat} {As st : List Value} {ws ws' : List Cond} {rm' : Room} {ty : Option FieldType} {vc : MI → MJ → (MI → MJ → Prop) → Prop} {Qr : MI → MJ → Prop} {b ci N : Nat} {C : String} {T : u_T} (hM : CV (zl Z) y ws rm' (zE Z) (.ref (ea (zE Z) b) :: As) vc) (hg : GoodIn Ts (wsV own index C y ws)) (hd : y.cls = C ∧ y.cls ≠ "java/lang/invoke/MethodHandle" ∧ y.cls ≠ "java/lang/invoke/VarHandle" ∧ (parseMethodDescriptor y.desc).map (fun d => d.parameters.length) = some n) (hw : ws = Cond.code y bytes maxL ty :: ws') (hR : rm'.frames + 1 ≤ rm.frames ∧ 8 + (maxL + 11) + rm'.locals ≤ rm.locals) (hi : b < 109) (hkd : kd b = (5, ci)) (hc : vwCl[ci]? = some (C, T, N)) (hst : As.reverse ++ .ref (ea (zE Z) b) :: rest = st) (d : decode cc pc = .ok (.invokevirtual index, 3)) (h : vc I J Qr) (kk : ∀ (I' : MI) (J' : MJ), Qr I' J' → GW Z nL I' J' (pc + 3) lv rest) (hrc : rm'.cells = 0 := by rfl) (hrs : rm'.slots = 0 := by rfl) (hn : As.length = n := by rfl) (hrm : (rest.map fun v => v.category).sum ≤ 8 := by exact Nat.le_of_ble_eq_true rfl) : GW Z nL I J (pc) lv (st) := by
  intro H locs ls hP hS hl
  subst hst
  refine va_callv (va_runV (As := As) (rest := rest) ⟨cx_hx X, cx_hb X, cx_ml X, cx_own X, cx_ts X⟩ (hM H.size I J Qr h) (cwV n (cx_ts X) hg hw hrc hrs hd (by rw [cx_rm X]; exact hR)) ⟨pre_blind, va_recv (cx_K X) hP hc ((wd_get hi).trans (by rw [co_o hkd])), cx_pre X hP hS⟩ rfl hn hl.1 rfl (lv_room hrm) d (cx_f X)) hS (fun q _ h => cx_free X hS q h) (cx_free X hS) (fun u t H1 locs1 ht hvm hw1 hB hz hk hS1 => ?_)
  exact kk u.1 u.2 hw1 H1 locs1 ls (by rw [← ht]; exact hB) hS1 hl
theorem g_callSV (X : Cx Z cc nL own Ts rm rt) {y : MethodName} {bytes : ByteArray} {maxL index n : Nat} {As st : List Value} {ws ws' : List Cond} {rm' : Room} {ty : Option FieldType} {vc : MI → MJ → (MI → MJ → Prop) → Prop} {Qr : MI → MJ → Prop} (hM : CV (zl Z) y ws rm' (zE Z) As vc) (hg : GoodIn Ts (va_wsS own index y ws)) (hd : y.cls ≠ "java/lang/invoke/MethodHandle" ∧ y.cls ≠ "java/lang/invoke/VarHandle" ∧ (parseMethodDescriptor y.desc).map (fun d => d.parameters.length) = some n) (hw : ws = Cond.code y bytes maxL ty :: ws') (hR : rm'.frames + 1 ≤ rm.frames ∧ 8 + (maxL + 11) + rm'.locals ≤ rm.locals) (hst : As.reverse ++ rest = st) (d : decode cc pc = .ok (.invokestatic index, 3)) (h : vc I J Qr) (kk : ∀ (I' : MI) (J' : MJ), Qr I' J' → GW Z nL I' J' (pc + 3) lv rest) (hrc : rm'.cells = 0 := by rfl) (hrs : rm'.slots = 0 := by rfl) (hn : As.length = n := by rfl) (hrm : (rest.map fun v => v.category).sum ≤ 8 := by exact Nat.le_of_ble_eq_true rfl) : GW Z nL I J (pc) lv (st) := by
  intro H locs ls hP hS hl
  subst hst
  refine va_callv (va_runS (As := As) (rest := rest) ⟨cx_hx X, cx_hb X, cx_ml X, cx_own X, cx_ts X⟩ (hM H.size I J Qr h) (va_cwS n (cx_ts X) hg hw hrc hrs hd (by rw [cx_rm X]; exact hR)) ⟨pre_blind, cx_pre X hP hS⟩ rfl hn hl.1 rfl (lv_room hrm) d (cx_f X)) hS (fun q _ h => cx_free X hS q h) (cx_free X hS) (fun u t H1 locs1 ht hvm hw1 hB hz hk hS1 => ?_)
  exact kk u.1 u.2 hw1 H1 locs1 ls (by rw [← ht]; exact hB) hS1 hl
theorem g_callNV (X : Cx Z cc nL own Ts rm rt) {y : MethodName} {bytes : ByteArray} {maxL index n : Nat} {As st : List Value} {ws ws' : List Cond} {rm' : Room} {ty : Option FieldType} {vc : MI → MJ → (MI → MJ → Prop) → Prop} {Qr : MI → MJ → Prop} {host : String} (hM : CV (zl Z) y ws rm' (zE Z) As vc) (hg : GoodIn Ts ws) (hN : va_Nw (.methodLinkNest own index y host) (zs Z)) (hini : Cond.initialized y.cls ∈ Ts) (hsta : Cond.static y ∈ Ts) (hd : y.cls ≠ "java/lang/invoke/MethodHandle" ∧ y.cls ≠ "java/lang/invoke/VarHandle" ∧ (parseMethodDescriptor y.desc).map (fun d => d.parameters.length) = some n) (hw : ws = Cond.code y bytes maxL ty :: ws') (hR : rm'.frames + 1 ≤ rm.frames ∧ 8 + (maxL + 11) + rm'.locals ≤ rm.locals) (hst : As.reverse ++ rest = st) (d : decode cc pc = .ok (.invokestatic index, 3)) (h : vc I J Qr) (kk : ∀ (I' : MI) (J' : MJ), Qr I' J' → GW Z nL I' J' (pc + 3) lv rest) (hrc : rm'.cells = 0 := by rfl) (hrs : rm'.slots = 0 := by rfl) (hn : As.length = n := by rfl) (hrm : (rest.map fun v => v.category).sum ≤ 8 := by exact Nat.le_of_ble_eq_true rfl) : GW Z nL I J (pc) lv (st) := by
  intro H locs ls hP hS hl
  subst hst
  refine va_callv (va_runSN (As := As) (rest := rest) ⟨cx_hx X, cx_hb X, cx_ml X, cx_own X, cx_ts X⟩ (hM H.size I J Qr h) ⟨va_cnB n (cx_ts X) hg hw hrc hrs hN (cx_ts X _ hini) hd (by rw [cx_rm X]; exact hR), cx_ts X _ hsta, trivial⟩ ⟨pre_blind, cx_pre X hP hS⟩ rfl hn hl.1 rfl (lv_room hrm) d (cx_f X)) hS (fun q _ h => cx_free X hS q h) (cx_free X hS) (fun u t H1 locs1 ht hvm hw1 hB hz hk hS1 => ?_)
  exact kk u.1 u.2 hw1 H1 locs1 ls (by rw [← ht]; exact hB) hS1 hl
theorem g_mmax (X : Cx Z cc nL own Ts rm rt) {index : Nat} {x y : Int32} (h1 : Cond.methodLink own index Lib.Math.max.name ∈ Ts) (h2 : Cond.static Lib.Math.max.name ∈ Ts) (h3 : Cond.initialized "java/lang/Math" ∈ Ts) (h4 : Cond.code Lib.Math.max.name Lib.Math.max.code 2 (some .int) ∈ Ts) (hR : 1 ≤ rm.frames ∧ (rest.map fun v => v.category).sum + 13 ≤ rm.locals) (d : decode cc pc = .ok (.invokestatic index, 3)) (k : GW Z nL I J (pc + 3) lv (.int (if x < y then y else x) :: rest)) : GW Z nL I J (pc) lv (.int y :: .int x :: rest) := fun H locs ls hP hS hl => va_mmax (cx_hx X) (cx_hb X) ((cx_ml X).trans hl.1.symm) (cx_own X) (cx_ts X _ h1) (cx_ts X _ h2) (cx_ts X _ h3) (cx_ts X _ h4) (by rw [cx_rm X]; exact hR.1) (by rw [cx_rm X]; exact hR.2) (cx_f X).1 (cx_f X).2 d (k H locs ls hP hS hl)
theorem g_mmin (X : Cx Z cc nL own Ts rm rt) {index : Nat} {x y : Int32} (h1 : Cond.methodLink own index Lib.Math.min.name ∈ Ts) (h2 : Cond.static Lib.Math.min.name ∈ Ts) (h3 : Cond.initialized "java/lang/Math" ∈ Ts) (h4 : Cond.code Lib.Math.min.name Lib.Math.min.code 2 (some .int) ∈ Ts) (hR : 1 ≤ rm.frames ∧ (rest.map fun v => v.category).sum + 13 ≤ rm.locals) (d : decode cc pc = .ok (.invokestatic index, 3)) (k : GW Z nL I J (pc + 3) lv (.int (if y < x then y else x) :: rest)) : GW Z nL I J (pc) lv (.int y :: .int x :: rest) := fun H locs ls hP hS hl => va_mmin (cx_hx X) (cx_hb X) ((cx_ml X).trans hl.1.symm) (cx_own X) (cx_ts X _ h1) (cx_ts X _ h2) (cx_ts X _ h3) (cx_ts X _ h4) (by rw [cx_rm X]; exact hR.1) (by rw [cx_rm X]; exact hR.2) (cx_f X).1 (cx_f X).2 d (k H locs ls hP hS hl)
theorem g_lmax (X : Cx Z cc nL own Ts rm rt) {index : Nat} {x y : Int64} (h1 : Cond.methodLink own index Lib.MathLoose.max_long.x ∈ Ts) (h2 : Cond.static Lib.MathLoose.max_long.x ∈ Ts) (h3 : Cond.initialized "java/lang/Math" ∈ Ts) (h4 : Cond.code Lib.MathLoose.max_long.x Lib.MathLoose.max_long.code 4 (some .long) ∈ Ts) (hR : 1 ≤ rm.frames ∧ (rest.map fun v => v.category).sum + 15 ≤ rm.locals) (d : decode cc pc = .ok (.invokestatic index, 3)) (k : GW Z nL I J (pc + 3) lv (.long (if y < x then x else y) :: rest)) : GW Z nL I J (pc) lv (.long y :: .long x :: rest) := fun H locs ls hP hS hl => va_mmax_long (cx_hx X) (cx_hb X) ((cx_ml X).trans hl.1.symm) (cx_own X) (cx_ts X _ h1) (cx_ts X _ h2) (cx_ts X _ h3) (cx_ts X _ h4) (by rw [cx_rm X]; exact hR.1) (by rw [cx_rm X]; exact hR.2) (cx_f X).1 (cx_f X).2 d (k H locs ls hP hS hl)
theorem g_copyi (X : Cx Z cc nL own Ts rm rt) {index i j n0 n1 : Nat} {sp dp n : Int32} (h1 : Cond.methodLink own index arraycopyName ∈ Ts) (h2 : Cond.native arraycopyName ∈ Ts) (h3 : Cond.static arraycopyName ∈ Ts) (h4 : Cond.initialized "java/lang/System" ∈ Ts) (hi : i < 109) (hj : j < 109) (hki : kd i = (0, n0)) (hkj : kd j = (0, n1)) (a1 : ¬ sp < 0) (a2 : ¬ dp < 0) (a3 : ¬ n < 0) (a4 : sp.toNatClampNeg + n.toNatClampNeg ≤ n0) (a5 : dp.toNatClampNeg + n.toNatClampNeg ≤ n1) (hR : 1 ≤ rm.frames ∧ (rest.map fun v => v.category).sum + (nativeFrameWords "java/lang/System" "arraycopy" 5 + 11) ≤ rm.locals) (d : decode cc pc = .ok (.invokestatic index, 3)) (k : GW Z nL (va_up I j (va_cpy (I i) (I j) sp.toNatClampNeg dp.toNatClampNeg n.toNatClampNeg)) J (pc + 3) lv (rest)) : GW Z nL I J (pc) lv (.int n :: .int dp :: .ref (ea (zE Z) j) :: .int sp :: .ref (ea (zE Z) i) :: rest) := by
  intro H locs ls hP hS hl
  refine va_copyi (cx_hx X) (cx_hb X) ((cx_ml X).trans hl.1.symm) (cx_own X) (cx_ts X _ h1) (cx_ts X _ h2) (cx_ts X _ h3) (cx_ts X _ h4) (cx_K X) hP (cx_D X) hS i j 0 0 ((wd_get hi).trans (by rw [co_ia hki])) ((wd_get hj).trans (by rw [co_ia hkj])) rfl rfl rfl a1 a2 a3 a4 a5 (fun _ _ => rfl) (by rw [cx_rm X]; exact hR.1) (by rw [cx_rm X]; exact hR.2) d (fun H1 locs1 hP1 hD1 hS1 => ?_)
  rw [← co_ia (E := zE Z) hkj, wd_setI] at hP1
  exact k H1 locs1 ls hP1 hS1 hl
end GWC
/-- a switch's default: the number is none of its cases -/
theorem sw_out {x : Int32} {hi : Nat} (h : ∀ k : Nat, k ≤ hi → ¬ x = nI k) (hh : hi < 2 ^ 31) : x.toInt < 0 ∨ (hi : Int) < x.toInt := by
  by_cases h0 : x.toInt < 0
  · exact Or.inl h0
  · refine Or.inr ?_
    by_cases h1 : (hi : Int) < x.toInt
    · exact h1
    · exfalso
      obtain ⟨j, hj, e⟩ := nI_of (x := x) (fun z => h0 (by have := Int32.lt_iff_toInt_lt.mp z; simpa using this))
      have e2 : x.toInt = (j : Int) := by rw [e]; exact nI_toInt hj
      exact h j (by omega) e
section GWS
variable {Z : RT} {cc : ByteArray} {nL : Nat} {own : String} {Ts : List Cond} {rm : Room} {rt : Option FieldType} {I : MI} {J : MJ} {pc : Nat} {lv : List (Nat × Value)} {rest : List Value}
theorem g_tin (X : Cx Z cc nL own Ts rm rt) {dflt lo hi : Int} {offs : Array Int} {len : Nat} {x v : Int32} {off : Int} {tgt : Nat} (d : decode cc pc = .ok (.tableswitch dflt lo hi offs, len)) (e : x = v) (h1 : ¬ v.toInt < lo) (h2 : ¬ hi < v.toInt) (ho : offs[(v.toInt - lo).toNat]? = some off) (ht : (pc : Int) + off = (tgt : Int)) (k : GW Z nL I J tgt lv rest) : GW Z nL I J pc lv (.int x :: rest) := by
  subst e
  exact fun H locs ls hP hS hl => lv_tableIn (cx_hx X) (cx_hb X) d h1 h2 ho ht (k H locs ls hP hS hl)
theorem g_tout (X : Cx Z cc nL own Ts rm rt) {dflt lo hi : Int} {offs : Array Int} {len : Nat} {x : Int32} {tgt : Nat} (d : decode cc pc = .ok (.tableswitch dflt lo hi offs, len)) (h : x.toInt < lo ∨ hi < x.toInt) (ht : (pc : Int) + dflt = (tgt : Int)) (k : GW Z nL I J tgt lv rest) : GW Z nL I J pc lv (.int x :: rest) :=
  fun H locs ls hP hS hl => lv_tableOut (cx_hx X) (cx_hb X) d h ht (k H locs ls hP hS hl)
end GWS
/-- the objects of which there are several -/
def isSt (a : Nat) : Prop := ∃ k, k < 11 ∧ a = 32 + 5 * k
def isRe (a : Nat) : Prop := a = 26 ∨ a = 28 ∨ a = 30
theorem st_kd : ∀ k, k < 11 → (kd (32 + 5 * k) = (5, 5) ∧ kd (32 + 5 * k + 1) = (0, 4) ∧ kd (32 + 5 * k + 2) = (0, 4) ∧ kd (32 + 5 * k + 3) = (0, 4) ∧ kd (32 + 5 * k + 4) = (0, 7)) ∧ 32 + 5 * k + 4 < 109 := by decide +kernel
theorem isSt.o {a : Nat} (h : isSt a) : kd a = (5, 5) := by obtain ⟨k, hk, rfl⟩ := h; exact (st_kd k hk).1.1
theorem isSt.p {a : Nat} (h : isSt a) : kd (a + 1) = (0, 4) := by obtain ⟨k, hk, rfl⟩ := h; exact (st_kd k hk).1.2.1
theorem isSt.h {a : Nat} (h : isSt a) : kd (a + 2) = (0, 4) := by obtain ⟨k, hk, rfl⟩ := h; exact (st_kd k hk).1.2.2.1
theorem isSt.w {a : Nat} (h : isSt a) : kd (a + 3) = (0, 4) := by obtain ⟨k, hk, rfl⟩ := h; exact (st_kd k hk).1.2.2.2.1
theorem isSt.s {a : Nat} (h : isSt a) : kd (a + 4) = (0, 7) := by obtain ⟨k, hk, rfl⟩ := h; exact (st_kd k hk).1.2.2.2.2
theorem isSt.lt {a : Nat} (h : isSt a) : a + 4 < 109 := by obtain ⟨k, hk, rfl⟩ := h; omega
theorem isSt.lt0 {a : Nat} (h : isSt a) : a < 109 := by have := h.lt; omega
theorem isSt.lt1 {a : Nat} (h : isSt a) : a + 1 < 109 := by have := h.lt; omega
theorem isSt.lt2 {a : Nat} (h : isSt a) : a + 2 < 109 := by have := h.lt; omega
theorem isSt.lt3 {a : Nat} (h : isSt a) : a + 3 < 109 := by have := h.lt; omega
theorem isSt_now : isSt 32 := ⟨0, by decide, rfl⟩
theorem isSt_past {x : Int32} (h : vp_in x 8) : isSt (37 + 5 * x.toNatClampNeg) := ⟨x.toNatClampNeg + 1, by have : x.toNatClampNeg < 8 := by { apply Nat.lt_of_not_le; intro z; exact h (Or.inr z) }; omega, by omega⟩
theorem isSt_kept {x : Int32} (h : vp_in x 2) : isSt (77 + 5 * x.toNatClampNeg) := ⟨x.toNatClampNeg + 9, by have : x.toNatClampNeg < 2 := by { apply Nat.lt_of_not_le; intro z; exact h (Or.inr z) }; omega, by omega⟩
theorem isRe.o {a : Nat} (h : isRe a) : kd a = (5, 3) := by rcases h with rfl | rfl | rfl <;> rfl
theorem isRe.l {a : Nat} (h : isRe a) : kd (a + 1) = (1, 700) := by rcases h with rfl | rfl | rfl <;> rfl
theorem isRe.lt0 {a : Nat} (h : isRe a) : a < 109 := by rcases h with rfl | rfl | rfl <;> decide
theorem isRe.lt1 {a : Nat} (h : isRe a) : a + 1 < 109 := by rcases h with rfl | rfl | rfl <;> decide
