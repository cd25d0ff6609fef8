/-! ===== constructors: a world that grows at its end ===== -/
def NS (U : State) : Prop := va_AO "SnowCourse$Standing" U ∧ va_Nw (.methodLinkNest RX10 9 yX6_init "SnowCourse") U ∧ va_Nw (.methodLinkNest RX10 18 yX1_init "SnowCourse") U ∧ va_Nw (.methodLinkNest RX10 32 yX8_init "SnowCourse") U ∧ va_Nw (.methodLinkNest RX10 39 yX4_init "SnowCourse") U ∧ va_Nw (.methodLinkNest RX10 46 yX9_init "SnowCourse") U ∧ va_Nw (.methodLinkNest RX10 53 yX5_init "SnowCourse") U ∧ va_Nw (.methodLinkNest RX0 9 yX7_init "SnowCourse") U
theorem NS.warm {s U : State} (h : NS s) (hW : s.WarmedH U.vm) : NS U := by
  obtain ⟨h1, h2, h3, h4, h5, h6, h7, h8⟩ := h
  exact ⟨va_AO.moved hW.alike h1, va_Nw.warmM hW h2, va_Nw.warmM hW h3, va_Nw.warmM hW h4, va_Nw.warmM hW h5, va_Nw.warmM hW h6, va_Nw.warmM hW h7, va_Nw.warmM hW h8⟩
theorem NS.same {u U : State} (hv : U.vm = u.vm) (h : NS u) : NS U := by
  obtain ⟨h1, h2, h3, h4, h5, h6, h7, h8⟩ := h
  have hA : u.vm.Alike U.vm := by rw [hv]; exact Vm.Alike.refl _
  exact ⟨va_AO.moved hA h1, va_tabs rfl hv.symm h2, va_tabs rfl hv.symm h3, va_tabs rfl hv.symm h4, va_tabs rfl hv.symm h5, va_tabs rfl hv.symm h6, va_tabs rfl hv.symm h7, va_tabs rfl hv.symm h8⟩
def NW (Z : RT) (nL ce sl : Nat) (ws : va_W) (pc : Nat) (lv : List (Nat × Value)) (st : List Value) : Prop :=
  ∀ (H : Heap) (locs : List Loc) (ls : Array Slot), va_P (eD (zE Z)) vwCl ws H → va_D (zA Z) ws → va_S (zA Z) (zs Z).heap H locs → lv_has ls nL lv → W (zp Z) (zl Z) (ze Z) (zR Z) (zs Z) (zm Z) (za Z) (zb Z) (zM Z) (zc Z) H locs ce sl (zQ Z) (F0 (zm Z) pc ls st)
abbrev Nx (Z : RT) (cc : ByteArray) (nL : Nat) (own : String) (Ts : List Cond) (rm : Room) (rt : Option FieldType) : Prop :=
  (zp Z).tables.exec = Jvm.exec ∧ (zc Z).code = cc ∧ (zc Z).maxLocals = nL ∧ (zs Z).vm.findClass own = some (zm Z).cls ∧ (∀ w ∈ Ts, w.before (za Z) (zs Z) = true) ∧ (zM Z).locks = false ∧ (zM Z).sig.returnType = rt ∧ zR Z = rm ∧ va_K (eD (zE Z)) vwCl (tysE (zE Z)) (zs Z) ∧ (∀ q, (zs Z).heap.size ≤ q → zA Z q) ∧ (zM Z).name = "<init>" ∧ NS (zs Z)
section NWR
variable {Z : RT} {cc : ByteArray} {nL : Nat} {own : String} {Ts : List Cond} {rm : Room} {rt : Option FieldType} {ws wc : va_W} {ce sl pc : Nat} {lv : List (Nat × Value)} {rest : List Value}
theorem nx_own (X : Nx Z cc nL own Ts rm rt) : (zs Z).vm.findClass own = some (zm Z).cls := X.2.2.2.1
theorem nx_ts (X : Nx Z cc nL own Ts rm rt) : ∀ w ∈ Ts, w.before (za Z) (zs Z) = true := X.2.2.2.2.1
theorem nx_lk (X : Nx Z cc nL own Ts rm rt) : (zM Z).locks = false := X.2.2.2.2.2.1
theorem nx_rt (X : Nx Z cc nL own Ts rm rt) : (zM Z).sig.returnType = rt := X.2.2.2.2.2.2.1
theorem nx_rm (X : Nx Z cc nL own Ts rm rt) : zR Z = rm := X.2.2.2.2.2.2.2.1
theorem nx_K (X : Nx Z cc nL own Ts rm rt) : va_K (eD (zE Z)) vwCl (tysE (zE Z)) (zs Z) := X.2.2.2.2.2.2.2.2.1
theorem nx_up (X : Nx Z cc nL own Ts rm rt) : ∀ q, (zs Z).heap.size ≤ q → zA Z q := X.2.2.2.2.2.2.2.2.2.1
theorem nx_in (X : Nx Z cc nL own Ts rm rt) : (zM Z).name = "<init>" := X.2.2.2.2.2.2.2.2.2.2.1
theorem nx_NS (X : Nx Z cc nL own Ts rm rt) : NS (zs Z) := X.2.2.2.2.2.2.2.2.2.2.2
theorem NW.eq {ws' : va_W} (e : ws = ws') (k : NW Z nL ce sl ws' pc lv rest) : NW Z nL ce sl ws pc lv rest := e ▸ k
theorem n_iconst (X : Nx Z cc nL own Ts rm rt) {n : Int} {v : Int32} (d : decode cc pc = .ok (.iconst n, 1)) (hv : Int32.ofInt n = v) (k : NW Z nL (ce) (sl) (ws) (pc + 1) lv (.int v :: rest)) : NW Z nL (ce) (sl) (ws) (pc) lv (rest) := fun H locs ls hP hD hS hl => lv_iconst X.1 X.2.1 d hv (k H locs ls hP hD hS hl)
theorem n_bipush (X : Nx Z cc nL own Ts rm rt) {n : Int} {v : Int32} (d : decode cc pc = .ok (.bipush n, 2)) (hv : (Int8.ofInt n).toInt32 = v) (k : NW Z nL (ce) (sl) (ws) (pc + 2) lv (.int v :: rest)) : NW Z nL (ce) (sl) (ws) (pc) lv (rest) := fun H locs ls hP hD hS hl => lv_bipush X.1 X.2.1 d hv (k H locs ls hP hD hS hl)
theorem n_sipush (X : Nx Z cc nL own Ts rm rt) {n : Int} {v : Int32} (d : decode cc pc = .ok (.sipush n, 3)) (hv : (Int16.ofInt n).toInt32 = v) (k : NW Z nL (ce) (sl) (ws) (pc + 3) lv (.int v :: rest)) : NW Z nL (ce) (sl) (ws) (pc) lv (rest) := fun H locs ls hP hD hS hl => lv_sipush X.1 X.2.1 d hv (k H locs ls hP hD hS hl)
theorem n_iload_n (X : Nx Z cc nL own Ts rm rt) {f : Fin 4} {i : Nat} {x : Int32} (d : decode cc pc = .ok (.iload_n f, 1)) (hi : (f : Nat) = i) (q : Nat) (hq : lv[q]? = some (i, .int x)) (k : NW Z nL (ce) (sl) (ws) (pc + 1) lv (.int x :: rest)) : NW Z nL (ce) (sl) (ws) (pc) lv (rest) := fun H locs ls hP hD hS hl => lv_iload_n X.1 X.2.1 d hi (lv_at hl q hq) (k H locs ls hP hD hS hl)
theorem n_aload_n (X : Nx Z cc nL own Ts rm rt) {f : Fin 4} {i x : Nat} (d : decode cc pc = .ok (.aload_n f, 1)) (hi : (f : Nat) = i) (q : Nat) (hq : lv[q]? = some (i, .ref x)) (k : NW Z nL (ce) (sl) (ws) (pc + 1) lv (.ref x :: rest)) : NW Z nL (ce) (sl) (ws) (pc) lv (rest) := fun H locs ls hP hD hS hl => lv_aload_n X.1 X.2.1 d hi (lv_at hl q hq) (k H locs ls hP hD hS hl)
theorem n_dup (X : Nx Z cc nL own Ts rm rt) {v : Value} (d : decode cc pc = .ok (.dup, 1)) (hv : v.category = 1) (k : NW Z nL (ce) (sl) (ws) (pc + 1) lv (v :: v :: rest)) : NW Z nL (ce) (sl) (ws) (pc) lv (v :: rest) := fun H locs ls hP hD hS hl => lv_dup X.1 X.2.1 d hv (k H locs ls hP hD hS hl)
theorem n_istore_n (X : Nx Z cc nL own Ts rm rt) {f : Fin 4} {i : Nat} {x : Int32} {lv' : List (Nat × Value)} (d : decode cc pc = .ok (.istore_n f, 1)) (hi : (f : Nat) = i) (hn : i < nL) (e : (i, Value.int x) :: lv.filter (fun q => !(q.1 == i) && !(q.1 + 1 == i && q.2.category == 2)) = lv') (k : NW Z nL (ce) (sl) (ws) (pc + 1) lv' (rest)) : NW Z nL (ce) (sl) (ws) (pc) lv (.int x :: rest) := fun H locs ls hP hD hS hl => lv_istore_n X.1 X.2.1 d hi hl hn e (fun ls hl => k H locs ls hP hD hS hl)
theorem n_astore_n (X : Nx Z cc nL own Ts rm rt) {f : Fin 4} {i : Nat} {x : Nat} {lv' : List (Nat × Value)} (d : decode cc pc = .ok (.astore_n f, 1)) (hi : (f : Nat) = i) (hn : i < nL) (e : (i, Value.ref x) :: lv.filter (fun q => !(q.1 == i) && !(q.1 + 1 == i && q.2.category == 2)) = lv') (k : NW Z nL (ce) (sl) (ws) (pc + 1) lv' (rest)) : NW Z nL (ce) (sl) (ws) (pc) lv (.ref x :: rest) := fun H locs ls hP hD hS hl => lv_astore_n X.1 X.2.1 d hi hl hn e (fun ls hl => k H locs ls hP hD hS hl)
theorem n_iinc (X : Nx Z cc nL own Ts rm rt) {i q : Nat} {n : Int} {x v : Int32} {lv' : List (Nat × Value)} (d : decode cc pc = .ok (.iinc i n, 3)) (hq : lv[q]? = some (i, .int x)) (hv : x + Int32.ofInt n = v) (hn : i < nL) (e : (i, Value.int v) :: lv.filter (fun q => !(q.1 == i) && !(q.1 + 1 == i && q.2.category == 2)) = lv') (k : NW Z nL (ce) (sl) (ws) (pc + 3) lv' (rest)) : NW Z nL (ce) (sl) (ws) (pc) lv (rest) := fun H locs ls hP hD hS hl => lv_iinc X.1 X.2.1 d hl hq hv hn e (fun ls hl => k H locs ls hP hD hS hl)
theorem n_icmp_ge (X : Nx Z cc nL own Ts rm rt) {x y : Int32} {off : Int} {tgt : Nat} (d : decode cc pc = .ok (.if_icmp .ge off, 3)) (ht : (pc : Int) + off = (tgt : Int)) (kt : y ≤ x → NW Z nL (ce) (sl) (ws) (tgt) lv (rest)) (kf : ¬ y ≤ x → NW Z nL (ce) (sl) (ws) (pc + 3) lv (rest)) : NW Z nL (ce) (sl) (ws) (pc) lv (.int y :: .int x :: rest) := fun H locs ls hP hD hS hl => lv_icmp_ge X.1 X.2.1 d ht (fun c => kt c H locs ls hP hD hS hl) (fun c => kf c H locs ls hP hD hS hl)
theorem n_goto (X : Nx Z cc nL own Ts rm rt) {off : Int} {tgt : Nat} (d : decode cc pc = .ok (.goto off, 3)) (ht : (pc : Int) + off = (tgt : Int)) (k : NW Z nL (ce) (sl) (ws) (tgt) lv (rest)) : NW Z nL (ce) (sl) (ws) (pc) lv (rest) := fun H locs ls hP hD hS hl => lv_goto X.1 X.2.1 d ht (k H locs ls hP hD hS hl)
theorem n_obj (X : Nx Z cc nL own Ts rm rt) {idx h0 : Nat} (h1 : Cond.methodLink own idx objectInit ∈ Ts) (h2 : Cond.instanceMethod objectInit ∈ Ts) (h3 : Cond.code objectInit ⟨#[0xb1]⟩ 1 none ∈ Ts) (hR : 1 ≤ rm.frames ∧ 12 ≤ rm.locals) (d : decode cc pc = .ok (.invokespecial idx, 3)) (k : NW Z nL ce sl ws (pc + 3) lv []) : NW Z nL ce sl ws pc lv [.ref h0] := by
  intro H locs ls hP hD hS hl
  refine W.objInit X.1 X.2.1 (nx_own X) (nx_ts X _ h1) (nx_ts X _ h2) (nx_ts X _ h3) rfl (by rw [X.2.2.1]; exact hl.1) rfl d (by rw [nx_rm X]; exact hR.1) (by rw [nx_rm X]; exact hR.2) ?_
  exact k H locs ls hP hD hS hl
theorem nx_cy (X : Nx Z cc nL own Ts rm rt) {cA : ClassId} {ty : FieldType} (k : Nat) {cy : ClassId} (hk : (tysE (zE Z))[k]? = some (cy, ty)) (h : va_K (eD (zE Z)) vwCl (tysE (zE Z) ++ [(cA, ty)]) (zs Z)) : cA = cy := by
  have h1 := ((nx_K X).2 k _ hk).2
  have h2 := (h.2 5 (cA, ty) (by show (tysE (zE Z) ++ [(cA, ty)])[5]? = _; rfl)).2
  cases ty with
  | object C =>
    obtain ⟨_, _, _, _, _, e1⟩ := h1
    obtain ⟨_, _, _, _, _, e2⟩ := h2
    exact Option.some.inj (e2.symm.trans e1)
  | _ => exact Option.some.inj (Eq.trans (Eq.symm h2) h1)
theorem n_newI (X : Nx Z cc nL own Ts rm rt) {n : Int32} {N : Nat} (h1 : Cond.arrayClass .int ∈ Ts) (hn : ¬ n < 0) (hN : n.toNatClampNeg = N) (hby : N * componentBytes .int ≤ 536870912) (hc : ce + 1 ≤ rm.cells) (hs : sl + N ≤ rm.slots) (d : decode cc pc = .ok (.newarray .int, 2)) (k : ∀ q : Nat, NW Z nL (ce + 1) (sl + N) (ws ++ [(q, .inl (ecy (zE Z) 0, N, .inl (fun _ => 0)))]) (pc + 2) lv (.ref q :: rest)) : NW Z nL ce sl ws pc lv (.int n :: rest) := by
  intro H locs ls hP hD hS hl
  refine va_newa (atype := .int) (a0 := (N, .inl (fun _ => 0))) X.1 X.2.1 (nx_ts X _ h1) rfl (nx_K X) hP hD hS (nx_up X) (fun _ => rfl) hn hN hby (by rw [nx_rm X]; exact hc) (by rw [nx_rm X]; exact hs) d (fun q cA H1 hK1 hP1 hD1 hS1 => ?_)
  obtain rfl := nx_cy X 0 rfl hK1
  exact k q H1 locs ls hP1 hD1 hS1 hl
theorem n_newJ (X : Nx Z cc nL own Ts rm rt) {n : Int32} {N : Nat} (h1 : Cond.arrayClass .long ∈ Ts) (hn : ¬ n < 0) (hN : n.toNatClampNeg = N) (hby : N * componentBytes .long ≤ 536870912) (hc : ce + 1 ≤ rm.cells) (hs : sl + N ≤ rm.slots) (d : decode cc pc = .ok (.newarray .long, 2)) (k : ∀ q : Nat, NW Z nL (ce + 1) (sl + N) (ws ++ [(q, .inl (ecy (zE Z) 1, N, .inr (.inl (fun _ => 0))))]) (pc + 2) lv (.ref q :: rest)) : NW Z nL ce sl ws pc lv (.int n :: rest) := by
  intro H locs ls hP hD hS hl
  refine va_newa (atype := .long) (a0 := (N, .inr (.inl (fun _ => 0)))) X.1 X.2.1 (nx_ts X _ h1) rfl (nx_K X) hP hD hS (nx_up X) (fun _ => rfl) hn hN hby (by rw [nx_rm X]; exact hc) (by rw [nx_rm X]; exact hs) d (fun q cA H1 hK1 hP1 hD1 hS1 => ?_)
  obtain rfl := nx_cy X 1 rfl hK1
  exact k q H1 locs ls hP1 hD1 hS1 hl
theorem n_newC (X : Nx Z cc nL own Ts rm rt) {n : Int32} {N : Nat} (h1 : Cond.arrayClass .char ∈ Ts) (hn : ¬ n < 0) (hN : n.toNatClampNeg = N) (hby : N * componentBytes .char ≤ 536870912) (hc : ce + 1 ≤ rm.cells) (hs : sl + N ≤ rm.slots) (d : decode cc pc = .ok (.newarray .char, 2)) (k : ∀ q : Nat, NW Z nL (ce + 1) (sl + N) (ws ++ [(q, .inl (ecy (zE Z) 2, N, .inl (fun _ => 0)))]) (pc + 2) lv (.ref q :: rest)) : NW Z nL ce sl ws pc lv (.int n :: rest) := by
  intro H locs ls hP hD hS hl
  refine va_newa (atype := .char) (a0 := (N, .inl (fun _ => 0))) X.1 X.2.1 (nx_ts X _ h1) rfl (nx_K X) hP hD hS (nx_up X) (fun _ => rfl) hn hN hby (by rw [nx_rm X]; exact hc) (by rw [nx_rm X]; exact hs) d (fun q cA H1 hK1 hP1 hD1 hS1 => ?_)
  obtain rfl := nx_cy X 2 rfl hK1
  exact k q H1 locs ls hP1 hD1 hS1 hl
theorem n_newZ (X : Nx Z cc nL own Ts rm rt) {n : Int32} {N : Nat} (h1 : Cond.arrayClass .boolean ∈ Ts) (hn : ¬ n < 0) (hN : n.toNatClampNeg = N) (hby : N * componentBytes .boolean ≤ 536870912) (hc : ce + 1 ≤ rm.cells) (hs : sl + N ≤ rm.slots) (d : decode cc pc = .ok (.newarray .boolean, 2)) (k : ∀ q : Nat, NW Z nL (ce + 1) (sl + N) (ws ++ [(q, .inl (ecy (zE Z) 3, N, .inl (fun _ => 0)))]) (pc + 2) lv (.ref q :: rest)) : NW Z nL ce sl ws pc lv (.int n :: rest) := by
  intro H locs ls hP hD hS hl
  refine va_newa (atype := .boolean) (a0 := (N, .inl (fun _ => 0))) X.1 X.2.1 (nx_ts X _ h1) rfl (nx_K X) hP hD hS (nx_up X) (fun _ => rfl) hn hN hby (by rw [nx_rm X]; exact hc) (by rw [nx_rm X]; exact hs) d (fun q cA H1 hK1 hP1 hD1 hS1 => ?_)
  obtain rfl := nx_cy X 3 rfl hK1
  exact k q H1 locs ls hP1 hD1 hS1 hl
theorem n_newQ (X : Nx Z cc nL own Ts rm rt) {n : Int32} {N index : Nat} (h1 : Cond.classLink own index "SnowCourse$Standing" ∈ Ts) (hn : ¬ n < 0) (hN : n.toNatClampNeg = N) (hby : N * 4 ≤ 536870912) (hc : ce + 1 ≤ rm.cells) (hs : sl + N ≤ rm.slots) (d : decode cc pc = .ok (.anewarray index, 3)) (k : ∀ q : Nat, NW Z nL (ce + 1) (sl + N) (ws ++ [(q, .inl (ecy (zE Z) 4, N, .inr (.inr (.inr (.inr (fun _ => none))))))]) (pc + 3) lv (.ref q :: rest)) : NW Z nL ce sl ws pc lv (.int n :: rest) := by
  intro H locs ls hP hD hS hl
  refine va_newq X.1 X.2.1 (nx_own X) (nx_ts X _ h1) (nx_NS X).1 (nx_K X) hP hD hS (nx_up X) hn hN hby (by rw [nx_rm X]; exact hc) (by rw [nx_rm X]; exact hs) d (fun q cA H1 hK1 hP1 hD1 hS1 => ?_)
  obtain rfl := nx_cy X 4 rfl hK1
  exact k q H1 locs ls hP1 hD1 hS1 hl
theorem n_new (X : Nx Z cc nL own Ts rm rt) {C : String} {T : u_T} {N ci index : Nat} {ty : Nat → FieldType} {fs : List Value} (hin : ∀ w ∈ u_ws C T N, w ∈ Ts) (hty : ∀ k, k < N → parseFieldDescriptor (T k).2.2.1 = some (ty k)) (h1 : Cond.classLink own index C ∈ Ts) (h2 : Cond.instantiable C N ∈ Ts) (h3 : Cond.initialized C ∈ Ts) (hc : vwCl[ci]? = some (C, T, N)) (hfs : ∀ j, j < N → defaultValue (ty j) = vp_V fs j) (hce : ce + 1 ≤ rm.cells) (hsl : sl + N ≤ rm.slots) (d : decode cc pc = .ok (.new index, 3)) (k : ∀ q : Nat, NW Z nL (ce + 1) (sl + N) (ws ++ [(q, .inr (ci, fs))]) (pc + 3) lv (.ref q :: rest)) : NW Z nL ce sl ws pc lv rest := by
  intro H locs ls hP hD hS hl
  exact va_new X.1 X.2.1 (nx_ts X) hin ty hty (nx_own X) (nx_ts X _ h1) (nx_ts X _ h2) (nx_ts X _ h3) (nx_K X) hP hD hS (nx_up X) hc hfs (by rw [nx_rm X]; exact hce) (by rw [nx_rm X]; exact hsl) d (fun q H1 hP1 hD1 hS1 => k q H1 locs ls hP1 hD1 hS1 hl)
theorem ap_get {α : Type} (a : List α) (x : α) (b : List α) : (a ++ (x :: b))[a.length]? = some x := by simp
theorem ap_get2 {α : Type} (a1 a2 : List α) (x y : α) (b : List α) : (a1 ++ (x :: (a2 ++ (y :: b))))[a1.length + (a2.length + 1)]? = some y := by simp
theorem ap_set {α : Type} (a : List α) (x y : α) (b : List α) : (a ++ (x :: b)).set a.length y = a ++ (y :: b) := by simp [List.set_append]
theorem n_putF (X : Nx Z cc nL own Ts rm rt) {C : String} {T : u_T} {N ci index k h0 q : Nat} {R : va_W} {fs : List Value} {ty0 : Nat → FieldType} {ty : FieldType} (hin : ∀ w ∈ u_ws C T N, w ∈ Ts) (hty : ∀ k, k < N → parseFieldDescriptor (T k).2.2.1 = some (ty0 k)) (hnm : ∀ a, a < N → ∀ b, b < N → a ≠ b → (T a).2.1 ≠ (T b).2.1) (hc : vwCl[ci]? = some (C, T, N)) (hk : k < N) (hlink : Cond.fieldLink own index own (T k).2.1 (T k).2.2.1 ∈ Ts) (hfin : (T k).2.2.2 = true) (hdecl : (T k).1 = own) (hd : parseFieldDescriptor (T k).2.2.1 = some ty) (hn : narrow ty (.ref q) = .ref q) (hfit : fits ty (.ref q) = true) (hl0 : k < fs.length) (d : decode cc pc = .ok (.putfield index, 3)) (kk : NW Z nL ce sl (wc ++ ((h0, .inr (ci, fs.set k (.ref q))) :: R)) (pc + 3) lv rest) : NW Z nL ce sl (wc ++ ((h0, .inr (ci, fs)) :: R)) pc lv (.ref q :: .ref h0 :: rest) := by
  intro H locs ls hP hD hS hl
  refine va_putF X.1 X.2.1 (nx_ts X) hin ty0 hty hnm (nx_own X) (nx_K X) hP hD hS wc.length (ap_get wc _ R) hc k hk (nx_ts X _ hlink) (by rw [hdecl]; exact fun _ h => h) hfin (nx_in X) hdecl hd hn hfit hl0 d (fun H1 locs1 hP1 hD1 hS1 => ?_)
  rw [ap_set] at hP1 hD1
  exact kk H1 locs1 ls hP1 hD1 hS1 hl
theorem n_getr (X : Nx Z cc nL own Ts rm rt) {C : String} {T : u_T} {N ci index k h0 q : Nat} {R : va_W} {fs : List Value} (hin : ∀ w ∈ u_ws C T N, w ∈ Ts) (hc : vwCl[ci]? = some (C, T, N)) (hk : k < N) (hlink : Cond.fieldLink own index own (T k).2.1 (T k).2.2.1 ∈ Ts) (hdecl : (T k).1 = own) (hv : fs[k]? = some (.ref q)) (d : decode cc pc = .ok (.getfield index, 3)) (kk : NW Z nL ce sl (wc ++ ((h0, .inr (ci, fs)) :: R)) (pc + 3) lv (.ref q :: rest)) : NW Z nL ce sl (wc ++ ((h0, .inr (ci, fs)) :: R)) pc lv (.ref h0 :: rest) :=
  fun H locs ls hP hD hS hl => va_get X.1 X.2.1 (nx_ts X) hin (nx_own X) (nx_K X) hP wc.length (ap_get wc _ R) hc k hk (nx_ts X _ hlink) (by rw [hdecl]; exact fun _ h => h) hv d (kk H locs ls hP hD hS hl)
theorem n_astQ (X : Nx Z cc nL own Ts rm rt) {n a v : Nat} {a1 a2 : va_W} {fs : List Value} {f : Nat → Option Nat} {i : Int32} {P1 : va_W} (hx : vp_in i n) (d : decode cc pc = .ok (.aastore, 1)) (kk : NW Z nL ce sl (a1 ++ ((a, .inl (ecy (zE Z) 4, n, .inr (.inr (.inr (.inr (va_up f i.toNatClampNeg (some v))))))) :: (a2 ++ ((v, .inr (5, fs)) :: P1)))) (pc + 1) lv rest) : NW Z nL ce sl (a1 ++ ((a, .inl (ecy (zE Z) 4, n, .inr (.inr (.inr (.inr f))))) :: (a2 ++ ((v, .inr (5, fs)) :: P1)))) pc lv (.ref v :: .int i :: .ref a :: rest) := by
  intro H locs ls hP hD hS hl
  refine va_astq (r := (RX7, TX7, 5)) X.1 X.2.1 (nx_K X) hP hD hS a1.length 4 (a1.length + (a2.length + 1)) 5 (ap_get a1 _ _) rfl (ap_get2 a1 a2 _ _ _) rfl hx d (fun H1 locs1 hP1 hD1 hS1 => ?_)
  rw [ap_set] at hP1 hD1
  exact kk H1 locs1 ls hP1 hD1 hS1 hl
/-- a constructor's contract: the object is the newest cell; what stands ahead of it stays -/
def PreN (E : ET) (sz : Nat) (ws : va_W) (U : State) : Prop := U.heap.size = sz ∧ va_P (eD E) vwCl ws U.heap ∧ va_K (eD E) vwCl (tysE E) U ∧ va_D (fun _ => True) ws ∧ NS U
theorem preN_blind {As : List Value} {E : ET} {sz : Nat} {ws : va_W} : FrameBlind (va_Pc As (PreN E sz ws)) := fun _ U g mk q => ⟨q.1, q.2.1, q.2.2.1, va_K.moved (u := U) (U := U.calling g mk _) (Vm.Alike.refl U.vm) q.2.2.2.1, q.2.2.2.2.1, NS.same rfl q.2.2.2.2.2⟩
def BN (E : ET) (A : Nat → Prop) (wc : va_W) (post : List Nat → va_W) (u : List Nat) (t : State) : Prop := va_P (eD E) vwCl (wc ++ post u) t.heap ∧ va_D A (wc ++ post u)
def CN (l : Launch) (y : MethodName) (ws : List Cond) (rm : Room) (E : ET) (e0 : va_E) (n mc ms : Nat) (post : Nat → List Nat → va_W) : Prop :=
  ∀ (wc : va_W) (h0 sz : Nat), Met l y ws rm (va_Pc [.ref h0] (PreN E sz (wc ++ [(h0, e0)]))) (va_Qv (fun u : List Nat => u.length = n) (BN E (va_A (wc ++ [(h0, e0)]) sz) wc (post h0)) (va_A (wc ++ [(h0, e0)]) sz)) mc ms (va_A (wc ++ [(h0, e0)]) sz)
abbrev RN (Z : RT) (wc : va_W) (n mc ms : Nat) (post : List Nat → va_W) : Prop := zQ Z = MQ (zb Z) (va_Qv (fun u : List Nat => u.length = n) (BN (zE Z) (zA Z) wc post) (zA Z)) (za Z) (zs Z) mc ms (zA Z)
theorem CN.of {l : Launch} {y : MethodName} {Ws ws' : List Cond} {rm : Room} {E : ET} {e0 : va_E} {n mc ms : Nat} {post : Nat → List Nat → va_W} {cc : ByteArray} {maxL : Nat} {own : String} (hy : plainName y.cls = true) (hown : y.cls = own) (hnm : y.name = "<init>") (hw : Ws = Cond.code y cc maxL none :: ws') (hla : 1 ≤ maxL)
    (body : ∀ (Z : RT) (wc : va_W) (h0 : Nat), zE Z = E → zl Z = l → Nx Z cc maxL own Ws rm none → RN Z wc n mc ms (post h0) → NW Z maxL 0 0 (wc ++ [(h0, e0)]) 0 [(0, .ref h0)] []) : CN l y Ws rm E e0 n mc ms post := by
  intro wc h0 sz
  refine Met.ofW (cc := cc) (maxL := maxL) (ret := none) hy hw ?_
  intro p e s m args below meth c s₁ B hml hv
  obtain ⟨rfl, hsz, hP, hK, hD, hN⟩ := hv
  subst hsz
  have hl := lv_entry [.ref h0] (n := maxL) hla
  rw [lg_entry_eq]
  have X : Nx ((p, l, e, (headSpec Ws rm).room, s), (m, [Value.ref h0].toArray, below, meth, c), (MQ below (va_Qv (fun u : List Nat => u.length = n) (BN E (va_A (wc ++ [(h0, e0)]) s.heap.size) wc (post h0)) (va_A (wc ++ [(h0, e0)]) s.heap.size)) [Value.ref h0].toArray s mc ms (va_A (wc ++ [(h0, e0)]) s.heap.size), va_A (wc ++ [(h0, e0)]) s.heap.size, E, 0, 0)) cc maxL own Ws rm none :=
    ⟨B.exec, B.bytes, hml, by rw [← hown]; exact findClass_of_methodNamed B.named, atoms_spec (ws := Ws) B.pre, B.notSynchronized, B.returns, rfl, hK, fun q h => Or.inr h, (name_of_methodNamed B.named B.method).1.trans hnm, hN⟩
  exact body _ wc h0 rfl rfl X rfl s.heap [] _ hP hD.self va_S.rf hl
theorem n_vret (X : Nx Z cc nL own Ts rm none) {n mc ms : Nat} {post : List Nat → va_W} (R : RN Z wc n mc ms post) (u : List Nat) (hu : u.length = n) (hws : ws = wc ++ post u) (d : decode cc pc = .ok (.return_, 1)) : NW Z nL mc ms ws pc lv [] := by
  intro H locs ls hP hD hS hl
  subst hws
  rw [show zQ Z = _ from R]
  exact W.vret X.1 X.2.1 (nx_rt X) (fun t ht hW => ⟨⟨u, rfl, hu, by rw [ht]; exact hP, hD⟩, hS.F ht⟩) hS.2.2 d (nx_lk X)
theorem nx_free (X : Nx Z cc nL own Ts rm rt) {w2 : va_W} {H : Heap} {locs : List Loc} (hD : va_D (zA Z) w2) (hS : va_S (zA Z) (zs Z).heap H locs) : ∀ q, va_A w2 H.size q → zA Z q := fun q h => h.elim (fun ⟨k, e, h⟩ => hD.2 k (q, e) h) (fun h => nx_up X q (Nat.le_trans hS.1 h))
theorem nx_pre (X : Nx Z cc nL own Ts rm rt) {w2 : va_W} {H : Heap} (hP : va_P (eD (zE Z)) vwCl w2 H) (hD : va_D (zA Z) w2) {As : List Value} : ∀ U : State, U.heap = H → (zs Z).WarmedH U.vm → va_Pc As (PreN (zE Z) H.size w2) As.toArray U := fun U hU hW =>
  ⟨rfl, by rw [hU], by rw [hU]; exact hP, va_K.moved hW.alike (nx_K X), hD.weaken (fun _ _ _ _ => trivial), (nx_NS X).warm hW⟩
theorem n_initN (X : Nx Z cc nL own Ts rm rt) {y : MethodName} {bytes : ByteArray} {maxL index n mc ms q : Nat} {e0 : va_E} {Ws ws' : List Cond} {rm' : Room} {post : Nat → List Nat → va_W} (hM : CN (zl Z) y Ws rm' (zE Z) e0 n mc ms post) (hg : GoodIn Ts Ws) (hN : va_Nw (.methodLinkNest own index y "SnowCourse") (zs Z)) (hini : Cond.initialized y.cls ∈ Ts) (hins : Cond.instanceMethod y ∈ Ts) (hd : y.cls ≠ "java/lang/invoke/MethodHandle" ∧ y.cls ≠ "java/lang/invoke/VarHandle" ∧ (parseMethodDescriptor y.desc).map (fun d => d.parameters.length) = some 0) (hnm : y.name = "<init>") (hw : Ws = Cond.code y bytes maxL none :: ws') (hrc : rm'.cells = mc) (hrs : rm'.slots = ms) (hR : rm'.frames + 1 ≤ rm.frames ∧ 8 + (maxL + 11) + rm'.locals ≤ rm.locals) (hf : ce + mc ≤ rm.cells ∧ sl + ms ≤ rm.slots) (d : decode cc pc = .ok (.invokespecial index, 3)) (kk : ∀ u : List Nat, u.length = n → NW Z nL (ce + mc) (sl + ms) (ws ++ post q u) (pc + 3) lv rest) (hrm : (rest.map fun v => v.category).sum ≤ 8 := by exact Nat.le_of_ble_eq_true rfl) : NW Z nL ce sl (ws ++ [(q, e0)]) pc lv (.ref q :: rest) := by
  intro H locs ls hP hD hS hl
  refine va_callv (va_runIN (As := []) (rest := rest) ⟨X.1, X.2.1, X.2.2.1, nx_own X, nx_ts X⟩ (hM ws q H.size) ⟨va_cnB 0 (nx_ts X) hg hw hrc hrs hN (nx_ts X _ hini) hd (by rw [nx_rm X]; exact hR), hnm, nx_ts X _ hins⟩ ⟨preN_blind, nx_pre X hP hD⟩ rfl rfl hl.1 rfl (lv_room hrm) d (by rw [nx_rm X]; exact hf)) hS (fun q _ h => nx_free X hD hS q h) (nx_free X hD hS) (fun u t H1 locs1 ht hvm hu hB hz hk hS1 => ?_)
  exact kk u hu H1 locs1 ls (by rw [← ht]; exact hB.1) (hB.2.weaken (fun _ q _ h => nx_free X hD hS q.1 h)) hS1 hl
theorem n_initI (X : Nx Z cc nL own Ts rm rt) {y : MethodName} {bytes : ByteArray} {maxL index n mc ms q : Nat} {e0 : va_E} {Ws ws' : List Cond} {rm' : Room} {post : Nat → List Nat → va_W} (hM : CN (zl Z) y Ws rm' (zE Z) e0 n mc ms post) (hg : GoodIn Ts Ws) (hN : Cond.methodLink own index y ∈ Ts) (hini : Cond.initialized y.cls ∈ Ts) (hins : Cond.instanceMethod y ∈ Ts) (hd : y.cls ≠ "java/lang/invoke/MethodHandle" ∧ y.cls ≠ "java/lang/invoke/VarHandle" ∧ (parseMethodDescriptor y.desc).map (fun d => d.parameters.length) = some 0) (hnm : y.name = "<init>") (hw : Ws = Cond.code y bytes maxL none :: ws') (hrc : rm'.cells = mc) (hrs : rm'.slots = ms) (hR : rm'.frames + 1 ≤ rm.frames ∧ 8 + (maxL + 11) + rm'.locals ≤ rm.locals) (hf : ce + mc ≤ rm.cells ∧ sl + ms ≤ rm.slots) (d : decode cc pc = .ok (.invokespecial index, 3)) (kk : ∀ u : List Nat, u.length = n → NW Z nL (ce + mc) (sl + ms) (ws ++ post q u) (pc + 3) lv rest) (hrm : (rest.map fun v => v.category).sum ≤ 8 := by exact Nat.le_of_ble_eq_true rfl) : NW Z nL ce sl (ws ++ [(q, e0)]) pc lv (.ref q :: rest) := by
  intro H locs ls hP hD hS hl
  refine va_callv (va_runI (As := []) (rest := rest) ⟨X.1, X.2.1, X.2.2.1, nx_own X, nx_ts X⟩ (hM ws q H.size) (cwI 0 (nx_ts X) hg hw hrc hrs (nx_ts X _ hini) (nx_ts X _ hN) (nx_ts X _ hins) hnm hd (by rw [nx_rm X]; exact hR)) ⟨preN_blind, nx_pre X hP hD⟩ rfl rfl hl.1 rfl (lv_room hrm) d (by rw [nx_rm X]; exact hf)) hS (fun q _ h => nx_free X hD hS q h) (nx_free X hD hS) (fun u t H1 locs1 ht hvm hu hB hz hk hS1 => ?_)
  exact kk u hu H1 locs1 ls (by rw [← ht]; exact hB.1) (hB.2.weaken (fun _ q _ h => nx_free X hD hS q.1 h)) hS1 hl
end NWR
