/-! ===== SnowCourseModel(): the whole world stands when it calls begin ===== -/
theorem n_putG {Z : RT} {cc : ByteArray} {nL : Nat} {own : String} {Ts : List Cond} {rm : Room} {rt : Option FieldType} {wc : va_W} {ce sl pc : Nat} {lv : List (Nat × Value)} {rest : List Value} (X : Nx Z cc nL own Ts rm rt) {C : String} {T : u_T} {N ci index k h0 q : Nat} {R : va_W} {fs fs' : List Value} {ty0 : Nat → FieldType} {ty : FieldType} (hfs : fs.set k (.ref q) = fs') (hin : ∀ w ∈ u_ws C T N, w ∈ Ts) (hty : ∀ k, k < N → parseFieldDescriptor (T k).2.2.1 = some (ty0 k)) (hnm : ∀ a, a < N → ∀ b, b < N → a ≠ b → (T a).2.1 ≠ (T b).2.1) (hc : vwCl[ci]? = some (C, T, N)) (hk : k < N) (hlink : Cond.fieldLink own index own (T k).2.1 (T k).2.2.1 ∈ Ts) (hfin : (T k).2.2.2 = true) (hdecl : (T k).1 = own) (hd : parseFieldDescriptor (T k).2.2.1 = some ty) (hn : narrow ty (.ref q) = .ref q) (hfit : fits ty (.ref q) = true) (hl0 : k < fs.length) (d : decode cc pc = .ok (.putfield index, 3)) (kk : NW Z nL ce sl (wc ++ ((h0, .inr (ci, fs')) :: R)) (pc + 3) lv rest) : NW Z nL ce sl (wc ++ ((h0, .inr (ci, fs)) :: R)) pc lv (.ref q :: .ref h0 :: rest) := by
  subst hfs
  exact n_putF X hin hty hnm hc hk hlink hfin hdecl hd hn hfit hl0 d kk
def posL : List Nat := [0, 1, 2, 3, 4, 5, 6, 7, 8, 9, 10, 11, 12, 13, 14, 20, 21, 22, 73, 74, 75, 76, 77, 78, 79, 80, 81, 82, 83, 84, 85, 86, 15, 16, 17, 18, 19, 23, 24, 25, 26, 27, 28, 29, 30, 31, 32, 33, 34, 35, 36, 37, 38, 39, 40, 41, 42, 43, 44, 45, 46, 47, 48, 49, 50, 51, 52, 53, 54, 55, 56, 57, 58, 59, 60, 61, 62, 63, 64, 65, 66, 67, 68, 69, 70, 71, 72, 87, 88, 89, 90, 91, 92, 93, 94, 95, 96, 97, 98, 99, 100, 101, 102, 103, 104, 105, 106, 107, 108]
def adF (h0 : Nat) (u : List Nat) (hm : Nat) (v : List Nat) : Nat → Nat := fun i => if i = 0 then h0 else if i < 87 then u.getD (i - 1) 0 else if i = 87 then hm else v.getD (i - 88) 0
def mkE (Ec : ET) (h0 : Nat) (u : List Nat) (hm : Nat) (v : List Nat) : ET := (eD Ec, adF h0 u hm v, ecy Ec, eK Ec, eV Ec)
abbrev reZ (Z : RT) (E : ET) (ce sl : Nat) : RT := (Z.1, Z.2.1, (zQ Z, zA Z, E, ce, sl))
theorem NW.toGW {Z : RT} {nL ce sl pc : Nat} {ws : va_W} {I : MI} {J : MJ} {lv : List (Nat × Value)} {st : List Value} {E : ET} (hD : eD E = eD (zE Z)) (hc : ∀ i, i < 109 → ∃ (k : Nat) (e : va_E), ws[k]? = some (ea E i, e) ∧ ∀ H : Heap, va_at (eD E) vwCl (ea E i, e) H → va_at (eD E) vwCl (ea E i, cellOf E i (I i) (J i)) H) (k : GW (reZ Z E ce sl) nL I J pc lv st) : NW Z nL ce sl ws pc lv st := by
  intro H locs ls hP hDd hS hl
  refine k H locs ls ?_ hS hl
  intro i q hq
  have hi : i < 109 := by have := (List.getElem?_eq_some_iff.mp hq).1; rw [wd_len] at this; exact this
  rw [wd_get hi] at hq
  cases hq
  obtain ⟨p, e, h1, h2⟩ := hc i hi
  exact h2 H (hD ▸ hP p _ h1)
theorem arrV_congr {cA : ClassId} {n : Nat} {f f2 : Nat → Value} (h : ∀ j, j < n → f j = f2 j) : arrV cA n f = arrV cA n f2 := by
  unfold arrV
  congr 1
  apply Array.ext
  · simp
  · intro j h1 h2
    simp at h1
    simp [h j h1]
theorem at_q {D : va_G} {a : Nat} {cA : ClassId} {n : Nat} {f f2 : Nat → Option Nat} (h : ∀ j, j < n → f j = f2 j) {H : Heap} (hat : va_at D vwCl (a, .inl (cA, n, .inr (.inr (.inr (.inr f))))) H) : va_at D vwCl (a, .inl (cA, n, .inr (.inr (.inr (.inr f2))))) H := by
  have e : arrV cA n (fun j => va_rf (f j)) = arrV cA n (fun j => va_rf (f2 j)) := arrV_congr (fun j hj => by rw [h j hj])
  have e : vp_cell cA (n, .inr (.inr (.inr (.inr f)))) = vp_cell cA (n, .inr (.inr (.inr (.inr f2)))) := e
  show H[a]? = some (vp_cell cA (n, .inr (.inr (.inr (.inr f2)))))
  rw [← e]
  exact hat
def PreM (E : ET) (sz : Nat) (ws : va_W) (U : State) : Prop := U.heap.size = sz ∧ va_P (eD E) vwCl ws U.heap ∧ va_D (fun _ => True) ws ∧ NS U ∧ Sx E (va_A ws sz) U U.heap
theorem preM_blind {As : List Value} {E : ET} {sz : Nat} {ws : va_W} : FrameBlind (va_Pc As (PreM E sz ws)) := fun _ _ _ _ q => ⟨q.1, q.2.1, q.2.2.1, q.2.2.2.1, NS.same rfl q.2.2.2.2.1, q.2.2.2.2.2.same rfl⟩
theorem iX11_init_X11 : ∀ w ∈ u_ws RX11 TX11 39, w ∈ wsX11_init := by decide +kernel
def e0_X11 : va_E := .inr (9, [.int 0, .null, .int 0, .null, .int 0, .null, .long 0, .int 0, .null, .int 0, .int 0, .long 0, .int 0, .int 0, .int 0, .int 0, .int 0, .int 0, .int 0, .null, .null, .null, .null, .null, .int 0, .null, .int 0, .null, .int 0, .null, .null, .null, .null, .null, .null, .null, .null, .null, .null])
def rmX11_init : Room := { frames := 1, cells := 21, slots := 2678, locals := 21 }
theorem yo_X11_init : yX11_init.cls ≠ "java/lang/invoke/MethodHandle" ∧ yX11_init.cls ≠ "java/lang/invoke/VarHandle" ∧ (parseMethodDescriptor yX11_init.desc).map (fun d => d.parameters.length) = some 0 := by decide +kernel
def I00 : MI := fun _ _ => 0
def J00 : MJ := fun _ _ => 0
def idL : List Nat := [0, 1, 2, 3, 4, 5, 6, 7, 8, 9, 10, 11, 12, 13, 14, 32, 33, 34, 35, 36, 15, 16, 17, 37, 38, 39, 40, 41, 42, 43, 44, 45, 46, 47, 48, 49, 50, 51, 52, 53, 54, 55, 56, 57, 58, 59, 60, 61, 62, 63, 64, 65, 66, 67, 68, 69, 70, 71, 72, 73, 74, 75, 76, 77, 78, 79, 80, 81, 82, 83, 84, 85, 86, 18, 19, 20, 21, 22, 23, 24, 25, 26, 27, 28, 29, 30, 31, 87, 88, 89, 90, 91, 92, 93, 94, 95, 96, 97, 98, 99, 100, 101, 102, 103, 104, 105, 106, 107, 108]
theorem id_pos : ∀ i, i < 109 → idL[posL.getD i 0]? = some i := by decide +kernel
def pastC (E : ET) (u : List Nat) : va_E := .inl (ecy E 4, 8, .inr (.inr (.inr (.inr (va_up (va_up (va_up (va_up (va_up (va_up (va_up (va_up (fun _ => none) 0 (some (u.getD 36 0))) 1 (some (u.getD 41 0))) 2 (some (u.getD 46 0))) 3 (some (u.getD 51 0))) 4 (some (u.getD 56 0))) 5 (some (u.getD 61 0))) 6 (some (u.getD 66 0))) 7 (some (u.getD 71 0)))))))
def keptC (E : ET) (u : List Nat) : va_E := .inl (ecy E 4, 2, .inr (.inr (.inr (.inr (va_up (va_up (fun _ => none) 0 (some (u.getD 76 0))) 1 (some (u.getD 81 0)))))))
def fz (ad : Nat → Nat) (f : Nat) : Value := match f with
  | 0 => .int 0
  | 1 => .long 0
  | o + 2 => .ref (ad o)
theorem flz {ad : Nat → Nat} {i : Nat} (t : List Nat) : flds ad t (I00 i) (J00 i) = t.map (fz ad) := by
  apply List.ext_getElem?
  intro k
  cases ht : t[k]? with
  | none => simp [flds, List.getElem?_mapIdx, ht]
  | some f =>
    rw [fl_get ht, List.getElem?_map, ht]
    match f with
    | 0 => rfl
    | 1 => rfl
    | o + 2 => rfl
def cellZ (E : ET) (q : Nat × Nat) (i : Nat) : va_E := match q.1 with
  | 0 => .inl (ecy E 0, q.2, .inl (fun _ => 0))
  | 1 => .inl (ecy E 1, q.2, .inr (.inl (fun _ => 0)))
  | 2 => .inl (ecy E 2, q.2, .inl (fun _ => 0))
  | 3 => .inl (ecy E 3, q.2, .inl (fun _ => 0))
  | 4 => .inl (ecy E 4, q.2, .inr (.inr (.inr (.inr (fun j => some (ea E ((if q.2 = 8 then 37 else 77) + 5 * j)))))))
  | _ => .inr (q.2, (tabO q.2 i).map (fz (ea E)))
theorem cellZ_eq (E : ET) (i : Nat) : cellOf E i (I00 i) (J00 i) = cellZ E (kd i) i := by
  unfold cellOf
  generalize kd i = q
  obtain ⟨k, n⟩ := q
  match k with
  | 0 => rfl
  | 1 => rfl
  | 2 => rfl
  | 3 => rfl
  | 4 => rfl
  | k + 5 =>
    show Sum.inr (n, flds (ea E) (tabO n i) (I00 i) (J00 i)) = Sum.inr (n, (tabO n i).map (fz (ea E)))
    rw [flz]
def cx (E : ET) (u : List Nat) (i : Nat) : va_E := if i = 15 then pastC E u else if i = 16 then keptC E u else cellZ E (kd i) i
def fc (Ec : ET) (h0 : Nat) (u : List Nat) (hm : Nat) (v : List Nat) (i : Nat) : Nat × va_E := (adF h0 u hm v i, cx (mkE Ec h0 u hm v) u i)
set_option maxRecDepth 100000 in
set_option maxHeartbeats 4000000 in
theorem b_1 (Ec : ET) (h0 : Nat) (u : List Nat) (hm : Nat) (v : List Nat) : po_X6 Ec (u.getD 0 0) [u.getD 1 0, u.getD 2 0, u.getD 3 0] = List.map (fc Ec h0 u hm v) [1, 2, 3, 4] := rfl
set_option maxRecDepth 100000 in
set_option maxHeartbeats 4000000 in
theorem b_5 (Ec : ET) (h0 : Nat) (u : List Nat) (hm : Nat) (v : List Nat) : po_X1 Ec (u.getD 4 0) [u.getD 5 0, u.getD 6 0, u.getD 7 0, u.getD 8 0, u.getD 9 0, u.getD 10 0, u.getD 11 0, u.getD 12 0] = List.map (fc Ec h0 u hm v) [5, 6, 7, 8, 9, 10, 11, 12, 13] := rfl
set_option maxRecDepth 100000 in
set_option maxHeartbeats 4000000 in
theorem b_18 (Ec : ET) (h0 : Nat) (u : List Nat) (hm : Nat) (v : List Nat) : po_X8 Ec (u.getD 17 0) [u.getD 18 0] = List.map (fc Ec h0 u hm v) [18, 19] := rfl
set_option maxRecDepth 100000 in
set_option maxHeartbeats 4000000 in
theorem b_20 (Ec : ET) (h0 : Nat) (u : List Nat) (hm : Nat) (v : List Nat) : po_X4 Ec (u.getD 19 0) [u.getD 20 0, u.getD 21 0, u.getD 22 0] = List.map (fc Ec h0 u hm v) [20, 21, 22, 23] := rfl
set_option maxRecDepth 100000 in
set_option maxHeartbeats 4000000 in
theorem b_24 (Ec : ET) (h0 : Nat) (u : List Nat) (hm : Nat) (v : List Nat) : po_X9 Ec (u.getD 23 0) [u.getD 24 0] = List.map (fc Ec h0 u hm v) [24, 25] := rfl
set_option maxRecDepth 100000 in
set_option maxHeartbeats 4000000 in
theorem b_26 (Ec : ET) (h0 : Nat) (u : List Nat) (hm : Nat) (v : List Nat) : po_X5 Ec (u.getD 25 0) [u.getD 26 0] = List.map (fc Ec h0 u hm v) [26, 27] := rfl
set_option maxRecDepth 100000 in
set_option maxHeartbeats 4000000 in
theorem b_28 (Ec : ET) (h0 : Nat) (u : List Nat) (hm : Nat) (v : List Nat) : po_X5 Ec (u.getD 27 0) [u.getD 28 0] = List.map (fc Ec h0 u hm v) [28, 29] := rfl
set_option maxRecDepth 100000 in
set_option maxHeartbeats 4000000 in
theorem b_30 (Ec : ET) (h0 : Nat) (u : List Nat) (hm : Nat) (v : List Nat) : po_X5 Ec (u.getD 29 0) [u.getD 30 0] = List.map (fc Ec h0 u hm v) [30, 31] := rfl
set_option maxRecDepth 100000 in
set_option maxHeartbeats 4000000 in
theorem b_32 (Ec : ET) (h0 : Nat) (u : List Nat) (hm : Nat) (v : List Nat) : po_X7 Ec (u.getD 31 0) [u.getD 32 0, u.getD 33 0, u.getD 34 0, u.getD 35 0] = List.map (fc Ec h0 u hm v) [32, 33, 34, 35, 36] := rfl
set_option maxRecDepth 100000 in
set_option maxHeartbeats 4000000 in
theorem b_37 (Ec : ET) (h0 : Nat) (u : List Nat) (hm : Nat) (v : List Nat) : po_X7 Ec (u.getD 36 0) [u.getD 37 0, u.getD 38 0, u.getD 39 0, u.getD 40 0] = List.map (fc Ec h0 u hm v) [37, 38, 39, 40, 41] := rfl
set_option maxRecDepth 100000 in
set_option maxHeartbeats 4000000 in
theorem b_42 (Ec : ET) (h0 : Nat) (u : List Nat) (hm : Nat) (v : List Nat) : po_X7 Ec (u.getD 41 0) [u.getD 42 0, u.getD 43 0, u.getD 44 0, u.getD 45 0] = List.map (fc Ec h0 u hm v) [42, 43, 44, 45, 46] := rfl
set_option maxRecDepth 100000 in
set_option maxHeartbeats 4000000 in
theorem b_47 (Ec : ET) (h0 : Nat) (u : List Nat) (hm : Nat) (v : List Nat) : po_X7 Ec (u.getD 46 0) [u.getD 47 0, u.getD 48 0, u.getD 49 0, u.getD 50 0] = List.map (fc Ec h0 u hm v) [47, 48, 49, 50, 51] := rfl
set_option maxRecDepth 100000 in
set_option maxHeartbeats 4000000 in
theorem b_52 (Ec : ET) (h0 : Nat) (u : List Nat) (hm : Nat) (v : List Nat) : po_X7 Ec (u.getD 51 0) [u.getD 52 0, u.getD 53 0, u.getD 54 0, u.getD 55 0] = List.map (fc Ec h0 u hm v) [52, 53, 54, 55, 56] := rfl
set_option maxRecDepth 100000 in
set_option maxHeartbeats 4000000 in
theorem b_57 (Ec : ET) (h0 : Nat) (u : List Nat) (hm : Nat) (v : List Nat) : po_X7 Ec (u.getD 56 0) [u.getD 57 0, u.getD 58 0, u.getD 59 0, u.getD 60 0] = List.map (fc Ec h0 u hm v) [57, 58, 59, 60, 61] := rfl
set_option maxRecDepth 100000 in
set_option maxHeartbeats 4000000 in
theorem b_62 (Ec : ET) (h0 : Nat) (u : List Nat) (hm : Nat) (v : List Nat) : po_X7 Ec (u.getD 61 0) [u.getD 62 0, u.getD 63 0, u.getD 64 0, u.getD 65 0] = List.map (fc Ec h0 u hm v) [62, 63, 64, 65, 66] := rfl
set_option maxRecDepth 100000 in
set_option maxHeartbeats 4000000 in
theorem b_67 (Ec : ET) (h0 : Nat) (u : List Nat) (hm : Nat) (v : List Nat) : po_X7 Ec (u.getD 66 0) [u.getD 67 0, u.getD 68 0, u.getD 69 0, u.getD 70 0] = List.map (fc Ec h0 u hm v) [67, 68, 69, 70, 71] := rfl
set_option maxRecDepth 100000 in
set_option maxHeartbeats 4000000 in
theorem b_72 (Ec : ET) (h0 : Nat) (u : List Nat) (hm : Nat) (v : List Nat) : po_X7 Ec (u.getD 71 0) [u.getD 72 0, u.getD 73 0, u.getD 74 0, u.getD 75 0] = List.map (fc Ec h0 u hm v) [72, 73, 74, 75, 76] := rfl
set_option maxRecDepth 100000 in
set_option maxHeartbeats 4000000 in
theorem b_77 (Ec : ET) (h0 : Nat) (u : List Nat) (hm : Nat) (v : List Nat) : po_X7 Ec (u.getD 76 0) [u.getD 77 0, u.getD 78 0, u.getD 79 0, u.getD 80 0] = List.map (fc Ec h0 u hm v) [77, 78, 79, 80, 81] := rfl
set_option maxRecDepth 100000 in
set_option maxHeartbeats 4000000 in
theorem b_82 (Ec : ET) (h0 : Nat) (u : List Nat) (hm : Nat) (v : List Nat) : po_X7 Ec (u.getD 81 0) [u.getD 82 0, u.getD 83 0, u.getD 84 0, u.getD 85 0] = List.map (fc Ec h0 u hm v) [82, 83, 84, 85, 86] := rfl
set_option maxRecDepth 100000 in
set_option maxHeartbeats 4000000 in
theorem b_14a (Ec : ET) (h0 : Nat) (u : List Nat) (hm : Nat) (v : List Nat) : ((u.getD 13 0, .inr (0, [.ref (u.getD 31 0), .ref (u.getD 14 0), .ref (u.getD 15 0), .ref (u.getD 16 0), .int 0, .int 0])) : Nat × va_E) = fc Ec h0 u hm v 14 := rfl
set_option maxRecDepth 100000 in
set_option maxHeartbeats 4000000 in
theorem b_15 (Ec : ET) (h0 : Nat) (u : List Nat) (hm : Nat) (v : List Nat) : ((u.getD 14 0, .inl (ecy Ec 4, 8, .inr (.inr (.inr (.inr (va_up (va_up (va_up (va_up (va_up (va_up (va_up (va_up (fun _ => none) 0 (some (u.getD 36 0))) 1 (some (u.getD 41 0))) 2 (some (u.getD 46 0))) 3 (some (u.getD 51 0))) 4 (some (u.getD 56 0))) 5 (some (u.getD 61 0))) 6 (some (u.getD 66 0))) 7 (some (u.getD 71 0)))))))) : Nat × va_E) = fc Ec h0 u hm v 15 := rfl
set_option maxRecDepth 100000 in
set_option maxHeartbeats 4000000 in
theorem b_16 (Ec : ET) (h0 : Nat) (u : List Nat) (hm : Nat) (v : List Nat) : ((u.getD 15 0, .inl (ecy Ec 4, 2, .inr (.inr (.inr (.inr (va_up (va_up (fun _ => none) 0 (some (u.getD 76 0))) 1 (some (u.getD 81 0)))))))) : Nat × va_E) = fc Ec h0 u hm v 16 := rfl
set_option maxRecDepth 100000 in
set_option maxHeartbeats 4000000 in
theorem b_17 (Ec : ET) (h0 : Nat) (u : List Nat) (hm : Nat) (v : List Nat) : ((u.getD 16 0, .inl (ecy Ec 3, 2, .inl (fun _ => 0))) : Nat × va_E) = fc Ec h0 u hm v 17 := rfl
set_option maxRecDepth 100000 in
set_option maxHeartbeats 4000000 in
theorem b_14 (Ec : ET) (h0 : Nat) (u : List Nat) (hm : Nat) (v : List Nat) : po_X0 Ec (u.getD 13 0) [u.getD 31 0, u.getD 32 0, u.getD 33 0, u.getD 34 0, u.getD 35 0, u.getD 14 0, u.getD 15 0, u.getD 16 0, u.getD 36 0, u.getD 37 0, u.getD 38 0, u.getD 39 0, u.getD 40 0, u.getD 41 0, u.getD 42 0, u.getD 43 0, u.getD 44 0, u.getD 45 0, u.getD 46 0, u.getD 47 0, u.getD 48 0, u.getD 49 0, u.getD 50 0, u.getD 51 0, u.getD 52 0, u.getD 53 0, u.getD 54 0, u.getD 55 0, u.getD 56 0, u.getD 57 0, u.getD 58 0, u.getD 59 0, u.getD 60 0, u.getD 61 0, u.getD 62 0, u.getD 63 0, u.getD 64 0, u.getD 65 0, u.getD 66 0, u.getD 67 0, u.getD 68 0, u.getD 69 0, u.getD 70 0, u.getD 71 0, u.getD 72 0, u.getD 73 0, u.getD 74 0, u.getD 75 0, u.getD 76 0, u.getD 77 0, u.getD 78 0, u.getD 79 0, u.getD 80 0, u.getD 81 0, u.getD 82 0, u.getD 83 0, u.getD 84 0, u.getD 85 0] = List.map (fc Ec h0 u hm v) [14, 32, 33, 34, 35, 36, 15, 16, 17, 37, 38, 39, 40, 41, 42, 43, 44, 45, 46, 47, 48, 49, 50, 51, 52, 53, 54, 55, 56, 57, 58, 59, 60, 61, 62, 63, 64, 65, 66, 67, 68, 69, 70, 71, 72, 73, 74, 75, 76, 77, 78, 79, 80, 81, 82, 83, 84, 85, 86] := by
  show (u.getD 13 0, .inr (0, [.ref (u.getD 31 0), .ref (u.getD 14 0), .ref (u.getD 15 0), .ref (u.getD 16 0), .int 0, .int 0])) :: (po_X7 Ec (u.getD 31 0) [u.getD 32 0, u.getD 33 0, u.getD 34 0, u.getD 35 0] ++ ((u.getD 14 0, .inl (ecy Ec 4, 8, .inr (.inr (.inr (.inr (va_up (va_up (va_up (va_up (va_up (va_up (va_up (va_up (fun _ => none) 0 (some (u.getD 36 0))) 1 (some (u.getD 41 0))) 2 (some (u.getD 46 0))) 3 (some (u.getD 51 0))) 4 (some (u.getD 56 0))) 5 (some (u.getD 61 0))) 6 (some (u.getD 66 0))) 7 (some (u.getD 71 0)))))))) :: ((u.getD 15 0, .inl (ecy Ec 4, 2, .inr (.inr (.inr (.inr (va_up (va_up (fun _ => none) 0 (some (u.getD 76 0))) 1 (some (u.getD 81 0)))))))) :: ((u.getD 16 0, .inl (ecy Ec 3, 2, .inl (fun _ => 0))) :: (((((((((([] ++ po_X7 Ec (u.getD 36 0) [u.getD 37 0, u.getD 38 0, u.getD 39 0, u.getD 40 0]) ++ po_X7 Ec (u.getD 41 0) [u.getD 42 0, u.getD 43 0, u.getD 44 0, u.getD 45 0]) ++ po_X7 Ec (u.getD 46 0) [u.getD 47 0, u.getD 48 0, u.getD 49 0, u.getD 50 0]) ++ po_X7 Ec (u.getD 51 0) [u.getD 52 0, u.getD 53 0, u.getD 54 0, u.getD 55 0]) ++ po_X7 Ec (u.getD 56 0) [u.getD 57 0, u.getD 58 0, u.getD 59 0, u.getD 60 0]) ++ po_X7 Ec (u.getD 61 0) [u.getD 62 0, u.getD 63 0, u.getD 64 0, u.getD 65 0]) ++ po_X7 Ec (u.getD 66 0) [u.getD 67 0, u.getD 68 0, u.getD 69 0, u.getD 70 0]) ++ po_X7 Ec (u.getD 71 0) [u.getD 72 0, u.getD 73 0, u.getD 74 0, u.getD 75 0]) ++ po_X7 Ec (u.getD 76 0) [u.getD 77 0, u.getD 78 0, u.getD 79 0, u.getD 80 0]) ++ po_X7 Ec (u.getD 81 0) [u.getD 82 0, u.getD 83 0, u.getD 84 0, u.getD 85 0]))))) = _
  rw [b_14a Ec h0 u hm v, b_15 Ec h0 u hm v, b_16 Ec h0 u hm v, b_17 Ec h0 u hm v, b_32 Ec h0 u hm v, b_37 Ec h0 u hm v, b_42 Ec h0 u hm v, b_47 Ec h0 u hm v, b_52 Ec h0 u hm v, b_57 Ec h0 u hm v, b_62 Ec h0 u hm v, b_67 Ec h0 u hm v, b_72 Ec h0 u hm v, b_77 Ec h0 u hm v, b_82 Ec h0 u hm v]
  simp only [List.map_cons, List.map_nil, List.nil_append, List.append_assoc, List.cons_append]
set_option maxRecDepth 100000 in
set_option maxHeartbeats 4000000 in
theorem b_0 (Ec : ET) (h0 : Nat) (u : List Nat) (hm : Nat) (v : List Nat) : ((h0, .inr (8, [.ref (u.getD 0 0), .ref (u.getD 4 0), .ref (u.getD 13 0), .ref (u.getD 17 0), .ref (u.getD 19 0), .ref (u.getD 23 0), .ref (u.getD 25 0), .ref (u.getD 27 0), .ref (u.getD 29 0)])) : Nat × va_E) = fc Ec h0 u hm v 0 := rfl
set_option maxRecDepth 100000 in
set_option maxHeartbeats 4000000 in
theorem b_87 (Ec : ET) (h0 : Nat) (u : List Nat) (hm q0 q1 q2 q3 q4 q5 q6 q7 q8 q9 q10 q11 q12 q13 q14 q15 q16 q17 q18 q19 q20 : Nat) : ((hm, .inr (9, [.int 0, .ref q0, .int 0, .ref q1, .int 0, .ref q2, .long 0, .int 0, .ref q3, .int 0, .int 0, .long 0, .int 0, .int 0, .int 0, .int 0, .int 0, .int 0, .int 0, .ref q4, .ref q5, .ref q6, .ref q7, .ref q8, .int 0, .ref q9, .int 0, .ref q10, .int 0, .ref q11, .ref q12, .ref q13, .ref q14, .ref q15, .ref q16, .ref q17, .ref q18, .ref q19, .ref q20])) : Nat × va_E) = fc Ec h0 u hm [q0, q1, q2, q3, q4, q5, q6, q7, q8, q9, q10, q11, q12, q13, q14, q15, q16, q17, q18, q19, q20] 87 := rfl
set_option maxRecDepth 100000 in
set_option maxHeartbeats 4000000 in
theorem b_88 (Ec : ET) (h0 : Nat) (u : List Nat) (hm q0 q1 q2 q3 q4 q5 q6 q7 q8 q9 q10 q11 q12 q13 q14 q15 q16 q17 q18 q19 q20 : Nat) : ([(q0, .inl (ecy Ec 0, 7, .inl (fun _ => 0))), (q1, .inl (ecy Ec 0, 36, .inl (fun _ => 0))), (q2, .inl (ecy Ec 0, 12, .inl (fun _ => 0))), (q3, .inl (ecy Ec 0, 160, .inl (fun _ => 0))), (q4, .inl (ecy Ec 0, 56, .inl (fun _ => 0))), (q5, .inl (ecy Ec 0, 20, .inl (fun _ => 0))), (q6, .inl (ecy Ec 0, 40, .inl (fun _ => 0))), (q7, .inl (ecy Ec 3, 2, .inl (fun _ => 0))), (q8, .inl (ecy Ec 0, 160, .inl (fun _ => 0))), (q9, .inl (ecy Ec 0, 5, .inl (fun _ => 0))), (q10, .inl (ecy Ec 0, 5, .inl (fun _ => 0))), (q11, .inl (ecy Ec 1, 343, .inr (.inl (fun _ => 0)))), (q12, .inl (ecy Ec 1, 343, .inr (.inl (fun _ => 0)))), (q13, .inl (ecy Ec 1, 343, .inr (.inl (fun _ => 0)))), (q14, .inl (ecy Ec 1, 343, .inr (.inl (fun _ => 0)))), (q15, .inl (ecy Ec 1, 343, .inr (.inl (fun _ => 0)))), (q16, .inl (ecy Ec 1, 343, .inr (.inl (fun _ => 0)))), (q17, .inl (ecy Ec 0, 7, .inl (fun _ => 0))), (q18, .inl (ecy Ec 0, 5, .inl (fun _ => 0))), (q19, .inl (ecy Ec 0, 5, .inl (fun _ => 0))), (q20, .inl (ecy Ec 1, 100, .inr (.inl (fun _ => 0))))] : va_W) = List.map (fc Ec h0 u hm [q0, q1, q2, q3, q4, q5, q6, q7, q8, q9, q10, q11, q12, q13, q14, q15, q16, q17, q18, q19, q20]) [88, 89, 90, 91, 92, 93, 94, 95, 96, 97, 98, 99, 100, 101, 102, 103, 104, 105, 106, 107, 108] := rfl
set_option maxRecDepth 100000 in
set_option maxHeartbeats 4000000 in
theorem m_ws (Ec : ET) (h0 : Nat) (u : List Nat) (hm q0 q1 q2 q3 q4 q5 q6 q7 q8 q9 q10 q11 q12 q13 q14 q15 q16 q17 q18 q19 q20 : Nat) : po_X10 Ec h0 u ++ ((hm, .inr (9, [.int 0, .ref q0, .int 0, .ref q1, .int 0, .ref q2, .long 0, .int 0, .ref q3, .int 0, .int 0, .long 0, .int 0, .int 0, .int 0, .int 0, .int 0, .int 0, .int 0, .ref q4, .ref q5, .ref q6, .ref q7, .ref q8, .int 0, .ref q9, .int 0, .ref q10, .int 0, .ref q11, .ref q12, .ref q13, .ref q14, .ref q15, .ref q16, .ref q17, .ref q18, .ref q19, .ref q20])) :: [(q0, .inl (ecy Ec 0, 7, .inl (fun _ => 0))), (q1, .inl (ecy Ec 0, 36, .inl (fun _ => 0))), (q2, .inl (ecy Ec 0, 12, .inl (fun _ => 0))), (q3, .inl (ecy Ec 0, 160, .inl (fun _ => 0))), (q4, .inl (ecy Ec 0, 56, .inl (fun _ => 0))), (q5, .inl (ecy Ec 0, 20, .inl (fun _ => 0))), (q6, .inl (ecy Ec 0, 40, .inl (fun _ => 0))), (q7, .inl (ecy Ec 3, 2, .inl (fun _ => 0))), (q8, .inl (ecy Ec 0, 160, .inl (fun _ => 0))), (q9, .inl (ecy Ec 0, 5, .inl (fun _ => 0))), (q10, .inl (ecy Ec 0, 5, .inl (fun _ => 0))), (q11, .inl (ecy Ec 1, 343, .inr (.inl (fun _ => 0)))), (q12, .inl (ecy Ec 1, 343, .inr (.inl (fun _ => 0)))), (q13, .inl (ecy Ec 1, 343, .inr (.inl (fun _ => 0)))), (q14, .inl (ecy Ec 1, 343, .inr (.inl (fun _ => 0)))), (q15, .inl (ecy Ec 1, 343, .inr (.inl (fun _ => 0)))), (q16, .inl (ecy Ec 1, 343, .inr (.inl (fun _ => 0)))), (q17, .inl (ecy Ec 0, 7, .inl (fun _ => 0))), (q18, .inl (ecy Ec 0, 5, .inl (fun _ => 0))), (q19, .inl (ecy Ec 0, 5, .inl (fun _ => 0))), (q20, .inl (ecy Ec 1, 100, .inr (.inl (fun _ => 0))))]) = List.map (fc Ec h0 u hm [q0, q1, q2, q3, q4, q5, q6, q7, q8, q9, q10, q11, q12, q13, q14, q15, q16, q17, q18, q19, q20]) idL := by
  show ((h0, .inr (8, [.ref (u.getD 0 0), .ref (u.getD 4 0), .ref (u.getD 13 0), .ref (u.getD 17 0), .ref (u.getD 19 0), .ref (u.getD 23 0), .ref (u.getD 25 0), .ref (u.getD 27 0), .ref (u.getD 29 0)])) :: ((((((((([] ++ po_X6 Ec (u.getD 0 0) [u.getD 1 0, u.getD 2 0, u.getD 3 0]) ++ po_X1 Ec (u.getD 4 0) [u.getD 5 0, u.getD 6 0, u.getD 7 0, u.getD 8 0, u.getD 9 0, u.getD 10 0, u.getD 11 0, u.getD 12 0]) ++ po_X0 Ec (u.getD 13 0) [u.getD 31 0, u.getD 32 0, u.getD 33 0, u.getD 34 0, u.getD 35 0, u.getD 14 0, u.getD 15 0, u.getD 16 0, u.getD 36 0, u.getD 37 0, u.getD 38 0, u.getD 39 0, u.getD 40 0, u.getD 41 0, u.getD 42 0, u.getD 43 0, u.getD 44 0, u.getD 45 0, u.getD 46 0, u.getD 47 0, u.getD 48 0, u.getD 49 0, u.getD 50 0, u.getD 51 0, u.getD 52 0, u.getD 53 0, u.getD 54 0, u.getD 55 0, u.getD 56 0, u.getD 57 0, u.getD 58 0, u.getD 59 0, u.getD 60 0, u.getD 61 0, u.getD 62 0, u.getD 63 0, u.getD 64 0, u.getD 65 0, u.getD 66 0, u.getD 67 0, u.getD 68 0, u.getD 69 0, u.getD 70 0, u.getD 71 0, u.getD 72 0, u.getD 73 0, u.getD 74 0, u.getD 75 0, u.getD 76 0, u.getD 77 0, u.getD 78 0, u.getD 79 0, u.getD 80 0, u.getD 81 0, u.getD 82 0, u.getD 83 0, u.getD 84 0, u.getD 85 0]) ++ po_X8 Ec (u.getD 17 0) [u.getD 18 0]) ++ po_X4 Ec (u.getD 19 0) [u.getD 20 0, u.getD 21 0, u.getD 22 0]) ++ po_X9 Ec (u.getD 23 0) [u.getD 24 0]) ++ po_X5 Ec (u.getD 25 0) [u.getD 26 0]) ++ po_X5 Ec (u.getD 27 0) [u.getD 28 0]) ++ po_X5 Ec (u.getD 29 0) [u.getD 30 0])) ++ _ = _
  rw [b_0 Ec h0 u hm [q0, q1, q2, q3, q4, q5, q6, q7, q8, q9, q10, q11, q12, q13, q14, q15, q16, q17, q18, q19, q20], b_1 Ec h0 u hm [q0, q1, q2, q3, q4, q5, q6, q7, q8, q9, q10, q11, q12, q13, q14, q15, q16, q17, q18, q19, q20], b_5 Ec h0 u hm [q0, q1, q2, q3, q4, q5, q6, q7, q8, q9, q10, q11, q12, q13, q14, q15, q16, q17, q18, q19, q20], b_14 Ec h0 u hm [q0, q1, q2, q3, q4, q5, q6, q7, q8, q9, q10, q11, q12, q13, q14, q15, q16, q17, q18, q19, q20], b_18 Ec h0 u hm [q0, q1, q2, q3, q4, q5, q6, q7, q8, q9, q10, q11, q12, q13, q14, q15, q16, q17, q18, q19, q20], b_20 Ec h0 u hm [q0, q1, q2, q3, q4, q5, q6, q7, q8, q9, q10, q11, q12, q13, q14, q15, q16, q17, q18, q19, q20], b_24 Ec h0 u hm [q0, q1, q2, q3, q4, q5, q6, q7, q8, q9, q10, q11, q12, q13, q14, q15, q16, q17, q18, q19, q20], b_26 Ec h0 u hm [q0, q1, q2, q3, q4, q5, q6, q7, q8, q9, q10, q11, q12, q13, q14, q15, q16, q17, q18, q19, q20], b_28 Ec h0 u hm [q0, q1, q2, q3, q4, q5, q6, q7, q8, q9, q10, q11, q12, q13, q14, q15, q16, q17, q18, q19, q20], b_30 Ec h0 u hm [q0, q1, q2, q3, q4, q5, q6, q7, q8, q9, q10, q11, q12, q13, q14, q15, q16, q17, q18, q19, q20], b_87 Ec h0 u hm q0 q1 q2 q3 q4 q5 q6 q7 q8 q9 q10 q11 q12 q13 q14 q15 q16 q17 q18 q19 q20, b_88 Ec h0 u hm q0 q1 q2 q3 q4 q5 q6 q7 q8 q9 q10 q11 q12 q13 q14 q15 q16 q17 q18 q19 q20]
  simp only [idL, List.map_cons, List.map_nil, List.nil_append, List.append_assoc, List.cons_append]
set_option maxRecDepth 100000 in
set_option maxHeartbeats 4000000 in
theorem m_cover (Ec : ET) (h0 : Nat) (u : List Nat) (hm q0 q1 q2 q3 q4 q5 q6 q7 q8 q9 q10 q11 q12 q13 q14 q15 q16 q17 q18 q19 q20 : Nat) : ∀ i, i < 109 → ∃ (e : va_E), (po_X10 Ec h0 u ++ ((hm, .inr (9, [.int 0, .ref q0, .int 0, .ref q1, .int 0, .ref q2, .long 0, .int 0, .ref q3, .int 0, .int 0, .long 0, .int 0, .int 0, .int 0, .int 0, .int 0, .int 0, .int 0, .ref q4, .ref q5, .ref q6, .ref q7, .ref q8, .int 0, .ref q9, .int 0, .ref q10, .int 0, .ref q11, .ref q12, .ref q13, .ref q14, .ref q15, .ref q16, .ref q17, .ref q18, .ref q19, .ref q20])) :: [(q0, .inl (ecy Ec 0, 7, .inl (fun _ => 0))), (q1, .inl (ecy Ec 0, 36, .inl (fun _ => 0))), (q2, .inl (ecy Ec 0, 12, .inl (fun _ => 0))), (q3, .inl (ecy Ec 0, 160, .inl (fun _ => 0))), (q4, .inl (ecy Ec 0, 56, .inl (fun _ => 0))), (q5, .inl (ecy Ec 0, 20, .inl (fun _ => 0))), (q6, .inl (ecy Ec 0, 40, .inl (fun _ => 0))), (q7, .inl (ecy Ec 3, 2, .inl (fun _ => 0))), (q8, .inl (ecy Ec 0, 160, .inl (fun _ => 0))), (q9, .inl (ecy Ec 0, 5, .inl (fun _ => 0))), (q10, .inl (ecy Ec 0, 5, .inl (fun _ => 0))), (q11, .inl (ecy Ec 1, 343, .inr (.inl (fun _ => 0)))), (q12, .inl (ecy Ec 1, 343, .inr (.inl (fun _ => 0)))), (q13, .inl (ecy Ec 1, 343, .inr (.inl (fun _ => 0)))), (q14, .inl (ecy Ec 1, 343, .inr (.inl (fun _ => 0)))), (q15, .inl (ecy Ec 1, 343, .inr (.inl (fun _ => 0)))), (q16, .inl (ecy Ec 1, 343, .inr (.inl (fun _ => 0)))), (q17, .inl (ecy Ec 0, 7, .inl (fun _ => 0))), (q18, .inl (ecy Ec 0, 5, .inl (fun _ => 0))), (q19, .inl (ecy Ec 0, 5, .inl (fun _ => 0))), (q20, .inl (ecy Ec 1, 100, .inr (.inl (fun _ => 0))))]))[posL.getD i 0]? = some (ea (mkE Ec h0 u hm [q0, q1, q2, q3, q4, q5, q6, q7, q8, q9, q10, q11, q12, q13, q14, q15, q16, q17, q18, q19, q20]) i, e) ∧ ∀ H : Heap, va_at (eD Ec) vwCl (ea (mkE Ec h0 u hm [q0, q1, q2, q3, q4, q5, q6, q7, q8, q9, q10, q11, q12, q13, q14, q15, q16, q17, q18, q19, q20]) i, e) H → va_at (eD Ec) vwCl (ea (mkE Ec h0 u hm [q0, q1, q2, q3, q4, q5, q6, q7, q8, q9, q10, q11, q12, q13, q14, q15, q16, q17, q18, q19, q20]) i, cellOf (mkE Ec h0 u hm [q0, q1, q2, q3, q4, q5, q6, q7, q8, q9, q10, q11, q12, q13, q14, q15, q16, q17, q18, q19, q20]) i (I00 i) (J00 i)) H := by
  intro i hi
  refine ⟨cx (mkE Ec h0 u hm [q0, q1, q2, q3, q4, q5, q6, q7, q8, q9, q10, q11, q12, q13, q14, q15, q16, q17, q18, q19, q20]) u i, ?_, ?_⟩
  · rw [m_ws Ec h0 u hm q0 q1 q2 q3 q4 q5 q6 q7 q8 q9 q10 q11 q12 q13 q14 q15 q16 q17 q18 q19 q20, List.getElem?_map, id_pos i hi]
    rfl
  · intro H h
    by_cases h15 : i = 15
    · subst h15
      have h : va_at (eD Ec) vwCl (ea (mkE Ec h0 u hm [q0, q1, q2, q3, q4, q5, q6, q7, q8, q9, q10, q11, q12, q13, q14, q15, q16, q17, q18, q19, q20]) 15, .inl (ecy Ec 4, 8, .inr (.inr (.inr (.inr (va_up (va_up (va_up (va_up (va_up (va_up (va_up (va_up (fun _ => none) 0 (some (u.getD 36 0))) 1 (some (u.getD 41 0))) 2 (some (u.getD 46 0))) 3 (some (u.getD 51 0))) 4 (some (u.getD 56 0))) 5 (some (u.getD 61 0))) 6 (some (u.getD 66 0))) 7 (some (u.getD 71 0)))))))) H := h
      refine at_q (fun j hj => ?_) h
      rcases (show j = 0 ∨ j = 1 ∨ j = 2 ∨ j = 3 ∨ j = 4 ∨ j = 5 ∨ j = 6 ∨ j = 7 by have : j < 8 := hj; omega) with rfl | rfl | rfl | rfl | rfl | rfl | rfl | rfl <;> rfl
    · by_cases h16 : i = 16
      · subst h16
        have h : va_at (eD Ec) vwCl (ea (mkE Ec h0 u hm [q0, q1, q2, q3, q4, q5, q6, q7, q8, q9, q10, q11, q12, q13, q14, q15, q16, q17, q18, q19, q20]) 16, .inl (ecy Ec 4, 2, .inr (.inr (.inr (.inr (va_up (va_up (fun _ => none) 0 (some (u.getD 76 0))) 1 (some (u.getD 81 0)))))))) H := h
        refine at_q (fun j hj => ?_) h
        rcases (show j = 0 ∨ j = 1 by have : j < 2 := hj; omega) with rfl | rfl <;> rfl
      · rw [show cx (mkE Ec h0 u hm [q0, q1, q2, q3, q4, q5, q6, q7, q8, q9, q10, q11, q12, q13, q14, q15, q16, q17, q18, q19, q20]) u i = cellOf (mkE Ec h0 u hm [q0, q1, q2, q3, q4, q5, q6, q7, q8, q9, q10, q11, q12, q13, q14, q15, q16, q17, q18, q19, q20]) i (I00 i) (J00 i) by rw [cx, if_neg h15, if_neg h16, cellZ_eq]] at h
        exact h
theorem pos_inj : ∀ i, i < 109 → ∀ j, j < 109 → posL.getD i 0 = posL.getD j 0 → i = j := by decide +kernel
theorem m_inj {A : Nat → Prop} {Ec : ET} {h0 : Nat} {u : List Nat} {hm q0 q1 q2 q3 q4 q5 q6 q7 q8 q9 q10 q11 q12 q13 q14 q15 q16 q17 q18 q19 q20 : Nat} (hD : va_D A (po_X10 Ec h0 u ++ ((hm, .inr (9, [.int 0, .ref q0, .int 0, .ref q1, .int 0, .ref q2, .long 0, .int 0, .ref q3, .int 0, .int 0, .long 0, .int 0, .int 0, .int 0, .int 0, .int 0, .int 0, .int 0, .ref q4, .ref q5, .ref q6, .ref q7, .ref q8, .int 0, .ref q9, .int 0, .ref q10, .int 0, .ref q11, .ref q12, .ref q13, .ref q14, .ref q15, .ref q16, .ref q17, .ref q18, .ref q19, .ref q20])) :: [(q0, .inl (ecy Ec 0, 7, .inl (fun _ => 0))), (q1, .inl (ecy Ec 0, 36, .inl (fun _ => 0))), (q2, .inl (ecy Ec 0, 12, .inl (fun _ => 0))), (q3, .inl (ecy Ec 0, 160, .inl (fun _ => 0))), (q4, .inl (ecy Ec 0, 56, .inl (fun _ => 0))), (q5, .inl (ecy Ec 0, 20, .inl (fun _ => 0))), (q6, .inl (ecy Ec 0, 40, .inl (fun _ => 0))), (q7, .inl (ecy Ec 3, 2, .inl (fun _ => 0))), (q8, .inl (ecy Ec 0, 160, .inl (fun _ => 0))), (q9, .inl (ecy Ec 0, 5, .inl (fun _ => 0))), (q10, .inl (ecy Ec 0, 5, .inl (fun _ => 0))), (q11, .inl (ecy Ec 1, 343, .inr (.inl (fun _ => 0)))), (q12, .inl (ecy Ec 1, 343, .inr (.inl (fun _ => 0)))), (q13, .inl (ecy Ec 1, 343, .inr (.inl (fun _ => 0)))), (q14, .inl (ecy Ec 1, 343, .inr (.inl (fun _ => 0)))), (q15, .inl (ecy Ec 1, 343, .inr (.inl (fun _ => 0)))), (q16, .inl (ecy Ec 1, 343, .inr (.inl (fun _ => 0)))), (q17, .inl (ecy Ec 0, 7, .inl (fun _ => 0))), (q18, .inl (ecy Ec 0, 5, .inl (fun _ => 0))), (q19, .inl (ecy Ec 0, 5, .inl (fun _ => 0))), (q20, .inl (ecy Ec 1, 100, .inr (.inl (fun _ => 0))))]))) : inj (mkE Ec h0 u hm [q0, q1, q2, q3, q4, q5, q6, q7, q8, q9, q10, q11, q12, q13, q14, q15, q16, q17, q18, q19, q20]) ∧ ∀ i, i < 109 → A (ea (mkE Ec h0 u hm [q0, q1, q2, q3, q4, q5, q6, q7, q8, q9, q10, q11, q12, q13, q14, q15, q16, q17, q18, q19, q20]) i) := by
  refine ⟨fun i j hi hj e => ?_, fun i hi => ?_⟩
  · obtain ⟨x, hx, -⟩ := m_cover Ec h0 u hm q0 q1 q2 q3 q4 q5 q6 q7 q8 q9 q10 q11 q12 q13 q14 q15 q16 q17 q18 q19 q20 i hi
    obtain ⟨y, hy, -⟩ := m_cover Ec h0 u hm q0 q1 q2 q3 q4 q5 q6 q7 q8 q9 q10 q11 q12 q13 q14 q15 q16 q17 q18 q19 q20 j hj
    exact pos_inj i hi j hj (hD.1 _ _ _ _ hx hy e)
  · obtain ⟨x, hx, -⟩ := m_cover Ec h0 u hm q0 q1 q2 q3 q4 q5 q6 q7 q8 q9 q10 q11 q12 q13 q14 q15 q16 q17 q18 q19 q20 i hi
    exact hD.2 _ _ hx
