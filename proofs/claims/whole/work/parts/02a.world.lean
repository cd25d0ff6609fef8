/-! ===== the world of all cells: 0 SnowCourse, 1 Script and its rows 2 to 4, 5 Country and its rows 6 to 13, 14 Chronicle, 15 past, 16 kept, 17 isKept, 18 Takers 19, 20 PassRow 21 to 23, 24 Ways 25, 26 28 30 Reach with 27 29 31, 32 + 5 k Standing k (0 now, 1 to 8 past, 9 10 kept) with its four rows, 87 SnowCourseModel and its rows 88 to 108 ===== -/
abbrev MI : Type := Nat → Nat → Int32
abbrev MJ : Type := Nat → Nat → Int64
/-- what a run doesn't change: the classes' numbers and slots, each cell's address, the array classes, the addresses of the texts and of their bytes -/
abbrev ET : Type := va_G × (Nat → Nat) × (Nat → ClassId) × (Nat → Nat) × (Nat → Nat)
abbrev eD (E : ET) : va_G := E.1
abbrev ea (E : ET) : Nat → Nat := E.2.1
abbrev ecy (E : ET) : Nat → ClassId := E.2.2.1
abbrev eK (E : ET) : Nat → Nat := E.2.2.2.1
abbrev eV (E : ET) : Nat → Nat := E.2.2.2.2
def kdL : List (Nat × Nat) := [(5, 8), (5, 4), (2, 160), (0, 14), (0, 42), (5, 1), (0, 7), (0, 9), (0, 9), (0, 9), (0, 9), (0, 4), (0, 4), (0, 4), (5, 0), (4, 8), (4, 2), (3, 2), (5, 6), (0, 5), (5, 2), (0, 5), (0, 25), (0, 32), (5, 7), (0, 7), (5, 3), (1, 700), (5, 3), (1, 700), (5, 3), (1, 700), (5, 5), (0, 4), (0, 4), (0, 4), (0, 7), (5, 5), (0, 4), (0, 4), (0, 4), (0, 7), (5, 5), (0, 4), (0, 4), (0, 4), (0, 7), (5, 5), (0, 4), (0, 4), (0, 4), (0, 7), (5, 5), (0, 4), (0, 4), (0, 4), (0, 7), (5, 5), (0, 4), (0, 4), (0, 4), (0, 7), (5, 5), (0, 4), (0, 4), (0, 4), (0, 7), (5, 5), (0, 4), (0, 4), (0, 4), (0, 7), (5, 5), (0, 4), (0, 4), (0, 4), (0, 7), (5, 5), (0, 4), (0, 4), (0, 4), (0, 7), (5, 5), (0, 4), (0, 4), (0, 4), (0, 7), (5, 9), (0, 7), (0, 36), (0, 12), (0, 160), (0, 56), (0, 20), (0, 40), (3, 2), (0, 160), (0, 5), (0, 5), (1, 343), (1, 343), (1, 343), (1, 343), (1, 343), (1, 343), (0, 7), (0, 5), (0, 5), (1, 100)]
def kd (i : Nat) : Nat × Nat := kdL.getD i (9, 0)
/-- a class's fields: 0 an int, 1 a long, o + 2 the cell o -/
def tabO (ci i : Nat) : List Nat := match ci with
  | 0 => [34, 17, 18, 19, 0, 0]
  | 1 => [8, 9, 10, 11, 12, 13, 14, 15, 0, 0, 0, 1]
  | 2 => [23, 0, 24, 25]
  | 3 => [i + 3]
  | 4 => [4, 0, 5, 6, 0, 0, 0, 0, 0, 0]
  | 5 => [i + 3, i + 4, i + 5, i + 6, 0]
  | 6 => [21, 0]
  | 7 => [27]
  | 8 => [3, 7, 16, 20, 22, 26, 28, 30, 32]
  | _ => [0, 90, 0, 91, 0, 92, 1, 0, 93, 0, 0, 1, 0, 0, 0, 0, 0, 0, 0, 94, 95, 96, 97, 98, 0, 99, 0, 100, 0, 101, 102, 103, 104, 105, 106, 107, 108, 109, 110]
def fld (ad : Nat → Nat) (r : Nat → Int32) (rj : Nat → Int64) (k f : Nat) : Value := match f with
  | 0 => .int (r k)
  | 1 => .long (rj k)
  | o + 2 => .ref (ad o)
def flds (ad : Nat → Nat) (t : List Nat) (r : Nat → Int32) (rj : Nat → Int64) : List Value := t.mapIdx (fun k f => fld ad r rj k f)
def cellK (E : ET) (q : Nat × Nat) (i : Nat) (r : Nat → Int32) (rj : Nat → Int64) : va_E := match q.1 with
  | 0 => .inl (ecy E 0, q.2, .inl r)
  | 1 => .inl (ecy E 1, q.2, .inr (.inl rj))
  | 2 => .inl (ecy E 2, q.2, .inl r)
  | 3 => .inl (ecy E 3, q.2, .inl r)
  | 4 => .inl (ecy E 4, q.2, .inr (.inr (.inr (.inr (fun j => some (ea E ((if q.2 = 8 then 37 else 77) + 5 * j)))))))
  | _ => .inr (q.2, flds (ea E) (tabO q.2 i) r rj)
def cellOf (E : ET) (i : Nat) (r : Nat → Int32) (rj : Nat → Int64) : va_E := cellK E (kd i) i r rj
def wd (E : ET) (I : MI) (J : MJ) : va_W := (List.range 109).map (fun i => (ea E i, cellOf E i (I i) (J i)))
def tysE (E : ET) : List (ClassId × FieldType) := [(ecy E 0, .int), (ecy E 1, .long), (ecy E 2, .char), (ecy E 3, .boolean), (ecy E 4, .object "SnowCourse$Standing")]
def wI (I : MI) (i k : Nat) (v : Int32) : MI := va_up I i (upd (I i) k v)
def wJ (J : MJ) (i k : Nat) (v : Int64) : MJ := va_up J i (vp_updL (J i) k v)
theorem wd_get {E : ET} {I : MI} {J : MJ} {i : Nat} (hi : i < 109) : (wd E I J)[i]? = some (ea E i, cellOf E i (I i) (J i)) := by
  simp [wd, List.getElem?_map, List.getElem?_range hi]
theorem wd_len {E : ET} {I : MI} {J : MJ} : (wd E I J).length = 109 := by simp [wd]
theorem wd_setI {E : ET} {I : MI} {J : MJ} {i : Nat} (r : Nat → Int32) : (wd E I J).set i (ea E i, cellOf E i r (J i)) = wd E (va_up I i r) J := by
  apply List.ext_getElem?
  intro k
  by_cases hk : k < 109
  · rw [wd_get hk]
    by_cases h : k = i
    · subst h
      rw [List.getElem?_set_self (by rw [wd_len]; exact hk), show va_up _ _ _ k = _ from if_pos rfl]
    · rw [List.getElem?_set_ne (Ne.symm h), wd_get hk, show va_up _ _ _ k = _ from if_neg h]
  · rw [List.getElem?_eq_none (by rw [List.length_set, wd_len]; omega), List.getElem?_eq_none (by rw [wd_len]; omega)]
theorem wd_setJ {E : ET} {I : MI} {J : MJ} {i : Nat} (r : Nat → Int64) : (wd E I J).set i (ea E i, cellOf E i (I i) r) = wd E I (va_up J i r) := by
  apply List.ext_getElem?
  intro k
  by_cases hk : k < 109
  · rw [wd_get hk]
    by_cases h : k = i
    · subst h
      rw [List.getElem?_set_self (by rw [wd_len]; exact hk), show va_up _ _ _ k = _ from if_pos rfl]
    · rw [List.getElem?_set_ne (Ne.symm h), wd_get hk, show va_up _ _ _ k = _ from if_neg h]
  · rw [List.getElem?_eq_none (by rw [List.length_set, wd_len]; omega), List.getElem?_eq_none (by rw [wd_len]; omega)]
theorem co_ia {E : ET} {i n : Nat} {r : Nat → Int32} {rj : Nat → Int64} (h : kd i = (0, n)) : cellOf E i r rj = .inl (ecy E 0, n, .inl r) := by rw [cellOf, h]; rfl
theorem co_ja {E : ET} {i n : Nat} {r : Nat → Int32} {rj : Nat → Int64} (h : kd i = (1, n)) : cellOf E i r rj = .inl (ecy E 1, n, .inr (.inl rj)) := by rw [cellOf, h]; rfl
theorem co_ca {E : ET} {i n : Nat} {r : Nat → Int32} {rj : Nat → Int64} (h : kd i = (2, n)) : cellOf E i r rj = .inl (ecy E 2, n, .inl r) := by rw [cellOf, h]; rfl
theorem co_za {E : ET} {i n : Nat} {r : Nat → Int32} {rj : Nat → Int64} (h : kd i = (3, n)) : cellOf E i r rj = .inl (ecy E 3, n, .inl r) := by rw [cellOf, h]; rfl
theorem co_qa {E : ET} {i n : Nat} {r : Nat → Int32} {rj : Nat → Int64} (h : kd i = (4, n)) : cellOf E i r rj = .inl (ecy E 4, n, .inr (.inr (.inr (.inr (fun j => some (ea E ((if n = 8 then 37 else 77) + 5 * j))))))) := by rw [cellOf, h]; rfl
theorem co_o {E : ET} {i ci : Nat} {r : Nat → Int32} {rj : Nat → Int64} (h : kd i = (5, ci)) : cellOf E i r rj = .inr (ci, flds (ea E) (tabO ci i) r rj) := by rw [cellOf, h]; rfl
theorem fl_get {ad : Nat → Nat} {t : List Nat} {r : Nat → Int32} {rj : Nat → Int64} {k f : Nat} (h : t[k]? = some f) : (flds ad t r rj)[k]? = some (fld ad r rj k f) := by simp [flds, List.getElem?_mapIdx, h]
theorem fl_len {ad : Nat → Nat} {t : List Nat} {r : Nat → Int32} {rj : Nat → Int64} : (flds ad t r rj).length = t.length := by simp [flds]
theorem fl_setI {ad : Nat → Nat} {t : List Nat} {r : Nat → Int32} {rj : Nat → Int64} {k : Nat} {v : Int32} (h : t[k]? = some 0) : (flds ad t r rj).set k (.int v) = flds ad t (upd r k v) rj := by
  apply List.ext_getElem?
  intro j
  by_cases hj : j = k
  · subst hj
    rw [fl_get h, List.getElem?_set_self (by rw [fl_len]; exact (List.getElem?_eq_some_iff.mp h).1)]
    simp [fld, upd]
  · rw [List.getElem?_set_ne (Ne.symm hj)]
    cases ht : t[j]? with
    | none => simp [flds, List.getElem?_mapIdx, ht]
    | some f =>
      rw [fl_get ht, fl_get ht]
      match f with
      | 0 => simp [fld, upd, hj]
      | 1 => rfl
      | o + 2 => rfl
theorem fl_setJ {ad : Nat → Nat} {t : List Nat} {r : Nat → Int32} {rj : Nat → Int64} {k : Nat} {v : Int64} (h : t[k]? = some 1) : (flds ad t r rj).set k (.long v) = flds ad t r (vp_updL rj k v) := by
  apply List.ext_getElem?
  intro j
  by_cases hj : j = k
  · subst hj
    rw [fl_get h, List.getElem?_set_self (by rw [fl_len]; exact (List.getElem?_eq_some_iff.mp h).1)]
    simp [fld, vp_updL]
  · rw [List.getElem?_set_ne (Ne.symm hj)]
    cases ht : t[j]? with
    | none => simp [flds, List.getElem?_mapIdx, ht]
    | some f =>
      rw [fl_get ht, fl_get ht]
      match f with
      | 0 => rfl
      | 1 => simp [fld, vp_updL, hj]
      | o + 2 => rfl
/-- the addresses are apart -/
def inj (E : ET) : Prop := ∀ i j : Nat, i < 109 → j < 109 → ea E i = ea E j → i = j
theorem wd_D {E : ET} {A : Nat → Prop} {I : MI} {J : MJ} (hi : inj E) (hA : ∀ i, i < 109 → A (ea E i)) : va_D A (wd E I J) := by
  have key : ∀ (k : Nat) (q : Nat × va_E), (wd E I J)[k]? = some q → k < 109 ∧ q.1 = ea E k := by
    intro k q h
    have hk : k < 109 := by have := (List.getElem?_eq_some_iff.mp h).1; rw [wd_len] at this; exact this
    rw [wd_get hk] at h
    exact ⟨hk, by rw [← Option.some.inj h]⟩
  refine ⟨fun i j p q h1 h2 h => ?_, fun k q h => ?_⟩
  · obtain ⟨a1, a2⟩ := key i p h1
    obtain ⟨b1, b2⟩ := key j q h2
    exact hi i j a1 b1 (by rw [← a2, ← b2, h])
  · obtain ⟨a1, a2⟩ := key k q h
    rw [a2]
    exact hA k a1
/-- which cells a method may change: the world's, and those that it makes -/
def aA (E : ET) (sz : Nat) : Nat → Prop := fun q => (∃ i, i < 109 ∧ q = ea E i) ∨ sz ≤ q

