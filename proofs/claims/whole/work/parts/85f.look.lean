/-! ===== what a state holds, cell by cell ===== -/
theorem Cp.np {S : ST} {I : MI} {J : MJ} (h : Cp S I J) : I 5 8 = nI S.C.np := h.1.1
theorem Cp.nr {S : ST} {I : MI} {J : MJ} (h : Cp S I J) : I 5 9 = nI S.C.nr := h.1.2.1
theorem Cp.nc {S : ST} {I : MI} {J : MJ} (h : Cp S I J) : I 5 10 = nI S.C.nc := h.1.2.2.1
theorem Cp.pk {S : ST} {I : MI} {J : MJ} (h : Cp S I J) {i : Nat} (hi : i < S.C.np) : I 6 i = nI (S.C.pk i) := h.1.2.2.2.2.1 i hi
theorem Cp.rd {S : ST} {I : MI} {J : MJ} (h : Cp S I J) {r : Nat} (hr : r < S.C.nr) : I 8 r = nI (S.C.ra r) ∧ I 9 r = nI (S.C.rb r) ∧ I 10 r = nI (S.C.rh r) ∧ I 7 r = nI (S.C.rk r) := h.1.2.2.2.2.2.1 r hr
theorem Cp.ct {S : ST} {I : MI} {J : MJ} (h : Cp S I J) {c : Nat} (hc : c < S.C.nc) : I 11 c = nI (S.C.ck c) ∧ I 12 c = nI (S.C.cs c) ∧ I 13 c = nI (S.C.cw c) := h.1.2.2.2.2.2.2 c hc
theorem Cp.pl {S : ST} {I : MI} {J : MJ} (h : Cp S I J) {c : Nat} (hc : c < 4) : I 33 c = nI (S.D.pl c) := (h.2.1.1 c hc).1
theorem Cp.hr {S : ST} {I : MI} {J : MJ} (h : Cp S I J) {c : Nat} (hc : c < 4) : I 34 c = nI (S.D.hr c) := (h.2.1.1 c hc).2.1
theorem Cp.sn {S : ST} {I : MI} {J : MJ} (h : Cp S I J) {c : Nat} (hc : c < 4) : I 35 c = nI (S.D.sn c) := (h.2.1.1 c hc).2.2
theorem Cp.st {S : ST} {I : MI} {J : MJ} (h : Cp S I J) {p : Nat} (hp : p < 7) : I 36 p = nI (S.D.st p) := h.2.1.2.1 p hp
theorem Cp.got {S : ST} {I : MI} {J : MJ} (h : Cp S I J) : I 32 4 = S.D.got := h.2.1.2.2
theorem Mp.np {S : ST} {I : MI} {J : MJ} (h : Mp S I J) : I 87 0 = nI S.C.np := h.1.1
theorem Mp.nr {S : ST} {I : MI} {J : MJ} (h : Mp S I J) : I 87 2 = nI S.C.nr := h.1.2.1
theorem Mp.nc {S : ST} {I : MI} {J : MJ} (h : Mp S I J) : I 87 4 = nI S.C.nc := h.1.2.2.1
theorem Mp.pk {S : ST} {I : MI} {J : MJ} (h : Mp S I J) {i : Nat} (hi : i < S.C.np) : I 88 i = nI (S.C.pk i) := h.1.2.2.2.2.1 i hi
theorem Mp.rd {S : ST} {I : MI} {J : MJ} (h : Mp S I J) {r : Nat} (hr : r < S.C.nr) : I 89 (4 * r) = nI (S.C.ra r) ∧ I 89 (4 * r + 1) = nI (S.C.rb r) ∧ I 89 (4 * r + 2) = nI (S.C.rh r) ∧ I 89 (4 * r + 3) = nI (S.C.rk r) := h.1.2.2.2.2.2.1 r hr
theorem Mp.ct {S : ST} {I : MI} {J : MJ} (h : Mp S I J) {c : Nat} (hc : c < S.C.nc) : I 90 (3 * c) = nI (S.C.ck c) ∧ I 90 (3 * c + 1) = nI (S.C.cs c) ∧ I 90 (3 * c + 2) = nI (S.C.cw c) := h.1.2.2.2.2.2.2 c hc
theorem Mp.pl {S : ST} {I : MI} {J : MJ} (h : Mp S I J) {c : Nat} (hc : c < 4) : I 93 c = nI (S.D.pl c) := by have := (h.2.1.1 c hc).1; rwa [Nat.zero_add] at this
theorem Mp.hr {S : ST} {I : MI} {J : MJ} (h : Mp S I J) {c : Nat} (hc : c < 4) : I 93 (4 + c) = nI (S.D.hr c) := by have := (h.2.1.1 c hc).2.1; rwa [Nat.zero_add] at this
theorem Mp.sn {S : ST} {I : MI} {J : MJ} (h : Mp S I J) {c : Nat} (hc : c < 4) : I 93 (8 + c) = nI (S.D.sn c) := by have := (h.2.1.1 c hc).2.2; rwa [Nat.zero_add] at this
theorem Mp.st {S : ST} {I : MI} {J : MJ} (h : Mp S I J) {p : Nat} (hp : p < 7) : I 93 (12 + p) = nI (S.D.st p) := by have := h.2.1.2.1 p hp; rwa [Nat.zero_add] at this
theorem Mp.got {S : ST} {I : MI} {J : MJ} (h : Mp S I J) : I 93 19 = S.D.got := h.2.1.2.2
theorem wf.n4 {S : ST} (h : wf S) : S.C.np ≤ 7 ∧ S.C.nr ≤ 9 ∧ S.C.nc ≤ 4 := h.1.1
theorem wf.d {S : ST} (h : wf S) {c : Nat} (hc : c < S.C.nc) : S.D.pl c < S.C.np ∧ S.D.hr c ≤ 48 ∧ S.D.sn c ≤ 99 := ⟨h.2.1.1 c hc, h.2.1.2.1 c (by have := h.n4; omega)⟩
theorem wf.k {S : ST} (h : wf S) {c : Nat} (hc : c < S.C.nc) : S.C.ck c ≤ 2 ∧ S.C.cw c ≤ 3 := ⟨(h.1.2.2.2.1 c hc).1, (h.1.2.2.2.1 c hc).2.2⟩
theorem wf.pk {S : ST} (h : wf S) {p : Nat} (hp : p < S.C.np) : S.C.pk p ≤ 3 := h.1.2.1 p hp
theorem wf.r {S : ST} (h : wf S) {r : Nat} (hr : r < S.C.nr) : S.C.ra r < S.C.np ∧ S.C.rb r < S.C.np ∧ S.C.ra r ≠ S.C.rb r ∧ 1 ≤ S.C.rh r ∧ S.C.rh r ≤ 6 ∧ S.C.rk r ≤ 2 := h.1.2.2.1 r hr
theorem wf.st {S : ST} (h : wf S) {p : Nat} (hp : p < 7) : S.D.st p ≤ 999 := h.2.1.2.2.1 p hp
section HasI
variable {S : ST} {I : MI} {J : MJ} {x : Int32} {Q : Int32 → MI → MJ → Prop}
theorem c_cart_t (hw : wf S) (hc : Cp S I J) (h : inN x S.C.nc) (q : Q 1 I J) : vc_X1_hasCart x I J Q := has_t (by have := hw.n4; omega) hc.nc h q
theorem c_cart_f (hw : wf S) (hc : Cp S I J) (h : ¬ inN x S.C.nc) (q : Q 0 I J) : vc_X1_hasCart x I J Q := has_f (by have := hw.n4; omega) hc.nc h q
theorem c_road_t (hw : wf S) (hc : Cp S I J) (h : inN x S.C.nr) (q : Q 1 I J) : vc_X1_hasRoad x I J Q := has_t (by have := hw.n4; omega) hc.nr h q
theorem c_road_f (hw : wf S) (hc : Cp S I J) (h : ¬ inN x S.C.nr) (q : Q 0 I J) : vc_X1_hasRoad x I J Q := has_f (by have := hw.n4; omega) hc.nr h q
theorem c_place_t (hw : wf S) (hc : Cp S I J) (h : inN x S.C.np) (q : Q 1 I J) : vc_X1_hasPlace x I J Q := has_t (by have := hw.n4; omega) hc.np h q
theorem c_place_f (hw : wf S) (hc : Cp S I J) (h : ¬ inN x S.C.np) (q : Q 0 I J) : vc_X1_hasPlace x I J Q := has_f (by have := hw.n4; omega) hc.np h q
theorem m_cart_t (hw : wf S) (hm : Mp S I J) (h : inN x S.C.nc) (q : Q 1 I J) : vc_X11_isCart x I J Q := m_has_t (by have := hw.n4; omega) hm.nc h ⟨Or.inr rfl, q⟩
theorem m_cart_f (hw : wf S) (hm : Mp S I J) (h : ¬ inN x S.C.nc) (q : Q 0 I J) : vc_X11_isCart x I J Q := m_has_f (by have := hw.n4; omega) hm.nc h ⟨Or.inl rfl, q⟩
theorem m_road_t (hw : wf S) (hm : Mp S I J) (h : inN x S.C.nr) (q : Q 1 I J) : vc_X11_isRoad x I J Q := m_has_t (by have := hw.n4; omega) hm.nr h ⟨Or.inr rfl, q⟩
theorem m_road_f (hw : wf S) (hm : Mp S I J) (h : ¬ inN x S.C.nr) (q : Q 0 I J) : vc_X11_isRoad x I J Q := m_has_f (by have := hw.n4; omega) hm.nr h ⟨Or.inl rfl, q⟩
theorem m_place_t (hw : wf S) (hm : Mp S I J) (h : inN x S.C.np) (q : Q 1 I J) : vc_X11_isPlace x I J Q := m_has_t (by have := hw.n4; omega) hm.np h ⟨Or.inr rfl, q⟩
theorem m_place_f (hw : wf S) (hm : Mp S I J) (h : ¬ inN x S.C.np) (q : Q 0 I J) : vc_X11_isPlace x I J Q := m_has_f (by have := hw.n4; omega) hm.np h ⟨Or.inl rfl, q⟩
end HasI
/-! ===== a deed ===== -/
abbrev ST.deed (S : ST) (D' : Sd) : ST := (S.C, D', pushU S.U S.D, S.K, S.T, S.tk, S.rw)
theorem deed_wf {S : ST} {D' : Sd} (hw : wf S) (hD : wfS S.C D') : wf (S.deed D') := by
  obtain ⟨w1, w2, w3, w4, w5, w6, w7⟩ := hw
  exact ⟨w1, hD, push_wf w3 w2, w4, w5, w6, w7⟩
theorem Cp.deed {S : ST} {D' : Sd} {I I1 I' : MI} {J : MJ} (hc : Cp S I J) (hU : cU (pushU S.U S.D) I1) (e1 : ∀ j, j ≠ 14 → (j < 37 ∨ 76 < j) → I1 j = I j) (e2 : ∀ j, (j < 32 ∨ 36 < j) → I' j = I1 j) (hD : rSc D' I' 32) : Cp (S.deed D') I' J := by
  obtain ⟨h1, h2, h3, h4, h5, h6, h7⟩ := hc
  have E : ∀ j, j ≠ 14 → (j < 32 ∨ 76 < j) → I' j = I j := fun j a b => (e2 j (by omega)).trans (e1 j a (by omega))
  refine ⟨h1.cg (fun j a b => E j (by omega) (by omega)) rfl, hD, hU.cg (by rw [e2 14 (by omega)]) (by rw [e2 14 (by omega)]) (fun j a b => e2 j (by omega)), h4.cg (E 17 (by omega) (by omega)) (fun j a b => E j (by omega) (by omega)), ?_, ?_, ?_⟩
  · rw [E 1 (by omega) (by omega), E 2 (by omega) (by omega)]; exact h5
  · rw [E 18 (by omega) (by omega), E 19 (by omega) (by omega)]; exact h6
  · rw [E 20 (by omega) (by omega), E 21 (by omega) (by omega)]; exact h7
theorem Mp.deed {S : ST} {D' : Sd} {I I1 I' : MI} {J : MJ} (hm : Mp S I J) (hU : mU (pushU S.U S.D) I1) (e1 : ∀ j, j ≠ 96 → j ≠ 87 → I1 j = I j) (e3 : ∀ m, m ≠ 24 → I1 87 m = I 87 m) (e2 : ∀ j, j ≠ 93 → I' j = I1 j) (hD : rSm D' (I' 93) 0) : Mp (S.deed D') I' J := by
  obtain ⟨h1, h2, h3, h4, h5, h6, h7⟩ := hm
  have E : ∀ j, j ≠ 93 → j ≠ 96 → j ≠ 87 → I' j = I j := fun j a b d => (e2 j a).trans (e1 j b d)
  have F : ∀ m, m ≠ 24 → I' 87 m = I 87 m := fun m a => by rw [e2 87 (by decide)]; exact e3 m a
  refine ⟨h1.cg (F 0 (by decide)) (F 2 (by decide)) (F 4 (by decide)) (fun j a b => E j (by omega) (by omega) (by omega)) rfl, hD, hU.cg (by rw [e2 87 (by decide)]) (e2 96 (by decide)), h4.cg (E 95 (by decide) (by decide) (by decide)) (E 94 (by decide) (by decide) (by decide)), ?_, ?_, ?_⟩
  · rw [F 7 (by decide), E 91 (by decide) (by decide) (by decide)]; exact h5
  · rw [F 26 (by decide), E 97 (by decide) (by decide) (by decide)]; exact h6
  · rw [F 28 (by decide), E 98 (by decide) (by decide) (by decide)]; exact h7
/-- a number put in place of another -/
def setN (f : Nat → Nat) (c v : Nat) : Nat → Nat := fun i => if i = c then v else f i
theorem setN_same (f : Nat → Nat) (c v : Nat) : setN f c v c = v := if_pos rfl
theorem setN_ne {f : Nat → Nat} {c v i : Nat} (h : i ≠ c) : setN f c v i = f i := if_neg h
/-- a standing's rows behind writes to its carts -/
theorem wI_set {I : MI} {a c : Nat} {v : Nat} {f : Nat → Nat} {i : Nat} (h : I a i = nI (f i)) : wI I a c (nI v) a i = nI (setN f c v i) := by
  rw [wI_ap, if_pos rfl]
  unfold setN
  by_cases e : i = c
  · rw [if_pos e, if_pos e]
  · rw [if_neg e, if_neg e]; exact h
