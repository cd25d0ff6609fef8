/-! ===== the pure side: what class and reference hold in common ===== -/
theorem wI_ap (I : MI) (i k : Nat) (v : Int32) (j m : Nat) : wI I i k v j m = if j = i then (if m = k then v else I j m) else I j m := by
  unfold wI va_up upd
  by_cases h : j = i
  · subst h; rw [if_pos rfl, if_pos rfl]
  · rw [if_neg h, if_neg h]
theorem wI_same (I : MI) (i k : Nat) (v : Int32) : wI I i k v i k = v := by rw [wI_ap, if_pos rfl, if_pos rfl]
theorem wI_row {I : MI} {i k : Nat} {v : Int32} {j : Nat} (h : j ≠ i) : wI I i k v j = I j := by funext m; rw [wI_ap, if_neg h]
theorem wI_col {I : MI} {i k : Nat} {v : Int32} {m : Nat} (h : m ≠ k) : wI I i k v i m = I i m := by rw [wI_ap, if_pos rfl, if_neg h]
theorem wJ_ap (J : MJ) (i k : Nat) (v : Int64) (j m : Nat) : wJ J i k v j m = if j = i then (if m = k then v else J j m) else J j m := by
  unfold wJ va_up vp_updL
  by_cases h : j = i
  · subst h; rw [if_pos rfl, if_pos rfl]
  · rw [if_neg h, if_neg h]
theorem wJ_row {J : MJ} {i k : Nat} {v : Int64} {j : Nat} (h : j ≠ i) : wJ J i k v j = J j := by funext m; rw [wJ_ap, if_neg h]
theorem lit (n : Nat) : (OfNat.ofNat n : Int32) = nI n := rfl
/-- a number of these bounds -/
def inR (x : Int32) (a b : Nat) : Prop := ∃ n, a ≤ n ∧ n ≤ b ∧ x = nI n
theorem inR_of {x : Int32} {a b : Nat} (hb : b < 2 ^ 31) (h1 : ¬ x < nI a) (h2 : ¬ nI b < x) (ha : a < 2 ^ 31) : inR x a b := by
  have h3 : ¬ x < 0 := by
    intro h
    apply h1
    rw [Int32.lt_iff_toInt_lt] at h ⊢
    rw [nI_toInt ha]
    have : (0 : Int32).toInt = 0 := rfl
    omega
  obtain ⟨n, hn, rfl⟩ := nI_of h3
  rw [nI_ltI hn ha] at h1
  rw [nI_ltI hb hn] at h2
  exact ⟨n, by omega, by omega, rfl⟩
theorem inR_lo {x : Int32} {a b : Nat} (h : inR x a b) (hb : b < 2 ^ 31) : ¬ x < nI a := by
  obtain ⟨n, h1, h2, rfl⟩ := h
  rw [nI_ltI (by omega) (by omega)]; omega
theorem inR_hi {x : Int32} {a b : Nat} (h : inR x a b) (hb : b < 2 ^ 31) : ¬ nI b < x := by
  obtain ⟨n, h1, h2, rfl⟩ := h
  rw [nI_ltI (by omega) (by omega)]; omega
/-- both sides' test of bounds -/
theorem s_in_t {x lo hi : Int32} (a b : Nat) (h : inR x a b) {I : MI} {J : MJ} {Q : Int32 → MI → MJ → Prop} (q : Q 1 I J) (ha : lo = nI a := by rfl) (hb : hi = nI b := by rfl) (hb31 : b < 2 ^ 31 := by omega) : vc_X11_in x lo hi I J Q := by
  subst ha hb
  exact ⟨fun z => absurd z (inR_lo h hb31), fun _ => ⟨fun z => absurd z (inR_hi h hb31), fun _ => q⟩⟩
theorem s_in_f {x lo hi : Int32} (a b : Nat) (h : ¬ inR x a b) {I : MI} {J : MJ} {Q : Int32 → MI → MJ → Prop} (q : Q 0 I J) (ha : lo = nI a := by rfl) (hb : hi = nI b := by rfl) (ha31 : a < 2 ^ 31 := by omega) (hb31 : b < 2 ^ 31 := by omega) : vc_X11_in x lo hi I J Q := by
  subst ha hb
  exact ⟨fun _ => q, fun z1 => ⟨fun _ => q, fun z2 => absurd (inR_of hb31 z1 z2 ha31) h⟩⟩
theorem s_wi_t {x lo hi : Int32} (a b : Nat) (h : inR x a b) {I : MI} {J : MJ} {Q : Int32 → MI → MJ → Prop} (q : Q 1 I J) (ha : lo = nI a := by rfl) (hb : hi = nI b := by rfl) (hb31 : b < 2 ^ 31 := by omega) : vc_X10_within x lo hi I J Q := s_in_t a b h q ha hb hb31
theorem s_wi_f {x lo hi : Int32} (a b : Nat) (h : ¬ inR x a b) {I : MI} {J : MJ} {Q : Int32 → MI → MJ → Prop} (q : Q 0 I J) (ha : lo = nI a := by rfl) (hb : hi = nI b := by rfl) (ha31 : a < 2 ^ 31 := by omega) (hb31 : b < 2 ^ 31 := by omega) : vc_X10_within x lo hi I J Q := s_in_f a b h q ha hb ha31 hb31
theorem one_ne : ¬ (1 : Int32) = 0 := by decide
theorem b1 {A B : Prop} (a : A) : ((¬ (1 : Int32) = 0 → A) ∧ ((1 : Int32) = 0 → B)) := ⟨fun _ => a, fun z => absurd z one_ne⟩
theorem b0 {A B : Prop} (b : B) : ((¬ (0 : Int32) = 0 → A) ∧ ((0 : Int32) = 0 → B)) := ⟨fun z => absurd rfl z, fun _ => b⟩
theorem b1' {A B : Prop} (b : B) : (((1 : Int32) = 0 → A) ∧ (¬ (1 : Int32) = 0 → B)) := ⟨fun z => absurd z one_ne, fun _ => b⟩
theorem b0' {A B : Prop} (a : A) : (((0 : Int32) = 0 → A) ∧ (¬ (0 : Int32) = 0 → B)) := ⟨fun _ => a, fun z => absurd rfl z⟩
/-! the country, and what deeds change, as numbers -/
/-- (places, roads, carts), kinds of places, roads' ends, hours and kinds, carts' kinds, first places and straw, the warm hours -/
abbrev Cty : Type := (Nat × Nat × Nat) × (Nat → Nat) × ((Nat → Nat) × (Nat → Nat) × (Nat → Nat) × (Nat → Nat)) × ((Nat → Nat) × (Nat → Nat) × (Nat → Nat)) × Int64
abbrev Cty.np (C : Cty) : Nat := C.1.1
abbrev Cty.nr (C : Cty) : Nat := C.1.2.1
abbrev Cty.nc (C : Cty) : Nat := C.1.2.2
abbrev Cty.pk (C : Cty) : Nat → Nat := C.2.1
abbrev Cty.ra (C : Cty) : Nat → Nat := C.2.2.1.1
abbrev Cty.rb (C : Cty) : Nat → Nat := C.2.2.1.2.1
abbrev Cty.rh (C : Cty) : Nat → Nat := C.2.2.1.2.2.1
abbrev Cty.rk (C : Cty) : Nat → Nat := C.2.2.1.2.2.2
abbrev Cty.ck (C : Cty) : Nat → Nat := C.2.2.2.1.1
abbrev Cty.cs (C : Cty) : Nat → Nat := C.2.2.2.1.2.1
abbrev Cty.cw (C : Cty) : Nat → Nat := C.2.2.2.1.2.2
abbrev Cty.wm (C : Cty) : Int64 := C.2.2.2.2
/-- places, hours, snow of carts, stock of places, what was got -/
abbrev Sd : Type := (Nat → Nat) × (Nat → Nat) × (Nat → Nat) × (Nat → Nat) × Int32
abbrev Sd.pl (D : Sd) : Nat → Nat := D.1
abbrev Sd.hr (D : Sd) : Nat → Nat := D.2.1
abbrev Sd.sn (D : Sd) : Nat → Nat := D.2.2.1
abbrev Sd.st (D : Sd) : Nat → Nat := D.2.2.2.1
abbrev Sd.got (D : Sd) : Int32 := D.2.2.2.2
/-- a row of so many numbers -/
abbrev Rw : Type := Nat × (Nat → Nat)
/-- the country, the standing, those that can be undone (oldest first), those that are kept, the text, the takers, the row -/
abbrev ST : Type := Cty × Sd × List Sd × (Nat → Option Sd) × Rw × Rw × Rw
abbrev ST.C (S : ST) : Cty := S.1
abbrev ST.D (S : ST) : Sd := S.2.1
abbrev ST.U (S : ST) : List Sd := S.2.2.1
abbrev ST.K (S : ST) : Nat → Option Sd := S.2.2.2.1
abbrev ST.T (S : ST) : Rw := S.2.2.2.2.1
abbrev ST.tk (S : ST) : Rw := S.2.2.2.2.2.1
abbrev ST.rw (S : ST) : Rw := S.2.2.2.2.2.2
/-- the bit k of a long -/
def bj (x : Int64) (k : Nat) : Bool := x.toBitVec.getLsbD k
def wfC (C : Cty) : Prop := (C.np ≤ 7 ∧ C.nr ≤ 9 ∧ C.nc ≤ 4) ∧ (∀ i, i < C.np → C.pk i ≤ 3) ∧ (∀ r, r < C.nr → C.ra r < C.np ∧ C.rb r < C.np ∧ C.ra r ≠ C.rb r ∧ 1 ≤ C.rh r ∧ C.rh r ≤ 6 ∧ C.rk r ≤ 2) ∧ (∀ c, c < C.nc → C.ck c ≤ 2 ∧ C.cs c < C.np ∧ C.cw c ≤ 3) ∧ ∀ h, 48 ≤ h → bj C.wm h = false
def wfS (C : Cty) (D : Sd) : Prop := (∀ c, c < C.nc → D.pl c < C.np) ∧ (∀ c, c < 4 → D.hr c ≤ 48 ∧ D.sn c ≤ 99) ∧ (∀ p, p < 7 → D.st p ≤ 999) ∧ (∀ c, C.nc ≤ c → c < 4 → D.sn c = 0) ∧ (∀ p, C.np ≤ p → p < 7 → D.st p = 0)
def wfR (R : Rw) (n a b : Nat) : Prop := R.1 ≤ n ∧ ∀ i, i < R.1 → a ≤ R.2 i ∧ R.2 i ≤ b
def wf (S : ST) : Prop := wfC S.C ∧ wfS S.C S.D ∧ (S.U.length ≤ 8 ∧ ∀ (b : Nat) (D : Sd), S.U[b]? = some D → wfS S.C D) ∧ (∀ k D, k < 2 → S.K k = some D → wfS S.C D) ∧ wfR S.T 160 0 255 ∧ wfR S.tk 5 1 30 ∧ wfR S.rw 5 1 99
/-- the class's country -/
def rCc (C : Cty) (I : MI) (J : MJ) : Prop := I 5 8 = nI C.np ∧ I 5 9 = nI C.nr ∧ I 5 10 = nI C.nc ∧ J 5 11 = C.wm ∧ (∀ i, i < C.np → I 6 i = nI (C.pk i)) ∧ (∀ r, r < C.nr → I 8 r = nI (C.ra r) ∧ I 9 r = nI (C.rb r) ∧ I 10 r = nI (C.rh r) ∧ I 7 r = nI (C.rk r)) ∧ (∀ c, c < C.nc → I 11 c = nI (C.ck c) ∧ I 12 c = nI (C.cs c) ∧ I 13 c = nI (C.cw c))
/-- the reference's -/
def rCm (C : Cty) (I : MI) (J : MJ) : Prop := I 87 0 = nI C.np ∧ I 87 2 = nI C.nr ∧ I 87 4 = nI C.nc ∧ J 87 6 = C.wm ∧ (∀ i, i < C.np → I 88 i = nI (C.pk i)) ∧ (∀ r, r < C.nr → I 89 (4 * r) = nI (C.ra r) ∧ I 89 (4 * r + 1) = nI (C.rb r) ∧ I 89 (4 * r + 2) = nI (C.rh r) ∧ I 89 (4 * r + 3) = nI (C.rk r)) ∧ (∀ c, c < C.nc → I 90 (3 * c) = nI (C.ck c) ∧ I 90 (3 * c + 1) = nI (C.cs c) ∧ I 90 (3 * c + 2) = nI (C.cw c))
/-- a standing of the class, at the object a -/
def rSc (D : Sd) (I : MI) (a : Nat) : Prop := (∀ c, c < 4 → I (a + 1) c = nI (D.pl c) ∧ I (a + 2) c = nI (D.hr c) ∧ I (a + 3) c = nI (D.sn c)) ∧ (∀ p, p < 7 → I (a + 4) p = nI (D.st p)) ∧ I a 4 = D.got
/-- a standing of the reference, in a row from o on -/
def rSm (D : Sd) (f : Nat → Int32) (o : Nat) : Prop := (∀ c, c < 4 → f (o + c) = nI (D.pl c) ∧ f (o + 4 + c) = nI (D.hr c) ∧ f (o + 8 + c) = nI (D.sn c)) ∧ (∀ p, p < 7 → f (o + 12 + p) = nI (D.st p)) ∧ f (o + 19) = D.got
/-- where the b-th of n standings that can be undone lies in the ring -/
def ringA (nx n b : Nat) : Nat := 37 + 5 * ((nx + 8 - n + b) % 8)
def cU (U : List Sd) (I : MI) : Prop := I 14 5 = nI U.length ∧ ∃ nx, nx < 8 ∧ I 14 4 = nI nx ∧ ∀ (b : Nat) (D : Sd), U[b]? = some D → rSc D I (ringA nx U.length b)
def mU (U : List Sd) (I : MI) : Prop := I 87 24 = nI U.length ∧ ∀ (b : Nat) (D : Sd), U[b]? = some D → rSm D (I 96) (20 * b)
def cK (K : Nat → Option Sd) (I : MI) : Prop := ∀ k, k < 2 → (K k = none → I 17 k = 0) ∧ ∀ D, K k = some D → I 17 k = 1 ∧ rSc D I (77 + 5 * k)
def mK (K : Nat → Option Sd) (I : MI) : Prop := ∀ k, k < 2 → (K k = none → I 95 k = 0) ∧ ∀ D, K k = some D → I 95 k = 1 ∧ rSm D (I 94) (20 * k)
/-- a row of numbers: how many, and where they are -/
def rRw (R : Rw) (n : Int32) (f : Nat → Int32) : Prop := n = nI R.1 ∧ ∀ i, i < R.1 → f i = nI (R.2 i)
/-- the class's side of a state -/
def Cp (S : ST) (I : MI) (J : MJ) : Prop := rCc S.C I J ∧ rSc S.D I 32 ∧ cU S.U I ∧ cK S.K I ∧ rRw S.T (I 1 1) (I 2) ∧ rRw S.tk (I 18 1) (I 19) ∧ rRw S.rw (I 20 1) (I 21)
/-- the reference's side -/
def Mp (S : ST) (I : MI) (J : MJ) : Prop := rCm S.C I J ∧ rSm S.D (I 93) 0 ∧ mU S.U I ∧ mK S.K I ∧ rRw S.T (I 87 7) (I 91) ∧ rRw S.tk (I 87 26) (I 97) ∧ rRw S.rw (I 87 28) (I 98)
/-- what holds between two calls -/
def Inv (I : MI) (J : MJ) : Prop := ∃ S : ST, wf S ∧ Cp S I J ∧ Mp S I J
def Hi (I : MI) (J : MJ) (I' : MI) (J' : MJ) : Prop := (∀ j, 87 ≤ j → I' j = I j) ∧ ∀ j, 87 ≤ j → J' j = J j
def Lo (I : MI) (J : MJ) (I' : MI) (J' : MJ) : Prop := (∀ j, j < 87 → I' j = I j) ∧ ∀ j, j < 87 → J' j = J j
theorem Hi.rf {I : MI} {J : MJ} : Hi I J I J := ⟨fun _ _ => rfl, fun _ _ => rfl⟩
theorem Lo.rf {I : MI} {J : MJ} : Lo I J I J := ⟨fun _ _ => rfl, fun _ _ => rfl⟩
theorem Hi.tr {I I1 I2 : MI} {J J1 J2 : MJ} (a : Hi I J I1 J1) (b : Hi I1 J1 I2 J2) : Hi I J I2 J2 := ⟨fun j h => (b.1 j h).trans (a.1 j h), fun j h => (b.2 j h).trans (a.2 j h)⟩
theorem Lo.tr {I I1 I2 : MI} {J J1 J2 : MJ} (a : Lo I J I1 J1) (b : Lo I1 J1 I2 J2) : Lo I J I2 J2 := ⟨fun j h => (b.1 j h).trans (a.1 j h), fun j h => (b.2 j h).trans (a.2 j h)⟩
theorem Hi.w {I : MI} {J : MJ} {i k : Nat} {v : Int32} (h : i < 87) : Hi I J (wI I i k v) J := ⟨fun j hj => wI_row (by omega), fun _ _ => rfl⟩
theorem Lo.w {I : MI} {J : MJ} {i k : Nat} {v : Int32} (h : 87 ≤ i) : Lo I J (wI I i k v) J := ⟨fun j hj => wI_row (by omega), fun _ _ => rfl⟩
theorem Hi.wJ {I : MI} {J : MJ} {i k : Nat} {v : Int64} (h : i < 87) : Hi I J I (wJ J i k v) := ⟨fun _ _ => rfl, fun j hj => wJ_row (by omega)⟩
theorem Lo.wJ {I : MI} {J : MJ} {i k : Nat} {v : Int64} (h : 87 ≤ i) : Lo I J I (wJ J i k v) := ⟨fun _ _ => rfl, fun j hj => wJ_row (by omega)⟩
/-! which cells each part looks at -/
theorem rSc.cg {D : Sd} {I I' : MI} {a : Nat} (h : rSc D I a) (e : ∀ j, a ≤ j → j ≤ a + 4 → I' j = I j) : rSc D I' a := by
  obtain ⟨h1, h2, h3⟩ := h
  exact ⟨fun c hc => by rw [e (a + 1) (by omega) (by omega), e (a + 2) (by omega) (by omega), e (a + 3) (by omega) (by omega)]; exact h1 c hc, fun p hp => by rw [e (a + 4) (by omega) (by omega)]; exact h2 p hp, by rw [e a (by omega) (by omega)]; exact h3⟩
theorem ring_in {nx n b : Nat} : 37 ≤ ringA nx n b ∧ ringA nx n b + 4 ≤ 76 := by
  unfold ringA
  have := Nat.mod_lt (nx + 8 - n + b) (show 0 < 8 by decide)
  omega
theorem cU.cg {U : List Sd} {I I' : MI} (h : cU U I) (e1 : I' 14 5 = I 14 5) (e3 : I' 14 4 = I 14 4) (e4 : ∀ j, 37 ≤ j → j ≤ 76 → I' j = I j) : cU U I' := by
  obtain ⟨h2, nx, h4, h5, h6⟩ := h
  refine ⟨by rw [e1]; exact h2, nx, h4, by rw [e3]; exact h5, fun b D hb => ?_⟩
  have := @ring_in nx U.length b
  exact (h6 b D hb).cg (fun j q1 q2 => e4 j (by omega) (by omega))
theorem cK.cg {K : Nat → Option Sd} {I I' : MI} (h : cK K I) (e1 : I' 17 = I 17) (e4 : ∀ j, 77 ≤ j → j ≤ 86 → I' j = I j) : cK K I' := by
  intro k hk
  obtain ⟨a, b⟩ := h k hk
  exact ⟨fun z => by rw [e1]; exact a z, fun D z => ⟨by rw [e1]; exact (b D z).1, (b D z).2.cg (fun j q1 q2 => e4 j (by omega) (by omega))⟩⟩
theorem rCc.cg {C : Cty} {I I' : MI} {J J' : MJ} (h : rCc C I J) (e : ∀ j, 5 ≤ j → j ≤ 13 → I' j = I j) (eJ : J' 5 = J 5) : rCc C I' J' := by
  unfold rCc at h ⊢
  rw [e 5 (by decide) (by decide), e 6 (by decide) (by decide), e 7 (by decide) (by decide), e 8 (by decide) (by decide), e 9 (by decide) (by decide), e 10 (by decide) (by decide), e 11 (by decide) (by decide), e 12 (by decide) (by decide), e 13 (by decide) (by decide), eJ]
  exact h
theorem rCm.cg {C : Cty} {I I' : MI} {J J' : MJ} (h : rCm C I J) (e0 : I' 87 0 = I 87 0) (e2 : I' 87 2 = I 87 2) (e4 : I' 87 4 = I 87 4) (e : ∀ j, 88 ≤ j → j ≤ 90 → I' j = I j) (eJ : J' 87 6 = J 87 6) : rCm C I' J' := by
  unfold rCm at h ⊢
  rw [e0, e2, e4, e 88 (by decide) (by decide), e 89 (by decide) (by decide), e 90 (by decide) (by decide), eJ]
  exact h
/-- the class's side stays, whatever its scratch rows hold: 1 but its length, 3, 4, 22, 23, 25, and the rows of reach -/
theorem Cp.cg {S : ST} {I I' : MI} {J J' : MJ} (h : Cp S I J) (e : ∀ j, j < 87 → j ≠ 1 → j ≠ 3 → j ≠ 4 → j ≠ 22 → j ≠ 23 → j ≠ 25 → I' j = I j) (e1 : I' 1 1 = I 1 1) (eJ : J' 5 = J 5) : Cp S I' J' := by
  obtain ⟨h1, h2, h3, h4, h5, h6, h7⟩ := h
  have E : ∀ j, j < 87 → 25 < j → I' j = I j := fun j a b => e j a (by omega) (by omega) (by omega) (by omega) (by omega) (by omega)
  refine ⟨h1.cg (fun j a b => e j (by omega) (by omega) (by omega) (by omega) (by omega) (by omega) (by omega)) eJ, h2.cg (fun j a b => E j (by omega) (by omega)), h3.cg ?_ ?_ (fun j a b => E j (by omega) (by omega)), h4.cg ?_ (fun j a b => E j (by omega) (by omega)), ?_, ?_, ?_⟩
  · rw [e 14 (by decide) (by decide) (by decide) (by decide) (by decide) (by decide) (by decide)]
  · rw [e 14 (by decide) (by decide) (by decide) (by decide) (by decide) (by decide) (by decide)]
  · exact e 17 (by decide) (by decide) (by decide) (by decide) (by decide) (by decide) (by decide)
  · rw [e1, e 2 (by decide) (by decide) (by decide) (by decide) (by decide) (by decide) (by decide)]; exact h5
  · rw [e 18 (by decide) (by decide) (by decide) (by decide) (by decide) (by decide) (by decide), e 19 (by decide) (by decide) (by decide) (by decide) (by decide) (by decide) (by decide)]; exact h6
  · rw [e 20 (by decide) (by decide) (by decide) (by decide) (by decide) (by decide) (by decide), e 21 (by decide) (by decide) (by decide) (by decide) (by decide) (by decide) (by decide)]; exact h7
theorem mU.cg {U : List Sd} {I I' : MI} (h : mU U I) (e1 : I' 87 24 = I 87 24) (e5 : I' 96 = I 96) : mU U I' := ⟨by rw [e1]; exact h.1, fun b D hb => by rw [e5]; exact h.2 b D hb⟩
theorem mK.cg {K : Nat → Option Sd} {I I' : MI} (h : mK K I) (e1 : I' 95 = I 95) (e5 : I' 94 = I 94) : mK K I' := by unfold mK at h ⊢; rw [e1, e5]; exact h
/-- the reference's side stays, whatever its scratch rows hold -/
theorem Mp.cg {S : ST} {I I' : MI} {J J' : MJ} (h : Mp S I J) (e : ∀ j, 88 ≤ j → j ≤ 98 → j ≠ 92 → I' j = I j) (e87 : ∀ m, (m ≤ 8 ∨ 19 ≤ m) → I' 87 m = I 87 m) (eJ : J' 87 6 = J 87 6) : Mp S I' J' := by
  obtain ⟨h1, h2, h3, h4, h5, h6, h7⟩ := h
  refine ⟨h1.cg (e87 0 (by decide)) (e87 2 (by decide)) (e87 4 (by decide)) (fun j a b => e j a (by omega) (by omega)) eJ, ?_, h3.cg (e87 24 (by decide)) (e 96 (by decide) (by decide) (by decide)), h4.cg (e 95 (by decide) (by decide) (by decide)) (e 94 (by decide) (by decide) (by decide)), ?_, ?_, ?_⟩
  · rw [e 93 (by decide) (by decide) (by decide)]; exact h2
  · rw [e87 7 (by decide), e 91 (by decide) (by decide) (by decide)]; exact h5
  · rw [e87 26 (by decide), e 97 (by decide) (by decide) (by decide)]; exact h6
  · rw [e87 28 (by decide), e 98 (by decide) (by decide) (by decide)]; exact h7
theorem Cp.lo {S : ST} {I I' : MI} {J J' : MJ} (h : Cp S I J) (e : Lo I J I' J') : Cp S I' J' := h.cg (fun j a _ _ _ _ _ _ => e.1 j a) (by rw [e.1 1 (by decide)]) (e.2 5 (by decide))
theorem Mp.hi {S : ST} {I I' : MI} {J J' : MJ} (h : Mp S I J) (e : Hi I J I' J') : Mp S I' J' := h.cg (fun j a _ _ => e.1 j (by omega)) (fun m _ => by rw [e.1 87 (by decide)]) (by rw [e.2 87 (by decide)])
/-- both sides keep to one account of a call: then they answer alike, and what holds between calls holds again -/
theorem bothI {α : Type} {vcC vcM : MI → MJ → (α → MI → MJ → Prop) → Prop} {I : MI} {J : MJ} {S S' : ST} {r : α} (hw : wf S') (hm0 : Mp S I J)
    (hc : ∀ Q : α → MI → MJ → Prop, (∀ I' J', Cp S' I' J' → Hi I J I' J' → Q r I' J') → vcC I J Q)
    (hm : ∀ (I1 : MI) (J1 : MJ) (Q : α → MI → MJ → Prop), Mp S I1 J1 → (∀ I' J', Mp S' I' J' → Lo I1 J1 I' J' → Q r I' J') → vcM I1 J1 Q) :
    vcC I J (fun r I1 J1 => vcM I1 J1 (fun q I2 J2 => r = q ∧ Inv I2 J2)) :=
  hc _ (fun I' J' h1 h2 => hm I' J' _ (hm0.hi h2) (fun I2 J2 h3 h4 => ⟨rfl, S', hw, h1.lo h4, h3⟩))
