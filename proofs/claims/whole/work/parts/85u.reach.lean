/-! ===== what may come: where a cart may be, when, with how much ===== -/
abbrev P3 : Type := Nat → Nat → Nat → Prop
/-- what comes of a place, an hour, so many pounds: rested, gone by the roads below i -/
def tgI (C : Cty) (k s p h w i : Nat) : P3 := fun p' h' w' => (p' = p ∧ h' = h + 1 ∧ w' = rst C p w k s h) ∨ ∃ r, r < i ∧ tch C r p ∧ h + C.rh r ≤ 48 ∧ p' = far C r p ∧ h' = h + C.rh r ∧ w' = gn C r w k s h
def stq (C : Cty) (k s p h w : Nat) : P3 := fun p' h' w' => h < 48 ∧ tgI C k s p h w C.nr p' h' w'
def rch (C : Cty) (k s : Nat) (E0 : P3) : Nat → P3
  | 0 => E0
  | n + 1 => fun p' h' w' => ∃ p h w, rch C k s E0 n p h w ∧ stq C k s p h w p' h' w'
def RC (C : Cty) (k s : Nat) (E0 : P3) : P3 := fun p h w => ∃ n, rch C k s E0 n p h w
def dom (C : Cty) (E : P3) : Prop := ∀ p h w, E p h w → p < C.np ∧ h ≤ 48 ∧ w ≤ 99
theorem tgI_b {C : Cty} (hC : wfC C) {k s p h w i p' h' w' : Nat} (hi : i ≤ C.nr) (hh : h < 48) (hp : p < C.np) (t : tgI C k s p h w i p' h' w') : p' < C.np ∧ h < h' ∧ h' ≤ 48 ∧ w' ≤ w := by
  rcases t with ⟨rfl, rfl, rfl⟩ | ⟨r, r1, r2, r3, rfl, rfl, rfl⟩
  · exact ⟨hp, by omega, by omega, rst_le _ _ _ _ _ _⟩
  · have h1 := hC.2.2.1 r (by omega)
    exact ⟨by unfold far; split <;> omega, by omega, r3, gn_le _ _ _ _ _ _⟩
theorem tgI_s {C : Cty} {k s p h w i p' h' w' : Nat} (h1 : tch C i p) (h2 : h + C.rh i ≤ 48) : tgI C k s p h w (i + 1) p' h' w' ↔ tgI C k s p h w i p' h' w' ∨ (p' = far C i p ∧ h' = h + C.rh i ∧ w' = gn C i w k s h) := by
  constructor
  · rintro (t | ⟨r, r1, r2, r3, r4⟩)
    · exact Or.inl (Or.inl t)
    · by_cases e : r = i
      · subst e; exact Or.inr r4
      · exact Or.inl (Or.inr ⟨r, by omega, r2, r3, r4⟩)
  · rintro ((t | ⟨r, r1, r2⟩) | t)
    · exact Or.inl t
    · exact Or.inr ⟨r, by omega, r2⟩
    · exact Or.inr ⟨i, by omega, h1, h2, t⟩
theorem tgI_n {C : Cty} {k s p h w i p' h' w' : Nat} (h1 : ¬ (tch C i p ∧ h + C.rh i ≤ 48)) : tgI C k s p h w (i + 1) p' h' w' ↔ tgI C k s p h w i p' h' w' := by
  constructor
  · rintro (t | ⟨r, r1, r2, r3, r4⟩)
    · exact Or.inl t
    · by_cases e : r = i
      · subst e; exact absurd ⟨r2, r3⟩ h1
      · exact Or.inr ⟨r, by omega, r2, r3, r4⟩
  · rintro (t | ⟨r, r1, r2⟩)
    · exact Or.inl t
    · exact Or.inr ⟨r, by omega, r2⟩
theorem RC_dom {C : Cty} (hC : wfC C) {k s : Nat} {E0 : P3} (h0 : dom C E0) : dom C (RC C k s E0) := by
  rintro p h w ⟨n, hn⟩
  induction n generalizing p h w with
  | zero => exact h0 p h w hn
  | succ n ih =>
    obtain ⟨p0, h0, w0, hr, h48, ht⟩ := hn
    have h1 := ih p0 h0 w0 hr
    have h2 := tgI_b hC (Nat.le_refl _) h48 h1.1 ht
    exact ⟨h2.1, h2.2.2.1, by omega⟩
theorem RC_st {C : Cty} {k s : Nat} {E0 : P3} {p h w p' h' w' : Nat} (a : RC C k s E0 p h w) (b : stq C k s p h w p' h' w') : RC C k s E0 p' h' w' := by
  obtain ⟨n, hn⟩ := a
  exact ⟨n + 1, p, h, w, hn, b⟩
theorem rch_cg {C : Cty} {k s : Nat} {E0 E1 : P3} (e : ∀ p h w, E0 p h w ↔ E1 p h w) : ∀ n p h w, rch C k s E0 n p h w ↔ rch C k s E1 n p h w
  | 0, p, h, w => e p h w
  | n + 1, p, h, w => by
    constructor
    · rintro ⟨p0, h0, w0, a, b⟩
      exact ⟨p0, h0, w0, (rch_cg e n p0 h0 w0).mp a, b⟩
    · rintro ⟨p0, h0, w0, a, b⟩
      exact ⟨p0, h0, w0, (rch_cg e n p0 h0 w0).mpr a, b⟩
theorem RC_cg {C : Cty} {k s : Nat} {E0 E1 : P3} (e : ∀ p h w, E0 p h w ↔ E1 p h w) (p h w : Nat) : RC C k s E0 p h w ↔ RC C k s E1 p h w :=
  ⟨fun ⟨n, hn⟩ => ⟨n, (rch_cg e n p h w).mp hn⟩, fun ⟨n, hn⟩ => ⟨n, (rch_cg e n p h w).mpr hn⟩⟩
/-- what is marked may be; what was marked is; what is marked, and done, has left -/
def good (C : Cty) (k s : Nat) (E0 E D : P3) : Prop := (∀ p h w, E p h w → RC C k s E0 p h w) ∧ (∀ p h w, E0 p h w → E p h w) ∧ ∀ p h w, D p h w → E p h w → ∀ p' h' w', stq C k s p h w p' h' w' → E p' h' w'
theorem good_step {C : Cty} {k s : Nat} {E0 E E' D D' : P3} {p h w : Nat} (g : good C k s E0 E D) (hc : E p h w) (h48 : h < 48) (hE : ∀ p' h' w', E' p' h' w' ↔ E p' h' w' ∨ tgI C k s p h w C.nr p' h' w') (hD : ∀ p' h' w', E p' h' w' → D' p' h' w' → D p' h' w' ∨ (p' = p ∧ h' = h ∧ w' = w)) (hN : ∀ p' h' w', tgI C k s p h w C.nr p' h' w' → ¬ D' p' h' w') : good C k s E0 E' D' := by
  obtain ⟨g1, g2, g3⟩ := g
  refine ⟨fun a b c e => ?_, fun a b c e => (hE a b c).mpr (Or.inl (g2 a b c e)), fun a b c d e a' b' c' t => ?_⟩
  · rcases (hE a b c).mp e with e | e
    · exact g1 a b c e
    · exact RC_st (g1 p h w hc) ⟨h48, e⟩
  · rcases (hE a b c).mp e with e | e
    · rcases hD a b c e d with d | ⟨rfl, rfl, rfl⟩
      · exact (hE a' b' c').mpr (Or.inl (g3 a b c d e a' b' c' t))
      · exact (hE a' b' c').mpr (Or.inr t.2)
    · exact absurd d (hN a b c e)
theorem good_skip {C : Cty} {k s : Nat} {E0 E D D' : P3} (g : good C k s E0 E D) (hD : ∀ p h w, h < 48 → E p h w → D' p h w → D p h w) : good C k s E0 E D' :=
  ⟨g.1, g.2.1, fun a b c d e a' b' c' t => g.2.2 a b c (hD a b c t.1 e d) e a' b' c' t⟩
theorem good_fin {C : Cty} {k s : Nat} {E0 E D : P3} (g : good C k s E0 E D) (hD : ∀ p h w, E p h w → h < 48 → D p h w) (p h w : Nat) : E p h w ↔ RC C k s E0 p h w := by
  have key : ∀ n p h w, rch C k s E0 n p h w → E p h w := by
    intro n
    induction n with
    | zero => intro p h w hn; exact g.2.1 p h w hn
    | succ n ih =>
      rintro p h w ⟨p0, h0, w0, hr, ht⟩
      have h1 := ih p0 h0 w0 hr
      exact g.2.2 p0 h0 w0 (hD p0 h0 w0 h1 ht.1) h1 p h w ht
  exact ⟨g.1 p h w, fun ⟨n, hn⟩ => key n p h w hn⟩
theorem good_0 {C : Cty} {k s : Nat} {E0 D : P3} (hD : ∀ p h w, E0 p h w → ¬ D p h w) : good C k s E0 E0 D :=
  ⟨fun p h w e => ⟨0, e⟩, fun _ _ _ e => e, fun p h w d e => absurd d (hD p h w e)⟩
/-! the class's row: by place and snow the hours, by bits -/
def EC (r : Nat → Int64) : P3 := fun p h w => p < 7 ∧ h < 64 ∧ w < 100 ∧ bj (r (p * 100 + w)) h = true
theorem ix100 (p w : Nat) : nI p * 100 + nI w = nI (p * 100 + w) := by rw [show (100 : Int32) = nI 100 from rfl, pk_mul, nI_add]
section Rch
variable {C : Cty} {I : MI} {J : MJ} {a0 : Nat}
theorem c_clear {Q : MI → MJ → Prop} (q : ∀ J' : MJ, (∀ j, j ≠ a0 + 1 → J' j = J j) → (∀ p h w, ¬ EC (J' (a0 + 1)) p h w) → Q I J') : vc_X5_clear a0 I J Q := by
  unfold vc_X5_clear
  refine c_fillJ (by omega) (fun J' k1 k2 => q J' k1 (fun p h w => ?_))
  rintro ⟨h1, h2, h3, h4⟩
  rw [k2 _ (by omega), bj_0] at h4
  cases h4
theorem c_mark {p h w : Nat} (hp : p < 7) (hh : h < 64) (hw : w < 100) {Q : MI → MJ → Prop} (q : ∀ J' : MJ, (∀ j, j ≠ a0 + 1 → J' j = J j) → (∀ p' h' w', EC (J' (a0 + 1)) p' h' w' ↔ EC (J (a0 + 1)) p' h' w' ∨ (p' = p ∧ h' = h ∧ w' = w)) → Q I J') : vc_X5_mark a0 (nI p) (nI h) (nI w) I J Q := by
  unfold vc_X5_mark
  rw [ix100, nI_clamp (by omega)]
  have v := vp_in_nI (n := p * 100 + w) (N := 700) (by omega) (by omega)
  refine ⟨v, v, nm_e (q _ (fun j hj => wJ_row hj) (fun p' h' w' => ?_))⟩
  unfold EC
  rw [wJ_ap, if_pos rfl]
  by_cases e : p' * 100 + w' = p * 100 + w
  · rw [if_pos e, bj_or, bj_pow hh, e, Bool.or_eq_true, decide_eq_true_eq]
    constructor
    · rintro ⟨h1, h2, h3, h4 | h4⟩
      · exact Or.inl ⟨h1, h2, h3, h4⟩
      · exact Or.inr ⟨by omega, h4, by omega⟩
    · rintro (⟨h1, h2, h3, h4⟩ | ⟨h1, h2, h3⟩)
      · exact ⟨h1, h2, h3, Or.inl h4⟩
      · exact ⟨by omega, by omega, by omega, Or.inr h2⟩
  · rw [if_neg e]
    constructor
    · intro h; exact Or.inl h
    · rintro (h | ⟨rfl, rfl, rfl⟩)
      · exact h
      · exact absurd rfl e
theorem c_leave (hC : wfC C) (hc : rCc C I J) (ha : a0 + 1 ≠ 5) {p h w k s : Nat} (hp : p < C.np) (hh : h < 48) (hw : w ≤ 99) (hk : k ≤ 3) (hs : s ≤ 3) {Q : MI → MJ → Prop} (q : ∀ J' : MJ, (∀ j, j ≠ a0 + 1 → J' j = J j) → (∀ p' h' w', EC (J' (a0 + 1)) p' h' w' ↔ EC (J (a0 + 1)) p' h' w' ∨ tgI C k s p h w C.nr p' h' w') → Q I J') : vc_X5_leave a0 (nI p) (nI h) (nI w) (nI k) (nI s) I J Q := by
  obtain ⟨⟨n7, n9, -⟩, -, hro, -, -⟩ := id hC
  have loop : ∀ d i (J' : MJ), i + d = C.nr → (∀ j, j ≠ a0 + 1 → J' j = J j) → (∀ p' h' w', EC (J' (a0 + 1)) p' h' w' ↔ EC (J (a0 + 1)) p' h' w' ∨ tgI C k s p h w i p' h' w') → vc_X5_leave_L23 a0 Q (d + 1) (nI p) (nI h) (nI w) (nI k) (nI s) (nI i) I J' := by
    intro d
    induction d with
    | zero =>
      intro i J' hi k1 k2
      have e : i = C.nr := by omega
      subst e
      show vc_X5_leave_L23s a0 Q (vc_X5_leave_L23 a0 Q 0) _ _ _ _ _ _ I J'
      unfold vc_X5_leave_L23s
      rw [hc.2.1]
      exact pk_le C.nr C.nr (fun _ => q J' k1 k2) (fun z => by omega)
    | succ d ih =>
      intro i J' hi k1 k2
      have hi' : i < C.nr := by omega
      have h1 := hro i hi'
      have hc' : rCc C I J' := hc.cg (fun _ _ _ => rfl) (k1 5 (Ne.symm ha))
      obtain ⟨-, -, -, -, -, er, -⟩ := id hc
      show vc_X5_leave_L23s a0 Q (vc_X5_leave_L23 a0 Q (d + 1)) _ _ _ _ _ _ I J'
      unfold vc_X5_leave_L23s
      rw [hc.2.1]
      have nx : (¬ (tch C i p ∧ h + C.rh i ≤ 48)) → vc_X5_leave_L23 a0 Q (d + 1) (nI p) (nI h) (nI w) (nI k) (nI s) (nI (i + 1)) I J' := fun z => ih (i + 1) J' (by omega) k1 (fun p' h' w' => by rw [tgI_n z]; exact k2 p' h' w')
      refine pk_le C.nr i (fun z => by omega) (fun _ => ⟨vp_in_nI (by omega) (by omega), nm_r (e' := nI (h + C.rh i)) (by rw [nI_clamp (by omega), (er i hi').2.2.1, nI_add]) ?_⟩)
      by_cases ht : tch C i p
      · refine c_tch_t hC hc' hi' (by omega) ht (b1' (pk_lt 48 (h + C.rh i) (fun z => nm_r (nI_1 i) (nx (fun y => by omega))) (fun z => ?_)))
        refine c_far hC hc' hi' (by omega) (s_road hc' hC hi' hw (by omega) hk hs ?_)
        have hf : far C i p < 7 := by unfold far; split <;> omega
        have hg := gn_le C i w k s h
        refine c_mark hf (by omega) (by omega) (fun J2 m1 m2 => nm_r (nI_1 i) (ih (i + 1) J2 (by omega) (fun j hj => (m1 j hj).trans (k1 j hj)) (fun p' h' w' => ?_)))
        rw [m2, k2, tgI_s ht z, or_assoc]
      · exact c_tch_f hC hc' hi' (by omega) ht (b0' (nm_r (nI_1 i) (nx (fun y => ht y.1))))
  unfold vc_X5_leave
  refine s_ahi hc hC hp hw (by omega) hk hs ?_
  have hr := rst_le C p w k s h
  show vc_X5_mark a0 (nI p) (nI h + 1) (nI (rst C p w k s h)) I J _
  rw [nI_1]
  refine c_mark (by omega) (by omega) (by omega) (fun J2 m1 m2 => ⟨C.nr + 1, loop C.nr 0 J2 (by omega) m1 (fun p' h' w' => ?_)⟩)
  rw [m2]
  constructor
  · rintro (x | x)
    · exact Or.inl x
    · exact Or.inr (Or.inl x)
  · rintro (x | x | ⟨r, r1, -⟩)
    · exact Or.inl x
    · exact Or.inr x
    · exact absurd r1 (Nat.not_lt_zero r)
theorem c_anyw {w : Nat} (hw : w < 100) {Q : Int32 → MI → MJ → Prop} (q1 : Q 1 I J) (q0 : (∀ p h, ¬ EC (J (a0 + 1)) p h w) → Q 0 I J) : vc_X5_isAnywhere a0 (nI w) I J Q := by
  have loop : ∀ d i (x : Int64), i + d = 7 → (∀ p h, p < i → bj (J (a0 + 1) (p * 100 + w)) h = true → bj x h = true) → vc_X5_isAnywhere_L5 a0 Q (d + 1) (nI w) x (nI i) I J := by
    intro d
    induction d with
    | zero =>
      intro i x hi hx
      show vc_X5_isAnywhere_L5s a0 Q (vc_X5_isAnywhere_L5 a0 Q 0) _ _ _ I J
      unfold vc_X5_isAnywhere_L5s
      rw [lg_eq0]
      refine pk_le 7 i (fun _ => ⟨fun z => q0 (fun p h => ?_), fun _ => q1⟩) (fun z => by omega)
      rintro ⟨h1, h2, h3, h4⟩
      have := hx p h (by omega) h4
      rw [z, bj_0] at this
      cases this
    | succ d ih =>
      intro i x hi hx
      show vc_X5_isAnywhere_L5s a0 Q (vc_X5_isAnywhere_L5 a0 Q (d + 1)) _ _ _ I J
      unfold vc_X5_isAnywhere_L5s
      rw [ix100, nI_clamp (by omega)]
      refine pk_le 7 i (fun z => by omega) (fun _ => ⟨vp_in_nI (by omega) (by omega), nm_e (nm_r (nI_1 i) (ih (i + 1) _ (by omega) (fun p h hp hb => ?_)))⟩)
      rw [bj_or, Bool.or_eq_true]
      by_cases e : p = i
      · subst e; exact Or.inr hb
      · exact Or.inl (hx p h (by omega) hb)
  exact ⟨8, loop 7 0 0 rfl (fun p h hp => absurd hp (Nat.not_lt_zero p))⟩
/-- done: more snow, or as much and an earlier hour, or as early and a place ahead -/
def cD (n h i : Nat) : P3 := fun p' h' w' => n < w' ∨ (w' = n ∧ (h' < h ∨ (h' = h ∧ p' < i)))
theorem c_spread (hC : wfC C) (hc : rCc C I J) (ha : a0 + 1 ≠ 5) {k s : Nat} (hk : k ≤ 3) (hs : s ≤ 3) (h0 : dom C (EC (J (a0 + 1)))) {Q : MI → MJ → Prop} (q : ∀ J' : MJ, (∀ j, j ≠ a0 + 1 → J' j = J j) → (∀ p h w, EC (J' (a0 + 1)) p h w ↔ RC C k s (EC (J (a0 + 1))) p h w) → Q I J') : vc_X5_spread a0 (nI k) (nI s) I J Q := by
  obtain ⟨⟨n7, n9, -⟩, -, hro, -, -⟩ := id hC
  generalize hE0 : EC (J (a0 + 1)) = E0 at h0 q
  have hdom := RC_dom (k := k) (s := s) hC h0
  have pl : ∀ (k4 : Int32 → Int32 → Int32 → MI → MJ → Prop) (k24 : Int32 → Int32 → Int32 → Int32 → MI → MJ → Prop) (n h : Nat), n < 100 → h < 48 → (∀ J' : MJ, (∀ j, j ≠ a0 + 1 → J' j = J j) → good C k s E0 (EC (J' (a0 + 1))) (cD n (h + 1) 0) → k24 (nI k) (nI s) (nI n) (nI (h + 1)) I J') → ∀ d i (J' : MJ), i + d = C.np → (∀ j, j ≠ a0 + 1 → J' j = J j) → good C k s E0 (EC (J' (a0 + 1))) (cD n h i) → vc_X5_spread_L34 a0 Q k4 k24 (d + 1) (nI k) (nI s) (nI n) (nI h) (nI i) I J' := by
    intro k4 k24 n h hn hh nx d
    induction d with
    | zero =>
      intro i J' hi k1 g
      show vc_X5_spread_L34s a0 Q k4 k24 (vc_X5_spread_L34 a0 Q k4 k24 0) _ _ _ _ _ I J'
      unfold vc_X5_spread_L34s
      rw [hc.1]
      refine pk_le C.np i (fun _ => nm_r (nI_1 h) (nx J' k1 (good_skip g (fun p' h' w' _ e d => ?_)))) (fun z => by omega)
      have := hdom p' h' w' (g.1 p' h' w' e)
      unfold cD at d ⊢
      omega
    | succ d ih =>
      intro i J' hi k1 g
      show vc_X5_spread_L34s a0 Q k4 k24 (vc_X5_spread_L34 a0 Q k4 k24 (d + 1)) _ _ _ _ _ I J'
      unfold vc_X5_spread_L34s
      rw [hc.1, ix100, nI_clamp (by omega)]
      refine pk_le C.np i (fun z => by omega) (fun _ => ⟨vp_in_nI (by omega) (by omega), ask0 (by omega) (fun hb => nm_r (nI_1 i) (ih (i + 1) J' (by omega) k1 (good_skip g (fun p' h' w' _ e d => ?_)))) (fun hb => ?_)⟩)
      · unfold cD at d ⊢
        by_cases e2 : w' = n ∧ h' = h ∧ p' = i
        · obtain ⟨rfl, rfl, rfl⟩ := e2
          have := e.2.2.2
          rw [hb] at this
          cases this
        · omega
      · have hc' : rCc C I J' := hc.cg (fun _ _ _ => rfl) (k1 5 (Ne.symm ha))
        refine c_leave hC hc' ha (by omega) hh (by omega) hk hs (fun J2 m1 m2 => nm_r (nI_1 i) (ih (i + 1) J2 (by omega) (fun j hj => (m1 j hj).trans (k1 j hj)) (good_step g ⟨by omega, by omega, hn, hb⟩ hh m2 (fun p' h' w' _ d => ?_) (fun p' h' w' t d => ?_))))
        · unfold cD at d ⊢
          omega
        · have := tgI_b hC (Nat.le_refl _) hh (show i < C.np by omega) t
          unfold cD at d
          omega
  have hrs : ∀ (k4 : Int32 → Int32 → Int32 → MI → MJ → Prop) (n : Nat), n < 100 → (∀ J' : MJ, (∀ j, j ≠ a0 + 1 → J' j = J j) → good C k s E0 (EC (J' (a0 + 1))) (fun _ _ w' => n ≤ w') → k4 (nI k) (nI s) (nI n + (-1)) I J') → ∀ d h (J' : MJ), h + d = 48 → (∀ j, j ≠ a0 + 1 → J' j = J j) → good C k s E0 (EC (J' (a0 + 1))) (cD n h 0) → vc_X5_spread_L24 a0 Q k4 (d + 1) (nI k) (nI s) (nI n) (nI h) I J' := by
    intro k4 n hn nx d
    induction d with
    | zero =>
      intro h J' hi k1 g
      show vc_X5_spread_L24s a0 Q k4 (vc_X5_spread_L24 a0 Q k4 0) _ _ _ _ I J'
      unfold vc_X5_spread_L24s
      refine pk_le 48 h (fun _ => nm_e (nx J' k1 (good_skip g (fun p' h' w' h48 e d => ?_)))) (fun z => by omega)
      unfold cD
      omega
    | succ d ih =>
      intro h J' hi k1 g
      show vc_X5_spread_L24s a0 Q k4 (vc_X5_spread_L24 a0 Q k4 (d + 1)) _ _ _ _ I J'
      unfold vc_X5_spread_L24s
      exact pk_le 48 h (fun z => by omega) (fun _ => ⟨C.np + 1, pl k4 _ n h hn (by omega) (fun J2 f1 f2 => ih (h + 1) J2 (by omega) f1 f2) C.np 0 J' (by omega) k1 g⟩)
  have sn : ∀ n, n ≤ 100 → ∀ v4, v4 = nI n + (-1) → ∀ J' : MJ, (∀ j, j ≠ a0 + 1 → J' j = J j) → good C k s E0 (EC (J' (a0 + 1))) (fun _ _ w' => n ≤ w') → vc_X5_spread_L4 a0 Q (n + 1) (nI k) (nI s) v4 I J' := by
    intro n
    induction n with
    | zero =>
      intro _ v4 e4 J' k1 g
      subst e4
      show vc_X5_spread_L4s a0 Q (vc_X5_spread_L4 a0 Q 0) _ _ _ I J'
      unfold vc_X5_spread_L4s
      exact br_t (by decide) (q J' k1 (fun p h w => good_fin g (fun _ _ w' _ _ => Nat.zero_le w') p h w))
    | succ n ih =>
      intro hn v4 e4 J' k1 g
      rw [pk_m1] at e4
      subst e4
      show vc_X5_spread_L4s a0 Q (vc_X5_spread_L4 a0 Q (n + 1)) _ _ _ I J'
      unfold vc_X5_spread_L4s
      refine br_f (nI_pos (by omega)) (c_anyw (by omega) (b1 ⟨49, ?_⟩) (fun hz => b0 (nm_e (ih (by omega) _ rfl J' k1 (good_skip g (fun p' h' w' _ e d => ?_))))))
      · refine hrs _ n (by omega) (fun J2 f1 f2 => ih (by omega) _ rfl J2 f1 f2) 48 0 J' rfl k1 (good_skip g (fun p' h' w' _ e d => ?_))
        unfold cD at d
        omega
      · by_cases e2 : w' = n
        · subst e2; exact absurd e (hz p' h')
        · have d : n ≤ w' := d
          show n + 1 ≤ w'
          omega
  refine ⟨101, sn 100 (Nat.le_refl _) 99 (by decide) J (fun _ _ => rfl) ?_⟩
  rw [hE0]
  exact good_0 (fun p h w e d => by have := (h0 p h w e).2.2; omega)
end Rch
