/-! ===== the best meeting of two ===== -/
def jn (R1 R2 : P3) : P3 := fun p h w => ∃ a b, a + b = w ∧ w ≤ 99 ∧ R1 p h a ∧ R2 p h b
def jnB (R1 R2 : P3) (P A B : Nat) : P3 := fun p h w => ∃ a b, a + b = w ∧ w ≤ 99 ∧ R1 p h a ∧ R2 p h b ∧ (p < P ∨ (p = P ∧ (a < A ∨ (a = A ∧ b < B))))
def jnM (R1 R2 : P3) (T A B : Nat) : P3 := fun p h w => ∃ a b, a + b = w ∧ w ≤ 99 ∧ R1 p h a ∧ R2 p h b ∧ (7 * h + p < T ∨ (7 * h + p = T ∧ (a < A ∨ (a = A ∧ b < B))))
theorem jn_dom {C : Cty} {R1 R2 : P3} (h : dom C R1) : dom C (jn R1 R2) := by
  rintro p h' w ⟨a, b, e, hw, r1, -⟩
  exact ⟨(h p h' a r1).1, (h p h' a r1).2.1, hw⟩
section Mee
variable {C : Cty} {R1 R2 : P3} {I : MI} {J : MJ} {a0 a1 a2 : Nat}
theorem c_joinOf (n7 : C.np ≤ 7) (e1 : a1 ≠ a0) (e2 : a2 ≠ a0) (h1 : ∀ p h w, EC (J (a1 + 1)) p h w ↔ R1 p h w) (h2 : ∀ p h w, EC (J (a2 + 1)) p h w ↔ R2 p h w) (d1 : dom C R1) {Q : MI → MJ → Prop} (q : ∀ J' : MJ, (∀ j, j ≠ a0 + 1 → J' j = J j) → (∀ p h w, EC (J' (a0 + 1)) p h w ↔ jn R1 R2 p h w) → Q I J') : vc_X5_joinOf a0 a1 a2 (nI C.np) I J Q := by
  have two : ∀ (k7 : Int32 → Int32 → MI → MJ → Prop) (k23 : Int32 → Int32 → Int32 → Int32 → MI → MJ → Prop) (P A : Nat), P < C.np → A < 100 → (∀ J' : MJ, (∀ j, j ≠ a0 + 1 → J' j = J j) → (∀ p h w, EC (J' (a0 + 1)) p h w ↔ jnB R1 R2 P (A + 1) 0 p h w) → k23 (nI C.np) (nI P) (nI (P * 100)) (nI (A + 1)) I J') → ∀ d b (J' : MJ), A + b + d = 100 → (∀ j, j ≠ a0 + 1 → J' j = J j) → (∀ p h w, EC (J' (a0 + 1)) p h w ↔ jnB R1 R2 P A b p h w) → vc_X5_joinOf_L45 a0 a1 a2 Q k7 k23 (d + 1) (nI C.np) (nI P) (nI (P * 100)) (nI A) (J (a1 + 1) (P * 100 + A)) (nI b) I J' := by
    intro k7 k23 P A hP hA nx d
    have x0 : ∀ b (J' : MJ), J (a1 + 1) (P * 100 + A) = 0 → (∀ j, j ≠ a0 + 1 → J' j = J j) → (∀ p h w, EC (J' (a0 + 1)) p h w ↔ jnB R1 R2 P A b p h w) → k23 (nI C.np) (nI P) (nI (P * 100)) (nI (A + 1)) I J' := by
      intro b J' z k1 k2
      refine nx J' k1 (fun p h w => ?_)
      rw [k2]
      have no : ∀ h, ¬ R1 P h A := fun h r => by
        have := ((h1 P h A).mpr r).2.2.2
        rw [z, bj_0] at this
        cases this
      constructor
      · rintro ⟨a, b', f1, f2, f3, f4, f5⟩
        refine ⟨a, b', f1, f2, f3, f4, ?_⟩
        by_cases ea : p = P ∧ a = A
        · obtain ⟨rfl, rfl⟩ := ea; exact absurd f3 (no h)
        · omega
      · rintro ⟨a, b', f1, f2, f3, f4, f5⟩
        refine ⟨a, b', f1, f2, f3, f4, ?_⟩
        by_cases ea : p = P ∧ a = A
        · obtain ⟨rfl, rfl⟩ := ea; exact absurd f3 (no h)
        · omega
    induction d with
    | zero =>
      intro b J' hb k1 k2
      show vc_X5_joinOf_L45s a0 a1 a2 Q k7 k23 (vc_X5_joinOf_L45 a0 a1 a2 Q k7 k23 0) _ _ _ _ _ _ I J'
      unfold vc_X5_joinOf_L45s
      rw [lg_eq0, nI_add A b]
      refine ⟨fun z => nm_r (nI_1 A) (x0 b J' z k1 k2), fun z => pk_le 100 (A + b) (fun _ => nm_r (nI_1 A) (nx J' k1 (fun p h w => ?_))) (fun z => by omega)⟩
      rw [k2]
      constructor
      · rintro ⟨a, b', f1, f2, f3, f4, f5⟩
        exact ⟨a, b', f1, f2, f3, f4, by omega⟩
      · rintro ⟨a, b', f1, f2, f3, f4, f5⟩
        exact ⟨a, b', f1, f2, f3, f4, by omega⟩
    | succ d ih =>
      intro b J' hb k1 k2
      show vc_X5_joinOf_L45s a0 a1 a2 Q k7 k23 (vc_X5_joinOf_L45 a0 a1 a2 Q k7 k23 (d + 1)) _ _ _ _ _ _ I J'
      unfold vc_X5_joinOf_L45s
      rw [lg_eq0, nI_add A b, nI_add (P * 100) A, nI_add (P * 100 + A) b, nI_add (P * 100) b, nI_clamp (by omega), nI_clamp (by omega)]
      have v := vp_in_nI (n := P * 100 + A + b) (N := 700) (by omega) (by omega)
      refine ⟨fun z => nm_r (nI_1 A) (x0 b J' z k1 k2), fun z => pk_le 100 (A + b) (fun z => by omega) (fun _ => ⟨v, vp_in_nI (by omega) (by omega), v, nm_e (nm_r (nI_1 b) (ih (b + 1) _ (by omega) (fun j hj => ?_) (fun p h w => ?_)))⟩)⟩
      · rw [wJ_row hj]; exact k1 j hj
      · have st : jnB R1 R2 P A (b + 1) p h w ↔ jnB R1 R2 P A b p h w ∨ (p = P ∧ w = A + b ∧ R1 P h A ∧ R2 P h b) := by
          constructor
          · rintro ⟨a, b', f1, f2, f3, f4, f5⟩
            by_cases ea : p = P ∧ a = A ∧ b' = b
            · obtain ⟨rfl, rfl, rfl⟩ := ea; exact Or.inr ⟨rfl, f1.symm, f3, f4⟩
            · exact Or.inl ⟨a, b', f1, f2, f3, f4, by omega⟩
          · rintro (⟨a, b', f1, f2, f3, f4, f5⟩ | ⟨rfl, rfl, f3, f4⟩)
            · exact ⟨a, b', f1, f2, f3, f4, by omega⟩
            · exact ⟨A, b, rfl, by omega, f3, f4, by omega⟩
        rw [st, ← k2]
        unfold EC
        rw [wJ_ap, if_pos rfl, k1 (a2 + 1) (by omega)]
        by_cases e : p * 100 + w = P * 100 + A + b
        · rw [if_pos e, bj_or, bj_and, e, Bool.or_eq_true, Bool.and_eq_true]
          constructor
          · rintro ⟨g1, g2, g3, g4 | ⟨g4, g5⟩⟩
            · exact Or.inl ⟨g1, g2, g3, g4⟩
            · exact Or.inr ⟨by omega, by omega, (h1 P h A).mp ⟨by omega, g2, hA, g4⟩, (h2 P h b).mp ⟨by omega, g2, by omega, g5⟩⟩
          · rintro (⟨g1, g2, g3, g4⟩ | ⟨g1, g2, g3, g4⟩)
            · exact ⟨g1, g2, g3, Or.inl g4⟩
            · have y1 := (h1 P h A).mpr g3
              have y2 := (h2 P h b).mpr g4
              exact ⟨by omega, y1.2.1, by omega, Or.inr ⟨y1.2.2.2, y2.2.2.2⟩⟩
        · rw [if_neg e]
          constructor
          · intro g; exact Or.inl g
          · rintro (g | ⟨g1, g2, -⟩)
            · exact g
            · exact absurd (by omega) e
  have one : ∀ (k7 : Int32 → Int32 → MI → MJ → Prop) (P : Nat), P < C.np → (∀ J' : MJ, (∀ j, j ≠ a0 + 1 → J' j = J j) → (∀ p h w, EC (J' (a0 + 1)) p h w ↔ jnB R1 R2 (P + 1) 0 0 p h w) → k7 (nI C.np) (nI (P + 1)) I J') → ∀ d A (J' : MJ), A + d = 100 → (∀ j, j ≠ a0 + 1 → J' j = J j) → (∀ p h w, EC (J' (a0 + 1)) p h w ↔ jnB R1 R2 P A 0 p h w) → vc_X5_joinOf_L23 a0 a1 a2 Q k7 (d + 1) (nI C.np) (nI P) (nI (P * 100)) (nI A) I J' := by
    intro k7 P hP nx d
    induction d with
    | zero =>
      intro A J' hA k1 k2
      show vc_X5_joinOf_L23s a0 a1 a2 Q k7 (vc_X5_joinOf_L23 a0 a1 a2 Q k7 0) _ _ _ _ I J'
      unfold vc_X5_joinOf_L23s
      refine pk_le 100 A (fun _ => nm_r (nI_1 P) (nx J' k1 (fun p h w => ?_))) (fun z => by omega)
      rw [k2]
      constructor
      · rintro ⟨a, b', f1, f2, f3, f4, f5⟩
        exact ⟨a, b', f1, f2, f3, f4, by omega⟩
      · rintro ⟨a, b', f1, f2, f3, f4, f5⟩
        have := (d1 p h a f3).2.2
        exact ⟨a, b', f1, f2, f3, f4, by omega⟩
    | succ d ih =>
      intro A J' hA k1 k2
      show vc_X5_joinOf_L23s a0 a1 a2 Q k7 (vc_X5_joinOf_L23 a0 a1 a2 Q k7 (d + 1)) _ _ _ _ I J'
      unfold vc_X5_joinOf_L23s
      rw [nI_add (P * 100) A, nI_clamp (by omega), k1 (a1 + 1) (by omega)]
      exact pk_le 100 A (fun z => by omega) (fun _ => ⟨vp_in_nI (by omega) (by omega), nm_e ⟨100 - A + 1, two k7 _ P A hP (by omega) (fun J2 f1 f2 => ih (A + 1) J2 (by omega) f1 f2) (100 - A) 0 J' (by omega) k1 k2⟩⟩)
  have pls : ∀ d P (J' : MJ), P + d = C.np → (∀ j, j ≠ a0 + 1 → J' j = J j) → (∀ p h w, EC (J' (a0 + 1)) p h w ↔ jnB R1 R2 P 0 0 p h w) → vc_X5_joinOf_L7 a0 a1 a2 Q (d + 1) (nI C.np) (nI P) I J' := by
    intro d
    induction d with
    | zero =>
      intro P J' hP k1 k2
      show vc_X5_joinOf_L7s a0 a1 a2 Q (vc_X5_joinOf_L7 a0 a1 a2 Q 0) _ _ I J'
      unfold vc_X5_joinOf_L7s
      refine pk_le C.np P (fun _ => q J' k1 (fun p h w => ?_)) (fun z => by omega)
      rw [k2]
      constructor
      · rintro ⟨a, b', f1, f2, f3, f4, f5⟩
        exact ⟨a, b', f1, f2, f3, f4⟩
      · rintro ⟨a, b', f1, f2, f3, f4⟩
        have := (d1 p h a f3).1
        exact ⟨a, b', f1, f2, f3, f4, by omega⟩
    | succ d ih =>
      intro P J' hP k1 k2
      show vc_X5_joinOf_L7s a0 a1 a2 Q (vc_X5_joinOf_L7 a0 a1 a2 Q (d + 1)) _ _ I J'
      unfold vc_X5_joinOf_L7s
      exact pk_le C.np P (fun z => by omega) (fun _ => nm_r (e' := nI (P * 100)) (by rw [show (100 : Int32) = nI 100 from rfl, pk_mul]) ⟨101, one _ P (by omega) (fun J2 f1 f2 => ih (P + 1) J2 (by omega) f1 f2) 100 0 J' rfl k1 k2⟩)
  unfold vc_X5_joinOf
  refine c_clear (fun J1 k1 k2 => ⟨C.np + 1, pls C.np 0 J1 (by omega) k1 (fun p h w => ?_)⟩)
  refine ⟨fun z => absurd z (k2 p h w), ?_⟩
  rintro ⟨a, b', f1, f2, f3, f4, f5⟩
  omega
theorem m_joinOf (h1 : ∀ p h w, EM (J 99) (J 100) p h w ↔ R1 p h w) (h2 : ∀ p h w, EM (J 101) (J 102) p h w ↔ R2 p h w) (d1 : dom C R1) (n7 : C.np ≤ 7) {Q : Int32 → MI → MJ → Prop} {v1 v3 v4 : Int32} {JJ : MJ} (hJ : ∀ j, j ≠ 103 → j ≠ 104 → JJ j = J j) (h0 : ∀ p h w, ¬ EM (JJ 103) (JJ 104) p h w)
    (q : ∀ (k : Int32 → Int32 → Int32 → Int32 → MI → MJ → Prop) (J' : MJ), (∀ j, j ≠ 103 → j ≠ 104 → J' j = J j) → (∀ p h w, EM (J' 103) (J' 104) p h w ↔ jn R1 R2 p h w) → vc_X11_meet_L95s Q k v1 v3 v4 (nI 343) I J') : ∃ n, vc_X11_meet_L95 Q n v1 v3 v4 0 I JJ := by
  have two : ∀ (k95 : Int32 → Int32 → Int32 → Int32 → MI → MJ → Prop) (k106 : Int32 → Int32 → Int32 → Int32 → Int32 → MI → MJ → Prop) (P H A : Nat), P < 7 → H ≤ 48 → A < 100 → (∀ J' : MJ, (∀ j, j ≠ 103 → j ≠ 104 → J' j = J j) → (∀ p h w, EM (J' 103) (J' 104) p h w ↔ jnM R1 R2 (7 * H + P) (A + 1) 0 p h w) → k106 v1 v3 v4 (nI (7 * H + P)) (nI (A + 1)) I J') → ∀ d b (J' : MJ), A + b + d = 100 → (∀ j, j ≠ 103 → j ≠ 104 → J' j = J j) → (∀ p h w, EM (J' 103) (J' 104) p h w ↔ jnM R1 R2 (7 * H + P) A b p h w) → vc_X11_meet_L116 Q k95 k106 (d + 1) v1 v3 v4 (nI (7 * H + P)) (nI A) (nI b) I J' := by
    intro k95 k106 P H A hP hH hA nx d
    induction d with
    | zero =>
      intro b J' hb k1 k2
      show vc_X11_meet_L116s Q k95 k106 (vc_X11_meet_L116 Q k95 k106 0) _ _ _ _ _ _ I J'
      unfold vc_X11_meet_L116s
      rw [nI_add A b]
      refine pk_lt 99 (A + b) (fun _ => nm_r (nI_1 A) (nx J' k1 (fun p h w => ?_))) (fun z => by omega)
      rw [k2]
      constructor
      · rintro ⟨a, b', f1, f2, f3, f4, f5⟩
        exact ⟨a, b', f1, f2, f3, f4, by omega⟩
      · rintro ⟨a, b', f1, f2, f3, f4, f5⟩
        exact ⟨a, b', f1, f2, f3, f4, by omega⟩
    | succ d ih =>
      intro b J' hb k1 k2
      show vc_X11_meet_L116s Q k95 k106 (vc_X11_meet_L116 Q k95 k106 (d + 1)) _ _ _ _ _ _ I J'
      unfold vc_X11_meet_L116s
      rw [nI_add A b]
      have g1 : ∀ p h w, EM (J' 99) (J' 100) p h w ↔ R1 p h w := fun p h w => by rw [k1 99 (by decide) (by decide), k1 100 (by decide) (by decide)]; exact h1 p h w
      have g2 : ∀ p h w, EM (J' 101) (J' 102) p h w ↔ R2 p h w := fun p h w => by rw [k1 101 (by decide) (by decide), k1 102 (by decide) (by decide)]; exact h2 p h w
      refine pk_lt 99 (A + b) (fun z => by omega) (fun _ => m_isIn hP hH hA (fun r1 => b1' (m_isIn hP hH (by omega) (fun r2 => b1' (m_lay (by decide) hP hH (by omega) (fun J2 m1 m2 => nm_r (nI_1 b) (ih (b + 1) J2 (by omega) (fun j y1 y2 => (m1 j y1 y2).trans (k1 j y1 y2)) (fun p h w => ?_))))) (fun r2 => b0' (nm_r (nI_1 b) (ih (b + 1) J' (by omega) k1 (fun p h w => ?_)))))) (fun r1 => b0' (nm_r (nI_1 A) (nx J' k1 (fun p h w => ?_)))))
      · have r1 := (g1 P H A).mp r1
        have r2 := (g2 P H b).mp r2
        rw [m2, k2]
        constructor
        · rintro (⟨a, b', f1, f2, f3, f4, f5⟩ | ⟨rfl, rfl, rfl⟩)
          · exact ⟨a, b', f1, f2, f3, f4, by omega⟩
          · exact ⟨A, b, rfl, by omega, r1, r2, by omega⟩
        · rintro ⟨a, b', f1, f2, f3, f4, f5⟩
          have hp := (d1 p h a f3).1
          by_cases ea : 7 * h + p = 7 * H + P ∧ a = A ∧ b' = b
          · exact Or.inr ⟨by omega, by omega, by omega⟩
          · exact Or.inl ⟨a, b', f1, f2, f3, f4, by omega⟩
      · rw [k2]
        constructor
        · rintro ⟨a, b', f1, f2, f3, f4, f5⟩
          exact ⟨a, b', f1, f2, f3, f4, by omega⟩
        · rintro ⟨a, b', f1, f2, f3, f4, f5⟩
          refine ⟨a, b', f1, f2, f3, f4, ?_⟩
          have hp := (d1 p h a f3).1
          by_cases ea : 7 * h + p = 7 * H + P ∧ a = A ∧ b' = b
          · have e3 : p = P := by omega
            have e4 : h = H := by omega
            rw [e3, e4, ea.2.2] at f4
            exact absurd ((g2 P H b).mpr f4) r2
          · omega
      · rw [k2]
        constructor
        · rintro ⟨a, b', f1, f2, f3, f4, f5⟩
          exact ⟨a, b', f1, f2, f3, f4, by omega⟩
        · rintro ⟨a, b', f1, f2, f3, f4, f5⟩
          refine ⟨a, b', f1, f2, f3, f4, ?_⟩
          have hp := (d1 p h a f3).1
          by_cases ea : 7 * h + p = 7 * H + P ∧ a = A
          · have e3 : p = P := by omega
            have e4 : h = H := by omega
            rw [e3, e4, ea.2] at f3
            exact absurd ((g1 P H A).mpr f3) r1
          · omega
  have one : ∀ (k95 : Int32 → Int32 → Int32 → Int32 → MI → MJ → Prop) (P H : Nat), P < 7 → H ≤ 48 → (∀ J' : MJ, (∀ j, j ≠ 103 → j ≠ 104 → J' j = J j) → (∀ p h w, EM (J' 103) (J' 104) p h w ↔ jnM R1 R2 (7 * H + P + 1) 0 0 p h w) → k95 v1 v3 v4 (nI (7 * H + P + 1)) I J') → ∀ d A (J' : MJ), A + d = 100 → (∀ j, j ≠ 103 → j ≠ 104 → J' j = J j) → (∀ p h w, EM (J' 103) (J' 104) p h w ↔ jnM R1 R2 (7 * H + P) A 0 p h w) → vc_X11_meet_L106 Q k95 (d + 1) v1 v3 v4 (nI (7 * H + P)) (nI A) I J' := by
    intro k95 P H hP hH nx d
    induction d with
    | zero =>
      intro A J' hA k1 k2
      show vc_X11_meet_L106s Q k95 (vc_X11_meet_L106 Q k95 0) _ _ _ _ _ I J'
      unfold vc_X11_meet_L106s
      refine pk_lt 99 A (fun _ => nm_r (nI_1 _) (nx J' k1 (fun p h w => ?_))) (fun z => by omega)
      rw [k2]
      constructor
      · rintro ⟨a, b', f1, f2, f3, f4, f5⟩
        exact ⟨a, b', f1, f2, f3, f4, by omega⟩
      · rintro ⟨a, b', f1, f2, f3, f4, f5⟩
        exact ⟨a, b', f1, f2, f3, f4, by omega⟩
    | succ d ih =>
      intro A J' hA k1 k2
      show vc_X11_meet_L106s Q k95 (vc_X11_meet_L106 Q k95 (d + 1)) _ _ _ _ _ I J'
      unfold vc_X11_meet_L106s
      exact pk_lt 99 A (fun z => by omega) (fun _ => ⟨100 - A + 1, two k95 _ P H A hP hH (by omega) (fun J2 f1 f2 => ih (A + 1) J2 (by omega) f1 f2) (100 - A) 0 J' (by omega) k1 k2⟩)
  have ats : ∀ d i (J' : MJ), i + d = 343 → (∀ j, j ≠ 103 → j ≠ 104 → J' j = J j) → (∀ p h w, EM (J' 103) (J' 104) p h w ↔ jnM R1 R2 i 0 0 p h w) → vc_X11_meet_L95 Q (d + 1) v1 v3 v4 (nI i) I J' := by
    intro d
    induction d with
    | zero =>
      intro i J' hi k1 k2
      have e : i = 343 := by omega
      subst e
      show vc_X11_meet_L95s Q (vc_X11_meet_L95 Q 0) _ _ _ _ I J'
      refine q _ J' k1 (fun p h w => ?_)
      rw [k2]
      constructor
      · rintro ⟨a, b', f1, f2, f3, f4, f5⟩
        exact ⟨a, b', f1, f2, f3, f4⟩
      · rintro ⟨a, b', f1, f2, f3, f4⟩
        have := d1 p h a f3
        exact ⟨a, b', f1, f2, f3, f4, by omega⟩
    | succ d ih =>
      intro i J' hi k1 k2
      have hp : i % 7 < 7 := Nat.mod_lt _ (by decide)
      have hh : i / 7 ≤ 48 := by omega
      have ei : 7 * (i / 7) + i % 7 = i := by omega
      show vc_X11_meet_L95s Q (vc_X11_meet_L95 Q (d + 1)) _ _ _ _ I J'
      unfold vc_X11_meet_L95s
      have go := one (vc_X11_meet_L95 Q (d + 1)) (i % 7) (i / 7) hp hh (fun J2 f1 f2 => by rw [ei] at f2 ⊢; exact ih (i + 1) J2 (by omega) f1 f2) 100 0 J' rfl k1 (by rw [ei]; exact k2)
      rw [ei] at go
      exact pk_le 343 i (fun z => by omega) (fun _ => ⟨101, go⟩)
  refine ⟨344, ats 343 0 JJ rfl hJ (fun p h w => ⟨fun z => absurd z (h0 p h w), ?_⟩)⟩
  rintro ⟨a, b', f1, f2, f3, f4, f5⟩
  omega
end Mee
