/-! ===== what may come: the reference's rows, by hour and place the snow, by bits ===== -/
def EM (l g : Nat → Int64) : P3 := fun p h w => p < 7 ∧ h ≤ 48 ∧ w < 100 ∧ (if w < 64 then bj (l (7 * h + p)) w else bj (g (7 * h + p)) (w - 64)) = true
section Rcm
variable {C : Cty} {I : MI} {J : MJ} {a1 a2 : Nat}
theorem m_lay (hne : a1 ≠ a2) {p h w : Nat} (hp : p < 7) (hh : h ≤ 48) (hw : w < 100) {Q : MI → MJ → Prop} (q : ∀ J' : MJ, (∀ j, j ≠ a1 → j ≠ a2 → J' j = J j) → (∀ p' h' w', EM (J' a1) (J' a2) p' h' w' ↔ EM (J a1) (J a2) p' h' w' ∨ (p' = p ∧ h' = h ∧ w' = w)) → Q I J') : vc_X11_lay a1 343 a2 343 (nI (7 * h + p)) (nI w) I J Q := by
  unfold vc_X11_lay
  rw [nI_clamp (by omega)]
  have v := vp_in_nI (n := 7 * h + p) (N := 343) (by omega) (by omega)
  refine pk_le 64 w (fun z => ⟨v, v, nm_e (q _ (fun j _ hj => wJ_row hj) (fun p' h' w' => ?_))⟩) (fun z => ⟨v, v, nm_e (q _ (fun j hj _ => wJ_row hj) (fun p' h' w' => ?_))⟩)
  · unfold EM
    rw [show (64 : Int32) = nI 64 from rfl, pk_sub z, wJ_row hne, wJ_ap, if_pos rfl]
    by_cases e : 7 * h' + p' = 7 * h + p
    · rw [if_pos e, bj_or, bj_pow (by omega), e]
      by_cases hw' : w' < 64
      · rw [if_pos hw', if_pos hw']
        constructor
        · intro x; exact Or.inl x
        · rintro (x | ⟨x1, x2, x3⟩)
          · exact x
          · omega
      · rw [if_neg hw', if_neg hw', Bool.or_eq_true, decide_eq_true_eq]
        constructor
        · rintro ⟨h1, h2, h3, h4 | h4⟩
          · exact Or.inl ⟨h1, h2, h3, h4⟩
          · exact Or.inr ⟨by omega, by omega, by omega⟩
        · rintro (⟨h1, h2, h3, h4⟩ | ⟨h1, h2, h3⟩)
          · exact ⟨h1, h2, h3, Or.inl h4⟩
          · exact ⟨by omega, by omega, by omega, Or.inr (by omega)⟩
    · rw [if_neg e]
      constructor
      · intro x; exact Or.inl x
      · rintro (x | ⟨rfl, rfl, rfl⟩)
        · exact x
        · exact absurd rfl e
  · unfold EM
    rw [wJ_row (Ne.symm hne), wJ_ap, if_pos rfl]
    by_cases e : 7 * h' + p' = 7 * h + p
    · rw [if_pos e, bj_or, bj_pow (by omega), e]
      by_cases hw' : w' < 64
      · rw [if_pos hw', if_pos hw', Bool.or_eq_true, decide_eq_true_eq]
        constructor
        · rintro ⟨h1, h2, h3, h4 | h4⟩
          · exact Or.inl ⟨h1, h2, h3, h4⟩
          · exact Or.inr ⟨by omega, by omega, by omega⟩
        · rintro (⟨h1, h2, h3, h4⟩ | ⟨h1, h2, h3⟩)
          · exact ⟨h1, h2, h3, Or.inl h4⟩
          · exact ⟨by omega, by omega, by omega, Or.inr (by omega)⟩
      · rw [if_neg hw', if_neg hw']
        constructor
        · intro x; exact Or.inl x
        · rintro (x | ⟨x1, x2, x3⟩)
          · exact x
          · omega
    · rw [if_neg e]
      constructor
      · intro x; exact Or.inl x
      · rintro (x | ⟨rfl, rfl, rfl⟩)
        · exact x
        · exact absurd rfl e
theorem m_isIn {p h w : Nat} (hp : p < 7) (hh : h ≤ 48) (hw : w < 100) {Q : Int32 → MI → MJ → Prop} (q1 : EM (J a1) (J a2) p h w → Q 1 I J) (q0 : ¬ EM (J a1) (J a2) p h w → Q 0 I J) : vc_X11_isIn a1 343 a2 343 (nI (7 * h + p)) (nI w) I J Q := by
  unfold vc_X11_isIn
  rw [nI_clamp (by omega)]
  have v := vp_in_nI (n := 7 * h + p) (N := 343) (by omega) (by omega)
  unfold EM at q1 q0
  refine pk_le 64 w (fun z => ⟨v, ?_⟩) (fun z => ⟨v, ?_⟩)
  · rw [if_neg (by omega)] at q1 q0
    rw [show (64 : Int32) = nI 64 from rfl, pk_sub z]
    exact ask1 (by omega) (fun hb => q0 (fun x => by rw [hb] at x; cases x.2.2.2)) (fun hb => q1 ⟨hp, hh, hw, hb⟩)
  · rw [if_pos z] at q1 q0
    exact ask1 (by omega) (fun hb => q0 (fun x => by rw [hb] at x; cases x.2.2.2)) (fun hb => q1 ⟨hp, hh, hw, hb⟩)
theorem m_clear (hne : a1 ≠ a2) {Q : MI → MJ → Prop} (q : ∀ J' : MJ, (∀ j, j ≠ a1 → j ≠ a2 → J' j = J j) → (∀ p h w, ¬ EM (J' a1) (J' a2) p h w) → Q I J') : vc_X11_clear a1 343 a2 343 I J Q := by
  have loop : ∀ d i (J' : MJ), i + d = 343 → (∀ j, j ≠ a1 → j ≠ a2 → J' j = J j) → (∀ x, x < i → J' a1 x = 0 ∧ J' a2 x = 0) → vc_X11_clear_L2 a1 343 a2 343 Q (d + 1) (nI i) I J' := by
    intro d
    induction d with
    | zero =>
      intro i J' hi k1 k2
      show vc_X11_clear_L2s a1 343 a2 343 Q (vc_X11_clear_L2 a1 343 a2 343 Q 0) _ I J'
      unfold vc_X11_clear_L2s
      refine pk_le 343 i (fun _ => q J' k1 (fun p h w => ?_)) (fun z => by omega)
      rintro ⟨h1, h2, h3, h4⟩
      have e := k2 (7 * h + p) (by omega)
      rw [e.1, e.2, bj_0, bj_0] at h4
      split at h4 <;> cases h4
    | succ d ih =>
      intro i J' hi k1 k2
      show vc_X11_clear_L2s a1 343 a2 343 Q (vc_X11_clear_L2 a1 343 a2 343 Q (d + 1)) _ I J'
      unfold vc_X11_clear_L2s
      have v := vp_in_nI (n := i) (N := 343) (by omega) (by omega)
      rw [nI_clamp (by omega)]
      refine pk_le 343 i (fun z => by omega) (fun _ => ⟨v, nm_e ⟨v, nm_e (nm_r (nI_1 i) (ih (i + 1) _ (by omega) (fun j h1 h2 => ?_) (fun x hx => ?_)))⟩⟩)
      · rw [wJ_row h2, wJ_row h1]; exact k1 j h1 h2
      · rw [wJ_row hne, wJ_ap, if_pos rfl, wJ_ap, if_pos rfl, wJ_row (Ne.symm hne)]
        by_cases e : x = i
        · rw [if_pos e, if_pos e]; exact ⟨rfl, rfl⟩
        · rw [if_neg e, if_neg e]; exact k2 x (by omega)
  exact ⟨344, loop 343 0 J rfl (fun _ _ _ => rfl) (fun x hx => absurd hx (Nat.not_lt_zero x))⟩
/-- done: ahead in the row of hours and places, or there and less snow -/
def mD (at_ n : Nat) : P3 := fun p' h' w' => 7 * h' + p' < at_ ∨ (7 * h' + p' = at_ ∧ w' < n)
theorem rCm_J {J' : MJ} (hm : rCm C I J) (e : J' 87 = J 87) : rCm C I J' := hm.cg rfl rfl rfl (fun _ _ _ => rfl) (by rw [e])
theorem m_spread (hC : wfC C) (hm : rCm C I J) (hne : a1 ≠ a2) (ha1 : a1 ≠ 87) (ha2 : a2 ≠ 87) {k s : Nat} (hk : k ≤ 3) (hs : s ≤ 3) (h0 : dom C (EM (J a1) (J a2))) {Q : MI → MJ → Prop} (q : ∀ J' : MJ, (∀ j, j ≠ a1 → j ≠ a2 → J' j = J j) → (∀ p h w, EM (J' a1) (J' a2) p h w ↔ RC C k s (EM (J a1) (J a2)) p h w) → Q I J') : vc_X11_spread a1 343 a2 343 (nI k) (nI s) I J Q := by
  obtain ⟨⟨n7, n9, -⟩, -, hro, -, -⟩ := id hC
  generalize hE0 : EM (J a1) (J a2) = E0 at h0 q
  have hdom := RC_dom (k := k) (s := s) hC h0
  have rds : ∀ (k3 : Int32 → Int32 → Int32 → MI → MJ → Prop) (k49 : Int32 → Int32 → Int32 → Int32 → Int32 → Int32 → MI → MJ → Prop) (p h w : Nat) (JJ : MJ), p < C.np → h < 48 → w < 100 → (∀ J' : MJ, (∀ j, j ≠ a1 → j ≠ a2 → J' j = J j) → (∀ p' h' w', EM (J' a1) (J' a2) p' h' w' ↔ EM (JJ a1) (JJ a2) p' h' w' ∨ tgI C k s p h w C.nr p' h' w') → k49 (nI k) (nI s) (nI (7 * h + p)) (nI h) (nI p) (nI (w + 1)) I J') → ∀ d i (J' : MJ), i + d = C.nr → (∀ j, j ≠ a1 → j ≠ a2 → J' j = J j) → (∀ p' h' w', EM (J' a1) (J' a2) p' h' w' ↔ EM (JJ a1) (JJ a2) p' h' w' ∨ tgI C k s p h w i p' h' w') → vc_X11_spread_L94 a1 343 a2 343 Q k3 k49 (d + 1) (nI k) (nI s) (nI (7 * h + p)) (nI h) (nI p) (nI w) (nI i) I J' := by
    intro k3 k49 p h w JJ hp hh hw nx d
    induction d with
    | zero =>
      intro i J' hi k1 k2
      have e : i = C.nr := by omega
      subst e
      show vc_X11_spread_L94s a1 343 a2 343 Q k3 k49 (vc_X11_spread_L94 a1 343 a2 343 Q k3 k49 0) _ _ _ _ _ _ _ I J'
      unfold vc_X11_spread_L94s
      rw [hm.2.1]
      exact pk_le C.nr C.nr (fun _ => nm_r (nI_1 w) (nx J' k1 k2)) (fun z => by omega)
    | succ d ih =>
      intro i J' hi k1 k2
      have hi' : i < C.nr := by omega
      have h1 := hro i hi'
      have hm' : rCm C I J' := rCm_J hm (k1 87 (Ne.symm ha1) (Ne.symm ha2))
      obtain ⟨-, -, -, -, -, er, -⟩ := id hm
      show vc_X11_spread_L94s a1 343 a2 343 Q k3 k49 (vc_X11_spread_L94 a1 343 a2 343 Q k3 k49 (d + 1)) _ _ _ _ _ _ _ I J'
      unfold vc_X11_spread_L94s
      rw [hm.2.1]
      have nn : (¬ (tch C i p ∧ h + C.rh i ≤ 48)) → vc_X11_spread_L94 a1 343 a2 343 Q k3 k49 (d + 1) (nI k) (nI s) (nI (7 * h + p)) (nI h) (nI p) (nI w) (nI (i + 1)) I J' := fun z => ih (i + 1) J' (by omega) k1 (fun p' h' w' => by rw [tgI_n z]; exact k2 p' h' w')
      have vr : vp_in ((4 : Int32) * nI i + 2) 36 := by rw [show (4 : Int32) * nI i + 2 = nI (4 * i + 2) from ix4 i 2]; exact vp_in_nI (by omega) (by omega)
      have er2 : nI h + I 89 (Int32.toNatClampNeg ((4 : Int32) * nI i + 2)) = nI (h + C.rh i) := by rw [show (4 : Int32) * nI i + 2 = nI (4 * i + 2) from ix4 i 2, nI_clamp (by omega), (er i hi').2.2.1, nI_add]
      refine pk_le C.nr i (fun z => by omega) (fun _ => ?_)
      by_cases ht : tch C i p
      · have hf : far C i p < 7 := by unfold far; split <;> omega
        refine m_end_t hC hm' hi' (by omega) ht ⟨vr, nm_r er2 ⟨fun z => absurd z (nI_ne_m1 (by omega)), fun _ => pk_lt 48 (h + C.rh i) (fun z => nm_r (nI_1 i) (nn (fun y => by omega))) (fun z => ?_)⟩⟩
        refine m_comes hm' hC hi' (by omega) (by omega) hk hs ?_
        have hg := gn_le C i w k s h
        show vc_X11_lay a1 343 a2 343 ((7 * nI (h + C.rh i)) + nI (far C i p)) (nI (gn C i w k s h)) I J' _
        rw [show (7 : Int32) = nI 7 from rfl, pk_mul, nI_add]
        refine m_lay hne hf z (by omega) (fun J2 m1 m2 => nm_r (nI_1 i) (ih (i + 1) J2 (by omega) (fun j e1 e2 => (m1 j e1 e2).trans (k1 j e1 e2)) (fun p' h' w' => ?_)))
        rw [m2, k2, tgI_s ht z, or_assoc]
      · exact m_end_f hC hm' hi' (by omega) ht ⟨vr, nm_r er2 ⟨fun _ => nm_r (nI_1 i) (nn (fun y => ht y.1)), fun z => absurd rfl z⟩⟩
  have sn : ∀ (k3 : Int32 → Int32 → Int32 → MI → MJ → Prop) (p h : Nat), p < 7 → h < 48 → (∀ J' : MJ, (∀ j, j ≠ a1 → j ≠ a2 → J' j = J j) → good C k s E0 (EM (J' a1) (J' a2)) (mD (7 * h + p + 1) 0) → k3 (nI k) (nI s) (nI (7 * h + p + 1)) I J') → ∀ d w (J' : MJ), w + d = 100 → (∀ j, j ≠ a1 → j ≠ a2 → J' j = J j) → good C k s E0 (EM (J' a1) (J' a2)) (mD (7 * h + p) w) → vc_X11_spread_L49 a1 343 a2 343 Q k3 (d + 1) (nI k) (nI s) (nI (7 * h + p)) (nI h) (nI p) (nI w) I J' := by
    intro k3 p h hp hh nx d
    induction d with
    | zero =>
      intro w J' hi k1 g
      show vc_X11_spread_L49s a1 343 a2 343 Q k3 (vc_X11_spread_L49 a1 343 a2 343 Q k3 0) _ _ _ _ _ _ I J'
      unfold vc_X11_spread_L49s
      refine pk_lt 99 w (fun _ => nm_r (nI_1 (7 * h + p)) (nx J' k1 (good_skip g (fun p' h' w' _ e d => ?_)))) (fun z => by omega)
      have := e.2.2.1
      unfold mD at d ⊢
      omega
    | succ d ih =>
      intro w J' hi k1 g
      show vc_X11_spread_L49s a1 343 a2 343 Q k3 (vc_X11_spread_L49 a1 343 a2 343 Q k3 (d + 1)) _ _ _ _ _ _ I J'
      unfold vc_X11_spread_L49s
      have hm' : rCm C I J' := rCm_J hm (k1 87 (Ne.symm ha1) (Ne.symm ha2))
      refine pk_lt 99 w (fun z => by omega) (fun _ => m_isIn hp (by omega) (by omega) (fun hb => b1' ?_) (fun hb => b0' (nm_r (nI_1 w) (ih (w + 1) J' (by omega) k1 (good_skip g (fun p' h' w' _ e d => ?_))))))
      · have hpn : p < C.np := (hdom p h w (g.1 p h w hb)).1
        refine m_rested hm' hC hpn (by omega) (by omega) hk hs ?_
        have hr := rst_le C p w k s h
        show vc_X11_lay a1 343 a2 343 (nI (7 * h + p) + 7) (nI (rst C p w k s h)) I J' _
        rw [show nI (7 * h + p) + 7 = nI (7 * (h + 1) + p) from by rw [show (7 : Int32) = nI 7 from rfl, nI_add]; congr 1; omega]
        refine m_lay hne hp (by omega) (by omega) (fun J2 m1 m2 => ⟨C.nr + 1, rds k3 _ p h w J' hpn hh (by omega) (fun J3 f1 f2 => ih (w + 1) J3 (by omega) f1 (good_step g hb hh f2 (fun p' h' w' e d => ?_) (fun p' h' w' t d => ?_))) C.nr 0 J2 (by omega) (fun j e1 e2 => (m1 j e1 e2).trans (k1 j e1 e2)) (fun p' h' w' => ?_)⟩)
        · unfold mD at d ⊢
          have := e.1
          omega
        · have := tgI_b hC (Nat.le_refl _) hh hpn t
          unfold mD at d
          omega
        · rw [m2]
          constructor
          · rintro (x | x)
            · exact Or.inl x
            · exact Or.inr (Or.inl x)
          · rintro (x | x | ⟨r, r1, -⟩)
            · exact Or.inl x
            · exact Or.inr x
            · exact absurd r1 (Nat.not_lt_zero r)
      · by_cases e2 : p' = p ∧ h' = h ∧ w' = w
        · obtain ⟨rfl, rfl, rfl⟩ := e2
          exact absurd e hb
        · have := e.1
          unfold mD at d ⊢
          omega
  have ats : ∀ d i (J' : MJ), i + d = 336 → (∀ j, j ≠ a1 → j ≠ a2 → J' j = J j) → good C k s E0 (EM (J' a1) (J' a2)) (mD i 0) → vc_X11_spread_L3 a1 343 a2 343 Q (d + 1) (nI k) (nI s) (nI i) I J' := by
    intro d
    induction d with
    | zero =>
      intro i J' hi k1 g
      show vc_X11_spread_L3s a1 343 a2 343 Q (vc_X11_spread_L3 a1 343 a2 343 Q 0) _ _ _ I J'
      unfold vc_X11_spread_L3s
      refine pk_le 336 i (fun _ => q J' k1 (fun p h w => good_fin g (fun p' h' w' e h48 => ?_) p h w)) (fun z => by omega)
      have := e.1
      unfold mD
      omega
    | succ d ih =>
      intro i J' hi k1 g
      have hp : i % 7 < 7 := Nat.mod_lt _ (by decide)
      have hh : i / 7 < 48 := by omega
      have ei : 7 * (i / 7) + i % 7 = i := by omega
      show vc_X11_spread_L3s a1 343 a2 343 Q (vc_X11_spread_L3 a1 343 a2 343 Q (d + 1)) _ _ _ I J'
      unfold vc_X11_spread_L3s
      have v := vp_in_nI (n := i) (N := 343) (by omega) (by omega)
      have go : vc_X11_spread_L49 a1 343 a2 343 Q (vc_X11_spread_L3 a1 343 a2 343 Q (d + 1)) 101 (nI k) (nI s) (nI i) (nI (i / 7)) (nI (i % 7)) 0 I J' := by
        have := sn (vc_X11_spread_L3 a1 343 a2 343 Q (d + 1)) (i % 7) (i / 7) hp hh (fun J2 f1 f2 => by rw [ei] at f2 ⊢; exact ih (i + 1) J2 (by omega) f1 f2) 100 0 J' rfl k1 (by rw [ei]; exact g)
        rw [ei] at this
        exact this
      refine pk_le 336 i (fun z => by omega) (fun _ => nm_r (e' := nI (i / 7)) ?_ (nm_r (e' := nI (i % 7)) ?_ ⟨v, ?_⟩))
      · rw [show (7 : Int32) = nI 7 from rfl, pk_div (by omega) (by omega) (by omega)]
      · rw [show (7 : Int32) = nI 7 from rfl, pk_rem (by omega) (by omega) (by omega)]
      · rw [lg_eq0, lg_eq0, nI_clamp (by omega)]
        refine ⟨fun _ => ⟨101, go⟩, fun z1 => ⟨v, fun _ => ⟨101, go⟩, fun z2 => nm_r (nI_1 i) (ih (i + 1) J' (by omega) k1 (good_skip g (fun p' h' w' _ e d => ?_)))⟩⟩
        by_cases e2 : 7 * h' + p' = i
        · have h4 := e.2.2.2
          rw [e2, z1, z2, bj_0, bj_0] at h4
          split at h4 <;> cases h4
        · unfold mD at d ⊢
          omega
  refine ⟨337, ats 336 0 J rfl (fun _ _ _ => rfl) ?_⟩
  rw [hE0]
  exact good_0 (fun p h w e d => by unfold mD at d; omega)
end Rcm
