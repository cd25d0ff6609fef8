/-! ===== an hour's rest, a road ===== -/
def rst (C : Cty) (p w k s h : Nat) : Nat := if C.pk p = 2 then w else w - lsO (bj C.wm h) h w k s
theorem rst_le (C : Cty) (p w k s h : Nat) : rst C p w k s h ≤ w := by unfold rst; split <;> omega
theorem s_ahi {C : Cty} {I : MI} {J : MJ} (hc : rCc C I J) (hC : wfC C) {p w h k s : Nat} (hp : p < C.np) (hw : w ≤ 99) (hh : h < 64) (hk : k ≤ 3) (hs : s ≤ 3) {Q : Int32 → MI → MJ → Prop} (q : Q (nI (rst C p w k s h)) I J) : vc_X1_afterHourIn (nI p) (nI w) (nI h) (nI k) (nI s) I J Q := by
  obtain ⟨⟨n7, -, -⟩, pkle, -, -, -⟩ := hC
  obtain ⟨-, -, -, ew, ep, -, -⟩ := hc
  have hl := lsO_le (bj C.wm h) h w k s
  have hpk := pkle p hp
  unfold vc_X1_afterHourIn
  refine pk_eq w 0 (fun z => ?_) (fun z => ⟨vp_in_nI (by omega) (by omega), ?_⟩)
  · subst z
    have : rst C p 0 k s h = 0 := Nat.le_zero.mp (rst_le _ _ _ _ _ _)
    rw [this] at q; exact q
  · rw [nI_clamp (by omega), ep p hp, show (2 : Int32) = nI 2 from rfl, nI_eq (by omega) (by omega)]
    unfold rst at q
    refine ⟨fun z2 => ?_, fun z2 => ?_⟩
    · rw [if_neg z2] at q
      rw [ew]
      exact s_heat hh (by omega) hk hs (s_less (by omega) (by omega) q)
    · rw [if_pos z2] at q; exact q
theorem m_warm {C : Cty} {I : MI} {J : MJ} (hm : rCm C I J) (hC : wfC C) {h : Nat} (hh : h < 64) {Q : Int32 → MI → MJ → Prop} (q : Q (if bj C.wm h then 1 else 0) I J) : vc_X11_isWarm (nI h) I J Q := by
  obtain ⟨-, -, -, ew, -, -, -⟩ := hm
  obtain ⟨-, -, -, -, hb⟩ := hC
  unfold vc_X11_isWarm
  refine pk_le 48 h (fun z => ?_) (fun z => ?_)
  · rw [hb h z] at q; exact q
  · rw [ew]
    exact ask1 hh (fun e => by rw [e] at q; exact q) (fun e => by rw [e] at q; exact q)
theorem m_rested {C : Cty} {I : MI} {J : MJ} (hm : rCm C I J) (hC : wfC C) {p w h k s : Nat} (hp : p < C.np) (hw : w ≤ 99) (hh : h < 64) (hk : k ≤ 3) (hs : s ≤ 3) {Q : Int32 → MI → MJ → Prop} (q : Q (nI (rst C p w k s h)) I J) : vc_X11_restedBy (nI w) (nI k) (nI s) (nI h) (nI p) I J Q := by
  obtain ⟨-, -, -, -, ep, -, -⟩ := id hm
  obtain ⟨⟨n7, -, -⟩, pkle, -, -, -⟩ := id hC
  have hpk := pkle p hp
  unfold vc_X11_restedBy
  refine ⟨vp_in_nI (by omega) (by omega), ?_⟩
  rw [nI_clamp (by omega), ep p hp, show (2 : Int32) = nI 2 from rfl, nI_eq (by omega) (by omega)]
  unfold rst at q
  refine ⟨fun z2 => ?_, fun z2 => ?_⟩
  · rw [if_neg z2] at q
    refine m_warm hm hC hh (m_loses (sh := false) (by omega) (by omega) hk hs ?_)
    rw [pk_sub (by unfold lsM; exact Nat.min_le_left _ _)]
    have e : w - lsM (bj C.wm h) false h w k s = w - lsO (bj C.wm h) h w k s := by
      unfold lsM
      rw [if_neg (by decide)]
      omega
    rw [e]; exact q
  · rw [if_pos z2] at q; exact q
/-- on a road, n hours from its i-th on -/
def gnF (W : Int64) (sh : Bool) (k s h : Nat) : Nat → Nat → Nat → Nat
  | 0, _, w => w
  | n + 1, i, w => gnF W sh k s h n (i + 1) (w - (if sh then lsO (bj W (h + i)) (h + i) w k s / 2 else lsO (bj W (h + i)) (h + i) w k s))
theorem gnF_le (W : Int64) (sh : Bool) (k s h : Nat) : ∀ n i w, gnF W sh k s h n i w ≤ w
  | 0, _, w => Nat.le_refl w
  | n + 1, i, w => Nat.le_trans (gnF_le W sh k s h n (i + 1) _) (Nat.sub_le _ _)
theorem gnF_0 (W : Int64) (sh : Bool) (k s h n i : Nat) : gnF W sh k s h n i 0 = 0 := Nat.le_zero.mp (gnF_le W sh k s h n i 0)
def gn (C : Cty) (r w k s h : Nat) : Nat := if C.rk r = 2 then gnF C.wm (decide (C.rk r = 1)) k s h (C.rh r) 0 w - gnF C.wm (decide (C.rk r = 1)) k s h (C.rh r) 0 w / 10 else gnF C.wm (decide (C.rk r = 1)) k s h (C.rh r) 0 w
theorem gn_le (C : Cty) (r w k s h : Nat) : gn C r w k s h ≤ w := by
  unfold gn
  have := gnF_le C.wm (decide (C.rk r = 1)) k s h (C.rh r) 0 w
  split <;> omega
theorem s_road {C : Cty} {I : MI} {J : MJ} (hc : rCc C I J) (hC : wfC C) {r w h k s : Nat} (hr : r < C.nr) (hw : w ≤ 99) (hh : h ≤ 48) (hk : k ≤ 3) (hs : s ≤ 3) {Q : Int32 → MI → MJ → Prop} (q : Q (nI (gn C r w k s h)) I J) : vc_X1_afterRoad (nI r) (nI w) (nI h) (nI k) (nI s) I J Q := by
  obtain ⟨⟨-, n9, -⟩, -, hro, -, -⟩ := id hC
  obtain ⟨-, -, -, ew, -, er, -⟩ := id hc
  obtain ⟨-, -, e10, e7⟩ := er r hr
  obtain ⟨-, -, -, h1, h6, hk2⟩ := hro r hr
  have b85 : ∀ x : Nat, x ≤ 99 → x = gnF C.wm (decide (C.rk r = 1)) k s h (C.rh r) 0 w → vc_X1_afterRoad_B85 Q (nI r) (nI x) I J := by
    intro x hx e
    unfold vc_X1_afterRoad_B85
    refine ⟨vp_in_nI (by omega) (by omega), ?_⟩
    rw [nI_clamp (by omega), e7, show (2 : Int32) = nI 2 from rfl, nI_eq (by omega) (by omega)]
    unfold gn at q
    rw [← e] at q
    refine ⟨fun z => by rw [if_neg z] at q; exact q, fun z => ?_⟩
    rw [if_pos z] at q
    rw [show (10 : Int32) = nI 10 from rfl, pk_div (by omega) (by omega) (by omega), pk_sub (Nat.div_le_self _ _)]
    exact q
  have loop : ∀ (sh : Bool), sh = decide (C.rk r = 1) → ∀ d i x, i + d = C.rh r → x ≤ 99 → gnF C.wm sh k s h d i x = gnF C.wm (decide (C.rk r = 1)) k s h (C.rh r) 0 w → vc_X1_afterRoad_L23 Q (d + 1) (nI r) (nI h) (nI k) (nI s) (if sh then 1 else 0) (nI x) (nI i) I J := by
    intro sh hsh d
    induction d with
    | zero =>
      intro i x h1 hx e
      show vc_X1_afterRoad_L23s Q (vc_X1_afterRoad_L23 Q 0) _ _ _ _ _ _ _ I J
      unfold vc_X1_afterRoad_L23s
      refine ⟨vp_in_nI (by omega) (by omega), ?_⟩
      rw [nI_clamp (by omega), e10]
      exact pk_le (C.rh r) i (fun _ => b85 x hx e) (fun z => by omega)
    | succ d ih =>
      intro i x h1 hx e
      show vc_X1_afterRoad_L23s Q (vc_X1_afterRoad_L23 Q (d + 1)) _ _ _ _ _ _ _ I J
      unfold vc_X1_afterRoad_L23s
      refine ⟨vp_in_nI (by omega) (by omega), ?_⟩
      rw [nI_clamp (by omega), e10]
      refine pk_le (C.rh r) i (fun z => by omega) (fun z => ?_)
      refine pk_le x 0 (fun z => ?_) (fun z => ?_)
      · have hx0 : x = 0 := by omega
        subst hx0
        rw [gnF_0] at e
        exact b85 0 (by omega) e
      · rw [ew, nI_add]
        have hl := lsO_le (bj C.wm (h + i)) (h + i) x k s
        refine s_heat (by omega) (by omega) hk hs ?_
        have b74 : ∀ y : Nat, y ≤ 100 → y = (if sh then lsO (bj C.wm (h + i)) (h + i) x k s / 2 else lsO (bj C.wm (h + i)) (h + i) x k s) → vc_X1_afterRoad_B74 Q (vc_X1_afterRoad_L23 Q (d + 1)) (nI r) (nI h) (nI k) (nI s) (if sh then 1 else 0) (nI i) (nI x) (nI y) I J := by
          intro y hy ey
          unfold vc_X1_afterRoad_B74
          refine s_less (by omega) (by omega) (nm_r (nI_1 i) ?_)
          exact ih (i + 1) (x - y) (by omega) (by omega) (by rw [ey]; exact e)
        cases sh
        · exact ⟨fun _ => b74 _ (by omega) rfl, fun z => absurd rfl z⟩
        · refine ⟨fun z => absurd z one_ne, fun _ => ?_⟩
          rw [show (2 : Int32) = nI 2 from rfl, pk_div (by omega) (by omega) (by omega)]
          exact b74 _ (by omega) rfl
  unfold vc_X1_afterRoad
  refine ⟨vp_in_nI (by omega) (by omega), ?_⟩
  rw [nI_clamp (by omega), e7, show (1 : Int32) = nI 1 from rfl, nI_eq (by omega) (by omega)]
  refine ⟨fun z => ?_, fun z => ?_⟩
  · exact ⟨C.rh r + 1, loop false (by simp [z]) (C.rh r) 0 w (by omega) hw (by simp [z])⟩
  · exact ⟨C.rh r + 1, loop true (by simp [z]) (C.rh r) 0 w (by omega) hw (by simp [z])⟩
theorem ix4 (r j : Nat) : (4 : Int32) * nI r + nI j = nI (4 * r + j) := by rw [show (4 : Int32) = nI 4 from rfl, pk_mul, nI_add]
theorem ix3 (r j : Nat) : (3 : Int32) * nI r + nI j = nI (3 * r + j) := by rw [show (3 : Int32) = nI 3 from rfl, pk_mul, nI_add]
theorem m_comes {C : Cty} {I : MI} {J : MJ} (hm : rCm C I J) (hC : wfC C) {r w h k s : Nat} (hr : r < C.nr) (hw : w ≤ 99) (hh : h ≤ 48) (hk : k ≤ 3) (hs : s ≤ 3) {Q : Int32 → MI → MJ → Prop} (q : Q (nI (gn C r w k s h)) I J) : vc_X11_comesBy (nI r) (nI w) (nI k) (nI s) (nI h) I J Q := by
  obtain ⟨⟨-, n9, -⟩, -, hro, -, -⟩ := id hC
  obtain ⟨-, -, -, ew, -, er, -⟩ := id hm
  obtain ⟨-, -, e10, e7⟩ := er r hr
  obtain ⟨-, -, -, h1, h6, hk2⟩ := hro r hr
  have loop : ∀ (sh : Bool), sh = decide (C.rk r = 1) → ∀ d i x, i + d = C.rh r → x ≤ 99 → gnF C.wm sh k s h d i x = gnF C.wm (decide (C.rk r = 1)) k s h (C.rh r) 0 w → vc_X11_comesBy_L6 Q (d + 1) (nI r) (nI k) (nI s) (nI h) (nI x) (nI i) I J := by
    intro sh hsh d
    induction d with
    | zero =>
      intro i x h1 hx e
      show vc_X11_comesBy_L6s Q (vc_X11_comesBy_L6 Q 0) _ _ _ _ _ _ I J
      unfold vc_X11_comesBy_L6s
      rw [show (2 : Int32) = nI 2 from rfl, show (3 : Int32) = nI 3 from rfl, ix4, ix4]
      refine ⟨vp_in_nI (by omega) (by omega), ?_⟩
      rw [nI_clamp (by omega), nI_clamp (by omega), e10, e7]
      refine pk_le (C.rh r) i (fun _ => ⟨vp_in_nI (by omega) (by omega), ?_⟩) (fun z => by omega)
      rw [nI_eq (by omega) (by omega)]
      unfold gn at q
      rw [← e] at q
      have q : Q (nI (if C.rk r = 2 then x - x / 10 else x)) I J := q
      refine ⟨fun z => by rw [if_neg z] at q; exact q, fun z => ?_⟩
      rw [if_pos z] at q
      rw [show (10 : Int32) = nI 10 from rfl, pk_div (by omega) (by omega) (by omega), pk_sub (Nat.div_le_self _ _)]
      exact q
    | succ d ih =>
      intro i x h1 hx e
      show vc_X11_comesBy_L6s Q (vc_X11_comesBy_L6 Q (d + 1)) _ _ _ _ _ _ I J
      unfold vc_X11_comesBy_L6s
      rw [show (2 : Int32) = nI 2 from rfl, show (3 : Int32) = nI 3 from rfl, ix4, ix4]
      refine ⟨vp_in_nI (by omega) (by omega), ?_⟩
      rw [nI_clamp (by omega), nI_clamp (by omega), e10]
      refine pk_le (C.rh r) i (fun z => by omega) (fun z => ?_)
      rw [nI_add]
      refine m_warm hm hC (by omega) ⟨vp_in_nI (by omega) (by omega), ?_⟩
      rw [e7, show (1 : Int32) = nI 1 from rfl, nI_eq (by omega) (by omega)]
      have b61 : ∀ sb : Bool, sb = sh → vc_X11_comesBy_B61 Q (vc_X11_comesBy_L6 Q (d + 1)) (nI r) (nI k) (nI s) (nI h) (nI i) (nI x) (nI x) (nI k) (nI s) (nI (h + i)) (if bj C.wm (h + i) then 1 else 0) (if sb then 1 else 0) I J := by
        intro sb es
        subst es
        unfold vc_X11_comesBy_B61
        refine m_loses (by omega) (by omega) hk hs ?_
        refine nm_r (pk_sub (by unfold lsM; exact Nat.min_le_left _ _)) (nm_r (nI_1 i) ?_)
        refine ih (i + 1) _ (by omega) (by omega) ?_
        rw [← e]
        show _ = gnF C.wm sb k s h d (i + 1) (x - (if sb then lsO (bj C.wm (h + i)) (h + i) x k s / 2 else lsO (bj C.wm (h + i)) (h + i) x k s))
        congr 1
        unfold lsM
        omega
      refine ⟨fun z2 => ?_, fun z2 => ?_⟩
      · exact b61 false (by rw [hsh]; simp [z2])
      · exact b61 true (by rw [hsh]; simp [z2])
  exact ⟨C.rh r + 1, loop (decide (C.rk r = 1)) rfl (C.rh r) 0 w (by omega) hw rfl⟩
/-! ===== which there are ===== -/
def inN (x : Int32) (n : Nat) : Prop := ∃ i, i < n ∧ x = nI i
theorem has_t {x v : Int32} {n : Nat} (hn : n < 2 ^ 31) (hv : v = nI n) (h : inN x n) {A B : Prop} (b : B) : (x < 0 → A) ∧ (¬ x < 0 → ((v ≤ x → A) ∧ (¬ v ≤ x → B))) := by
  obtain ⟨i, hi, rfl⟩ := h
  subst hv
  exact ⟨fun z => absurd z (nI_pos (by omega)), fun _ => ⟨fun z => absurd z (by rw [nI_leI (by omega) (by omega)]; omega), fun _ => b⟩⟩
theorem has_f {x v : Int32} {n : Nat} (hn : n < 2 ^ 31) (hv : v = nI n) (h : ¬ inN x n) {A B : Prop} (a : A) : (x < 0 → A) ∧ (¬ x < 0 → ((v ≤ x → A) ∧ (¬ v ≤ x → B))) := by
  subst hv
  refine ⟨fun _ => a, fun z => ⟨fun _ => a, fun z2 => ?_⟩⟩
  obtain ⟨i, hi, rfl⟩ := nI_of z
  rw [nI_leI hn hi] at z2
  exact absurd ⟨i, by omega, rfl⟩ h
theorem m_has_t {x v : Int32} {n : Nat} (hn : n < 2 ^ 31) (hv : v = nI n) (h : inN x n) {I : MI} {J : MJ} {Q : Int32 → MI → MJ → Prop} (q : Q 1 I J) : vc_X11_in x 0 (v - 1) I J Q := by
  obtain ⟨i, hi, rfl⟩ := h
  subst hv
  refine s_in_t 0 (n - 1) ⟨i, by omega, by omega, rfl⟩ q rfl ?_ (by omega)
  rw [show (1 : Int32) = nI 1 from rfl, pk_sub (by omega)]
theorem m_has_f {x v : Int32} {n : Nat} (hn : n < 2 ^ 31) (hv : v = nI n) (h : ¬ inN x n) {I : MI} {J : MJ} {Q : Int32 → MI → MJ → Prop} (q : Q 0 I J) : vc_X11_in x 0 (v - 1) I J Q := by
  subst hv
  rcases Nat.eq_zero_or_pos n with z | z
  · subst z
    refine ⟨fun _ => q, fun z1 => ⟨fun _ => q, fun z2 => absurd ?_ z2⟩⟩
    rw [Int32.lt_iff_toInt_lt] at z1 ⊢
    have h1 : (nI 0 - 1 : Int32).toInt = -1 := by decide
    have h2 : (0 : Int32).toInt = 0 := by decide
    omega
  · refine s_in_f 0 (n - 1) (fun ⟨i, a, b, e⟩ => h ⟨i, by omega, e⟩) q rfl ?_ (by omega) (by omega)
    rw [show (1 : Int32) = nI 1 from rfl, pk_sub (by omega)]
