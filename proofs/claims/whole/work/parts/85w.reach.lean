/-! ===== what may come: what is asked of it ===== -/
noncomputable def dB (P : Prop) : Bool := @decide P (Classical.propDecidable P)
theorem dB_t {P : Prop} (h : P) : dB P = true := @decide_eq_true P (Classical.propDecidable P) h
theorem dB_f {P : Prop} (h : ¬ P) : dB P = false := @decide_eq_false P (Classical.propDecidable P) h
theorem dB_o {P : Prop} (h : dB P = true) : P := @of_decide_eq_true P (Classical.propDecidable P) h
theorem dB_n {P : Prop} (h : dB P = false) : ¬ P := fun z => by rw [dB_t z] at h; cases h
/-- so much may come ahead of an hour -/
noncomputable def dS (R : P3) (p t w : Nat) : Bool := dB (∃ h, h < t ∧ R p h w)
noncomputable def sB (R : P3) (p w h : Nat) : Bool := dB (R p h w)
/-- one more than the greatest below n; 0: none -/
def mxN (P : Nat → Bool) : Nat → Nat
  | 0 => 0
  | n + 1 => if P n then n + 1 else mxN P n
theorem mxN_sp (P : Nat → Bool) : ∀ n, mxN P n ≤ n ∧ (∀ w, mxN P n ≤ w → w < n → P w = false) ∧ (mxN P n = 0 ∨ P (mxN P n - 1) = true)
  | 0 => ⟨Nat.le_refl _, fun w _ h => absurd h (Nat.not_lt_zero w), Or.inl rfl⟩
  | n + 1 => by
    obtain ⟨h1, h2, h3⟩ := mxN_sp P n
    cases hP : P n with
    | true =>
      have e : mxN P (n + 1) = n + 1 := by show (if P n then n + 1 else mxN P n) = _; rw [hP]; rfl
      rw [e]
      exact ⟨Nat.le_refl _, fun w a b => by omega, Or.inr hP⟩
    | false =>
      have e : mxN P (n + 1) = mxN P n := by show (if P n then n + 1 else mxN P n) = _; rw [hP]; rfl
      rw [e]
      refine ⟨by omega, fun w a b => ?_, h3⟩
      by_cases ew : w = n
      · rw [ew]; exact hP
      · exact h2 w a (by omega)
theorem mxN_eq {P : Nat → Bool} {n m : Nat} (h1 : m ≤ n) (h2 : ∀ w, m ≤ w → w < n → P w = false) (h3 : m = 0 ∨ P (m - 1) = true) : mxN P n = m := by
  obtain ⟨g1, g2, g3⟩ := mxN_sp P n
  rcases Nat.lt_trichotomy (mxN P n) m with h | h | h
  · rcases h3 with h3 | h3
    · omega
    · rw [g2 (m - 1) (by omega) (by omega)] at h3; cases h3
  · exact h
  · rcases g3 with g3 | g3
    · omega
    · rw [h2 (mxN P n - 1) (by omega) (by omega)] at g3; cases g3
theorem mo_0 : mo 0 = -1 := rfl
theorem mo_s (w : Nat) : mo (w + 1) = nI w := rfl
theorem cM_0 {P : Nat → Bool} : ∀ n, (∀ w, w < n → P w = false) → cM P n = 0
  | 0, _ => rfl
  | n + 1, h => by
    show cM P n + (if P n then 1 else 0) = 0
    rw [h n (Nat.lt_succ_self n), cM_0 n (fun w hw => h w (by omega))]
    rfl
theorem cM_n (P : Nat → Bool) : ∀ n, cM P n ≤ n
  | 0 => Nat.le_refl _
  | n + 1 => by
    have ih := cM_n P n
    show cM P n + (if P n then 1 else 0) ≤ n + 1
    split <;> omega
theorem cM_1 {P : Nat → Bool} {n w : Nat} (hw : w < n) (h : P w = true) : 0 < cM P n := by
  have h1 := cM_lt (P := fun _ => false) (R := P) (fun q z => by cases z) (q := w) rfl h n hw
  omega
theorem bj_low : ∀ t, t < 49 → ∀ h, h < 64 → bj (((1 : Int64) <<< ((nI (t + 1)).toInt64 &&& 63)) - 1) h = decide (h < t + 1) := by decide +kernel
section Ask
variable {R : P3} {I : MI} {J : MJ} {a0 a1 a2 p : Nat}
theorem row0 (hE : ∀ p h w, EC (J (a0 + 1)) p h w ↔ R p h w) (hR : ∀ p h w, R p h w → h ≤ 48) {w : Nat} (hp : p < 7) (hw : w < 100) : J (a0 + 1) (p * 100 + w) = 0 ↔ dS R p 49 w = false := by
  constructor
  · intro z
    apply dB_f
    rintro ⟨h, h1, h2⟩
    have := ((hE p h w).mpr h2).2.2.2
    rw [z, bj_0] at this
    cases this
  · intro z
    have z := dB_n z
    apply bj_ext
    intro h hh
    rw [bj_0]
    cases hb : bj (J (a0 + 1) (p * 100 + w)) h with
    | false => rfl
    | true =>
      have h2 := (hE p h w).mp ⟨hp, hh, hw, hb⟩
      have h3 := hR p h w h2
      exact absurd ⟨h, by omega, h2⟩ z
theorem rowT (hE : ∀ p h w, EC (J (a0 + 1)) p h w ↔ R p h w) {t w : Nat} (hp : p < 7) (ht : t ≤ 48) (hw : w < 100) : J (a0 + 1) (p * 100 + w) &&& (((1 : Int64) <<< ((nI (t + 1)).toInt64 &&& 63)) - 1) = 0 ↔ dS R p (t + 1) w = false := by
  constructor
  · intro z
    apply dB_f
    rintro ⟨h, h1, h2⟩
    have h3 := ((hE p h w).mpr h2).2.2.2
    have h4 : bj (J (a0 + 1) (p * 100 + w) &&& (((1 : Int64) <<< ((nI (t + 1)).toInt64 &&& 63)) - 1)) h = false := by rw [z, bj_0]
    rw [bj_and, h3, bj_low t (by omega) h (by omega), decide_eq_true h1] at h4
    cases h4
  · intro z
    have z := dB_n z
    apply bj_ext
    intro h hh
    rw [bj_0, bj_and, bj_low t (by omega) h hh]
    cases hb : bj (J (a0 + 1) (p * 100 + w)) h with
    | false => rfl
    | true =>
      have h2 := (hE p h w).mp ⟨hp, hh, hw, hb⟩
      by_cases h3 : h < t + 1
      · exact absurd ⟨h, h3, h2⟩ z
      · rw [decide_eq_false h3]; rfl
theorem c_most (hE : ∀ p h w, EC (J (a0 + 1)) p h w ↔ R p h w) (hR : ∀ p h w, R p h w → h ≤ 48) (hp : p < 7) {Q : Int32 → MI → MJ → Prop} (q : Q (mo (mxN (dS R p 49) 100)) I J) : vc_X5_mostIn a0 (nI p) I J Q := by
  have loop : ∀ n, n ≤ 100 → ∀ v2, v2 = nI n + (-1) → Q (mo (mxN (dS R p 49) n)) I J → vc_X5_mostIn_L3 a0 Q (n + 1) (nI p) v2 I J := by
    intro n
    induction n with
    | zero =>
      intro _ v2 e q
      subst e
      show vc_X5_mostIn_L3s a0 Q (vc_X5_mostIn_L3 a0 Q 0) _ _ I J
      unfold vc_X5_mostIn_L3s
      exact br_t (by decide) q
    | succ n ih =>
      intro hn v2 e q
      rw [pk_m1] at e
      subst e
      show vc_X5_mostIn_L3s a0 Q (vc_X5_mostIn_L3 a0 Q (n + 1)) _ _ I J
      unfold vc_X5_mostIn_L3s
      rw [ix100, nI_clamp (by omega), lg_eq0, row0 hE hR hp (by omega)]
      have q : Q (mo (if dS R p 49 n then n + 1 else mxN (dS R p 49) n)) I J := q
      refine br_f (nI_pos (by omega)) ⟨vp_in_nI (by omega) (by omega), fun z => nm_e (ih (by omega) _ rfl ?_), fun z => ?_⟩
      · rw [z] at q; exact q
      · rw [Bool.not_eq_false] at z
        rw [z] at q; exact q
  exact ⟨101, loop 100 (Nat.le_refl _) 99 (by decide) q⟩
theorem c_soon_n (hE : ∀ p h w, EC (J (a0 + 1)) p h w ↔ R p h w) (hR : ∀ p h w, R p h w → h ≤ 48) (hp : p < 7) (e : mxN (dS R p 49) 100 = 0) {Q : Int32 → MI → MJ → Prop} (q : Q (-1) I J) : vc_X5_soonestOfMost a0 (nI p) I J Q := by
  unfold vc_X5_soonestOfMost
  refine c_most hE hR hp ?_
  rw [e]
  exact ⟨fun z => absurd rfl z, fun _ => q⟩
theorem c_soon (hE : ∀ p h w, EC (J (a0 + 1)) p h w ↔ R p h w) (hR : ∀ p h w, R p h w → h ≤ 48) (hp : p < 7) {w : Nat} (hw : w < 100) (e : mxN (dS R p 49) 100 = w + 1) {Q : Int32 → MI → MJ → Prop} (q : Q (lsM_ (sB R p w) 49 0) I J) : vc_X5_soonestOfMost a0 (nI p) I J Q := by
  have loop : ∀ d h, h + d = 49 → Q (lsM_ (sB R p w) d h) I J → vc_X5_soonestOfMost_L28 a0 Q (d + 1) (J (a0 + 1) (p * 100 + w)) (nI h) I J := by
    intro d
    induction d with
    | zero =>
      intro h hh q
      show vc_X5_soonestOfMost_L28s a0 Q (vc_X5_soonestOfMost_L28 a0 Q 0) _ _ I J
      unfold vc_X5_soonestOfMost_L28s
      exact pk_lt 48 h (fun _ => q) (fun z => by omega)
    | succ d ih =>
      intro h hh q
      show vc_X5_soonestOfMost_L28s a0 Q (vc_X5_soonestOfMost_L28 a0 Q (d + 1)) _ _ I J
      unfold vc_X5_soonestOfMost_L28s
      refine pk_lt 48 h (fun z => by omega) (fun _ => ask0 (by omega) (fun hb => nm_r (nI_1 h) (ih (h + 1) (by omega) ?_)) (fun hb => ?_))
      · rw [ls_f (dB_f (fun z => by have := ((hE p h w).mpr z).2.2.2; rw [hb] at this; cases this))] at q; exact q
      · rw [ls_t (dB_t ((hE p h w).mp ⟨hp, by omega, hw, hb⟩))] at q; exact q
  unfold vc_X5_soonestOfMost
  refine c_most hE hR hp ?_
  rw [e, mo_s]
  refine ⟨fun _ => ?_, fun z => absurd z (nI_ne_m1 (by omega))⟩
  rw [ix100, nI_clamp (by omega)]
  exact ⟨vp_in_nI (by omega) (by omega), nm_e ⟨50, loop 49 0 rfl q⟩⟩
theorem c_unlike (hE : ∀ p h w, EC (J (a0 + 1)) p h w ↔ R p h w) (hR : ∀ p h w, R p h w → h ≤ 48) (hp : p < 7) {Q : Int32 → MI → MJ → Prop} (q : Q (if cM (dS R p 49) 100 = 0 then -1 else nI (cM (dS R p 49) 100)) I J) : vc_X5_unlikeIn a0 (nI p) I J Q := by
  have loop : ∀ d w, w + d = 100 → vc_X5_unlikeIn_L4 a0 Q (d + 1) (nI p) (nI (cM (dS R p 49) w)) (nI w) I J := by
    intro d
    induction d with
    | zero =>
      intro w hw
      have e : w = 100 := by omega
      subst e
      have := cM_n (dS R p 49) 100
      show vc_X5_unlikeIn_L4s a0 Q (vc_X5_unlikeIn_L4 a0 Q 0) _ _ _ I J
      unfold vc_X5_unlikeIn_L4s
      rw [show (0 : Int32) = nI 0 from rfl, nI_eq (by omega) (by omega)]
      refine pk_lt 99 100 (fun _ => ⟨fun z => ?_, fun z => ?_⟩) (fun z => by omega)
      · rw [if_neg z] at q; exact q
      · rw [if_pos z] at q; exact q
    | succ d ih =>
      intro w hw
      show vc_X5_unlikeIn_L4s a0 Q (vc_X5_unlikeIn_L4 a0 Q (d + 1)) _ _ _ I J
      unfold vc_X5_unlikeIn_L4s
      rw [ix100, nI_clamp (by omega), lg_eq0, row0 hE hR hp (by omega)]
      have ih := ih (w + 1) (by omega)
      have e : cM (dS R p 49) (w + 1) = cM (dS R p 49) w + (if dS R p 49 w then 1 else 0) := rfl
      rw [e] at ih
      refine pk_lt 99 w (fun z => by omega) (fun _ => ⟨vp_in_nI (by omega) (by omega), fun z => nm_r (nI_1 w) ?_, fun z => nm_r (nI_1 _) (nm_r (nI_1 w) ?_)⟩)
      · rw [z] at ih; exact ih
      · rw [Bool.not_eq_false] at z
        rw [z] at ih; exact ih
  exact ⟨101, loop 100 0 rfl⟩
theorem c_mayHave (hE : ∀ p h w, EC (J (a0 + 1)) p h w ↔ R p h w) (hp : p < 7) {n t : Nat} (hn : n ≤ 99) (ht : t ≤ 48) {Q : Int32 → MI → MJ → Prop} (q1 : (∃ w, n ≤ w ∧ w < 100 ∧ dS R p (t + 1) w = true) → Q 1 I J) (q0 : (∀ w, n ≤ w → w < 100 → dS R p (t + 1) w = false) → Q 0 I J) : vc_X5_mayHave a0 (nI p) (nI n) (nI t) I J Q := by
  have loop : ∀ d w, w + d = 100 → n ≤ w → (∀ v, n ≤ v → v < w → dS R p (t + 1) v = false) → vc_X5_mayHave_L12 a0 Q (d + 1) (nI p) (((1 : Int64) <<< ((nI (t + 1)).toInt64 &&& 63)) - 1) (nI w) I J := by
    intro d
    induction d with
    | zero =>
      intro w hw h1 h2
      show vc_X5_mayHave_L12s a0 Q (vc_X5_mayHave_L12 a0 Q 0) _ _ _ I J
      unfold vc_X5_mayHave_L12s
      exact pk_lt 99 w (fun _ => q0 (fun v a b => h2 v a (by omega))) (fun z => by omega)
    | succ d ih =>
      intro w hw h1 h2
      show vc_X5_mayHave_L12s a0 Q (vc_X5_mayHave_L12 a0 Q (d + 1)) _ _ _ I J
      unfold vc_X5_mayHave_L12s
      rw [ix100, nI_clamp (by omega), lg_eq0, rowT hE hp ht (by omega)]
      refine pk_lt 99 w (fun z => by omega) (fun _ => ⟨vp_in_nI (by omega) (by omega), fun z => nm_r (nI_1 w) (ih (w + 1) (by omega) (by omega) (fun v a b => ?_)), fun z => q1 ⟨w, h1, by omega, by rw [Bool.not_eq_false] at z; exact z⟩⟩)
      by_cases ev : v = w
      · rw [ev]; exact z
      · exact h2 v a (by omega)
  unfold vc_X5_mayHave
  rw [nI_1]
  exact nm_e ⟨100 - n + 1, loop (100 - n) n (by omega) (Nat.le_refl _) (fun v a b => by omega)⟩
/-! the reference -/
theorem mo_cmp : ∀ n, n < 101 → ∀ m, m < 101 → decide (nI n + (-1) ≤ mo m) = decide (n ≤ m) := by decide +kernel
theorem mo_cmpI {n m : Nat} (hn : n < 101) (hm : m < 101) : nI n + (-1) ≤ mo m ↔ n ≤ m := by
  have := mo_cmp n hn m hm
  constructor
  · intro z; rw [decide_eq_true z] at this; exact of_decide_eq_true this.symm
  · intro z; rw [decide_eq_true z] at this; exact of_decide_eq_true this
theorem ix7 (h p : Nat) : (7 : Int32) * nI h + nI p = nI (7 * h + p) := by rw [show (7 : Int32) = nI 7 from rfl, pk_mul, nI_add]
theorem m_most (hE : ∀ p h w, EM (J a1) (J a2) p h w ↔ R p h w) (hp : p < 7) {t : Nat} (ht : t ≤ 48) {Q : Int32 → MI → MJ → Prop} (q : Q (mo (mxN (dS R p (t + 1)) 100)) I J) : vc_X11_mostIn a1 343 a2 343 (nI p) (nI t) I J Q := by
  have inner : ∀ (k6 : Int32 → Int32 → Int32 → Int32 → MI → MJ → Prop) (h : Nat), h ≤ t → k6 (nI p) (nI t) (mo (mxN (dS R p (h + 1)) 100)) (nI (h + 1)) I J → ∀ n, n ≤ 100 → ∀ v7, v7 = nI n + (-1) → ∀ m, m ≤ 100 → ((m = mxN (dS R p (h + 1)) 100 ∧ n ≤ m) ∨ (m = mxN (dS R p h) 100 ∧ ∀ w, n ≤ w → w < 100 → ¬ R p h w)) → vc_X11_mostIn_L17 a1 343 a2 343 Q k6 (n + 1) (nI p) (nI t) (mo m) (nI h) v7 I J := by
    intro k6 h hh nx
    have ge : ∀ w, dS R p h w = true → dS R p (h + 1) w = true := fun w z => by
      obtain ⟨h', a, b⟩ := dB_o z
      exact dB_t ⟨h', by omega, b⟩
    have sp : ∀ w, dS R p (h + 1) w = true → dS R p h w = true ∨ R p h w := fun w z => by
      obtain ⟨h', a, b⟩ := dB_o z
      by_cases e : h' = h
      · subst e; exact Or.inr b
      · exact Or.inl (dB_t ⟨h', by omega, b⟩)
    obtain ⟨s1, s2, s3⟩ := mxN_sp (dS R p h) 100
    have fin : ∀ n m, n ≤ m → ((m = mxN (dS R p (h + 1)) 100 ∧ n ≤ m) ∨ (m = mxN (dS R p h) 100 ∧ ∀ w, n ≤ w → w < 100 → ¬ R p h w)) → m = mxN (dS R p (h + 1)) 100 := by
      rintro n m hnm (⟨e, -⟩ | ⟨e, hz⟩)
      · exact e
      · refine (mxN_eq (by omega) (fun w a b => ?_) ?_).symm
        · cases hb : dS R p (h + 1) w with
          | false => rfl
          | true =>
            rcases sp w hb with z | z
            · rw [s2 w (by omega) b] at z; cases z
            · exact absurd z (hz w (by omega) b)
        · rcases s3 with z | z
          · left; omega
          · right; rw [e]; exact ge _ z
    intro n
    induction n with
    | zero =>
      intro _ v7 e m hm hi
      subst e
      show vc_X11_mostIn_L17s a1 343 a2 343 Q k6 (vc_X11_mostIn_L17 a1 343 a2 343 Q k6 0) _ _ _ _ _ I J
      unfold vc_X11_mostIn_L17s
      refine br_t ((mo_cmpI (by omega) (by omega)).mpr (Nat.zero_le _)) (nm_r (nI_1 h) ?_)
      rw [fin 0 m (Nat.zero_le _) hi]; exact nx
    | succ n ih =>
      intro hn v7 e m hm hi
      subst e
      show vc_X11_mostIn_L17s a1 343 a2 343 Q k6 (vc_X11_mostIn_L17 a1 343 a2 343 Q k6 (n + 1)) _ _ _ _ _ I J
      unfold vc_X11_mostIn_L17s
      rw [mo_cmpI (by omega) (by omega)]
      refine ⟨fun z => nm_r (nI_1 h) ?_, fun z => ?_⟩
      · rw [fin (n + 1) m z hi]; exact nx
      · rcases hi with ⟨-, hi⟩ | ⟨e, hz⟩
        · omega
        · rw [pk_m1, ix7]
          refine m_isIn hp (by omega) (by omega) (fun hb => b1' ?_) (fun hb => b0' ?_)
          · have hb := (hE p h n).mp hb
            unfold vc_X11_mostIn_B48
            refine nm_e (ih (by omega) _ rfl (n + 1) (by omega) (Or.inl ⟨?_, by omega⟩))
            refine (mxN_eq (by omega) (fun w a b => ?_) (Or.inr (dB_t ⟨h, by omega, hb⟩))).symm
            cases hb2 : dS R p (h + 1) w with
            | false => rfl
            | true =>
              rcases sp w hb2 with y | y
              · rw [s2 w (by omega) b] at y; cases y
              · exact absurd y (hz w (by omega) b)
          · unfold vc_X11_mostIn_B48
            refine nm_e (ih (by omega) _ rfl m hm (Or.inr ⟨e, fun w a b => ?_⟩))
            by_cases ew : w = n
            · rw [ew]; exact fun y => hb ((hE p h n).mpr y)
            · exact hz w (by omega) b
  have outer : ∀ d h, h + d = t + 1 → vc_X11_mostIn_L6 a1 343 a2 343 Q (d + 1) (nI p) (nI t) (mo (mxN (dS R p h) 100)) (nI h) I J := by
    intro d
    induction d with
    | zero =>
      intro h hh
      have e : h = t + 1 := by omega
      subst e
      show vc_X11_mostIn_L6s a1 343 a2 343 Q (vc_X11_mostIn_L6 a1 343 a2 343 Q 0) _ _ _ _ I J
      unfold vc_X11_mostIn_L6s
      exact pk_lt t (t + 1) (fun _ => q) (fun z => by omega)
    | succ d ih =>
      intro h hh
      show vc_X11_mostIn_L6s a1 343 a2 343 Q (vc_X11_mostIn_L6 a1 343 a2 343 Q (d + 1)) _ _ _ _ I J
      unfold vc_X11_mostIn_L6s
      exact pk_lt t h (fun z => by omega) (fun _ => ⟨101, inner _ h (by omega) (ih (h + 1) (by omega)) 100 (Nat.le_refl _) 99 (by decide) _ (mxN_sp (dS R p h) 100).1 (Or.inr ⟨rfl, fun w a b => by omega⟩)⟩)
  have h0 := outer (t + 1) 0 (by omega)
  rw [show mxN (dS R p 0) 100 = 0 from mxN_eq (Nat.zero_le _) (fun w _ _ => dB_f (fun ⟨h, a, _⟩ => absurd a (Nat.not_lt_zero h))) (Or.inl rfl)] at h0
  exact ⟨t + 1 + 1, h0⟩
theorem m_soon (hE : ∀ p h w, EM (J a1) (J a2) p h w ↔ R p h w) (hp : p < 7) {w : Nat} (hw : w < 100) (hex : ∃ h, h < 49 ∧ R p h w) {Q : Int32 → MI → MJ → Prop} (q : Q (lsM_ (sB R p w) 49 0) I J) : vc_X11_soonestIn a1 343 a2 343 (nI p) (nI w) I J Q := by
  have loop : ∀ d h, h + d = 49 → (∃ h', h ≤ h' ∧ h' < 49 ∧ R p h' w) → Q (lsM_ (sB R p w) d h) I J → vc_X11_soonestIn_L3 a1 343 a2 343 Q (d + 1) (nI p) (nI w) (nI h) I J := by
    intro d
    induction d with
    | zero =>
      rintro h hh ⟨h', a, b, -⟩ q
      omega
    | succ d ih =>
      rintro h hh ⟨h', a, b, c⟩ q
      show vc_X11_soonestIn_L3s a1 343 a2 343 Q (vc_X11_soonestIn_L3 a1 343 a2 343 Q (d + 1)) _ _ _ I J
      unfold vc_X11_soonestIn_L3s
      rw [ix7]
      refine m_isIn hp (by omega) hw (fun hb => b1 ?_) (fun hb => b0 (nm_r (nI_1 h) (ih (h + 1) (by omega) ⟨h', ?_, b, c⟩ ?_)))
      · rw [ls_t (dB_t ((hE p h w).mp hb))] at q; exact q
      · by_cases e : h' = h
        · subst e; exact absurd ((hE p h' w).mpr c) hb
        · omega
      · rw [ls_f (dB_f (fun z => hb ((hE p h w).mpr z)))] at q; exact q
  obtain ⟨h, a, b⟩ := hex
  exact ⟨50, loop 49 0 rfl ⟨h, Nat.zero_le _, a, b⟩ q⟩
theorem m_unlike (hE : ∀ p h w, EM (J 99) (J 100) p h w ↔ R p h w) (hp : p < 7) {Q : Int32 → MI → MJ → Prop} (q : Q (nI (cM (dS R p 49) 100)) I J) : ∃ n, vc_X11_comes_L106 Q n (nI p) 0 0 I J := by
  have inner : ∀ (k106 : Int32 → Int32 → Int32 → MI → MJ → Prop) (w : Nat), w < 100 → k106 (nI p) (nI (cM (dS R p 49) (w + 1))) (nI (w + 1)) I J → ∀ d h, h + d = 49 → vc_X11_comes_L119 Q k106 (d + 1) (nI p) (nI (cM (dS R p 49) w)) (nI w) (if dS R p h w then 1 else 0) (nI h) I J := by
    intro k106 w hw nx d
    induction d with
    | zero =>
      intro h hh
      have e : h = 49 := by omega
      subst e
      show vc_X11_comes_L119s Q k106 (vc_X11_comes_L119 Q k106 0) _ _ _ _ _ I J
      unfold vc_X11_comes_L119s
      have e : cM (dS R p 49) (w + 1) = cM (dS R p 49) w + (if dS R p 49 w then 1 else 0) := rfl
      rw [e] at nx
      have b179 : ∀ v : Nat, v = (if dS R p 49 w then 1 else 0) → vc_X11_comes_B179 Q k106 (nI p) (nI w) (nI (cM (dS R p 49) w)) (nI v) I J := by
        intro v ev
        unfold vc_X11_comes_B179
        rw [← ev] at nx
        exact nm_r (nI_add _ v) (nm_r (nI_1 w) nx)
      refine pk_lt 48 49 (fun _ => ?_) (fun z => by omega)
      cases hb : dS R p 49 w with
      | false => exact ⟨fun _ => b179 0 (by rw [hb]; rfl), fun z => absurd rfl z⟩
      | true => exact ⟨fun z => absurd z one_ne, fun _ => b179 1 (by rw [hb]; rfl)⟩
    | succ d ih =>
      intro h hh
      show vc_X11_comes_L119s Q k106 (vc_X11_comes_L119 Q k106 (d + 1)) _ _ _ _ _ I J
      unfold vc_X11_comes_L119s
      have ih := ih (h + 1) (by omega)
      have b1t : dS R p (h + 1) w = true → vc_X11_comes_B154 Q k106 (vc_X11_comes_L119 Q k106 (d + 1)) (nI p) (nI (cM (dS R p 49) w)) (nI w) (nI h) I J := fun z => by
        rw [z] at ih
        exact nm_r (nI_1 h) ih
      refine pk_lt 48 h (fun z => by omega) (fun _ => ?_)
      cases hb : dS R p h w with
      | true =>
        obtain ⟨h', a, b⟩ := dB_o hb
        exact ⟨fun _ => b1t (dB_t ⟨h', by omega, b⟩), fun z => absurd z one_ne⟩
      | false =>
        refine ⟨fun z => absurd rfl z, fun _ => ?_⟩
        rw [ix7]
        refine m_isIn hp (by omega) hw (fun hc => b1' (b1t (dB_t ⟨h, by omega, (hE p h w).mp hc⟩))) (fun hc => b0' ?_)
        have e : dS R p (h + 1) w = false := dB_f (fun ⟨h', a, b⟩ => by
          by_cases e : h' = h
          · subst e; exact hc ((hE p h' w).mpr b)
          · exact dB_n hb ⟨h', by omega, b⟩)
        rw [e] at ih
        exact nm_r (nI_1 h) ih
  have outer : ∀ d w, w + d = 100 → vc_X11_comes_L106 Q (d + 1) (nI p) (nI (cM (dS R p 49) w)) (nI w) I J := by
    intro d
    induction d with
    | zero =>
      intro w hw
      have e : w = 100 := by omega
      subst e
      show vc_X11_comes_L106s Q (vc_X11_comes_L106 Q 0) _ _ _ I J
      unfold vc_X11_comes_L106s
      exact pk_lt 99 100 (fun _ => q) (fun z => by omega)
    | succ d ih =>
      intro w hw
      show vc_X11_comes_L106s Q (vc_X11_comes_L106 Q (d + 1)) _ _ _ I J
      unfold vc_X11_comes_L106s
      have h0 := inner _ w (by omega) (ih (w + 1) (by omega)) 49 0 rfl
      rw [show dS R p 0 w = false from dB_f (fun ⟨h, a, _⟩ => absurd a (Nat.not_lt_zero h))] at h0
      exact pk_lt 99 w (fun z => by omega) (fun _ => ⟨50, h0⟩)
  exact ⟨101, outer 100 0 rfl⟩
end Ask
