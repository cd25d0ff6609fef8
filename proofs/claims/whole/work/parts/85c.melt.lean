/-! ===== bits of a long ===== -/
theorem bj_amt : ∀ k, k < 64 → (((nI k).toInt64 &&& 63).toBitVec.smod 64).toNat = k := by decide +kernel
theorem bj_ext {x y : Int64} (h : ∀ k, k < 64 → bj x k = bj y k) : x = y := by
  apply Int64.toBitVec_inj.mp
  apply BitVec.eq_of_getLsbD_eq
  intro i hi
  exact h i hi
theorem bj_big {x : Int64} {k : Nat} (h : 64 ≤ k) : bj x k = false := BitVec.getLsbD_of_ge _ _ h
theorem bj_0 (k : Nat) : bj 0 k = false := by unfold bj; exact BitVec.getLsbD_zero
theorem bj_or (x y : Int64) (k : Nat) : bj (x ||| y) k = (bj x k || bj y k) := by unfold bj; rw [Int64.toBitVec_or, BitVec.getLsbD_or]
theorem bj_and (x y : Int64) (k : Nat) : bj (x &&& y) k = (bj x k && bj y k) := by unfold bj; rw [Int64.toBitVec_and, BitVec.getLsbD_and]
theorem bj_1 (k : Nat) : bj 1 k = decide (k = 0) := by
  unfold bj
  rw [show (1 : Int64).toBitVec = 1#64 from rfl, BitVec.getLsbD_one]
  simp
theorem bj_shr (x : Int64) {k : Nat} (hk : k < 64) (i : Nat) : bj (x >>> ((nI k).toInt64 &&& 63)) i = (decide (i < 64) && (if k + i < 64 then bj x (k + i) else bj x 63)) := by
  unfold bj
  have e : (x >>> ((nI k).toInt64 &&& 63)).toBitVec = x.toBitVec.sshiftRight k := by
    show x.toBitVec.sshiftRight' (((nI k).toInt64 &&& 63).toBitVec.smod 64) = _
    rw [BitVec.sshiftRight_eq', bj_amt k hk]
  rw [e, BitVec.getLsbD_sshiftRight]
  by_cases h : 64 ≤ i
  · rw [BitVec.msb_eq_getLsbD_last]; simp [h]; omega
  · rw [BitVec.msb_eq_getLsbD_last]; simp [h, show i < 64 by omega]
theorem bj_shl (x : Int64) {k : Nat} (hk : k < 64) (i : Nat) : bj (x <<< ((nI k).toInt64 &&& 63)) i = (decide (i < 64) && (decide (k ≤ i) && bj x (i - k))) := by
  unfold bj
  have e : (x <<< ((nI k).toInt64 &&& 63)).toBitVec = x.toBitVec <<< k := by
    show x.toBitVec <<< (((nI k).toInt64 &&& 63).toBitVec.smod 64) = _
    rw [BitVec.shiftLeft_eq', bj_amt k hk]
  rw [e, BitVec.getLsbD_shiftLeft]
  by_cases h : i < k
  · simp [h, show ¬ k ≤ i by omega]
  · simp [h, show k ≤ i by omega]
theorem bj_pow {k : Nat} (hk : k < 64) (i : Nat) : bj ((1 : Int64) <<< ((nI k).toInt64 &&& 63)) i = decide (i = k) := by
  rw [bj_shl 1 hk, bj_1]
  by_cases h : i = k
  · subst h; simp [hk]
  · simp [h]; intro _ _; omega
/-- a bit that is asked for -/
theorem bj_ask (x : Int64) {k : Nat} (hk : k < 64) : (x >>> ((nI k).toInt64 &&& 63)) &&& 1 = if bj x k then 1 else 0 := by
  apply bj_ext
  intro i hi
  rw [bj_and, bj_1, bj_shr x hk]
  by_cases h : i = 0
  · subst h
    cases hb : bj x k <;> simp [hk, hb, bj_0, bj_1]
  · cases hb : bj x k <;> simp [h, bj_0, bj_1]
theorem lg_eq0 (x y : Int64) : lg_cmp x y = 0 ↔ x = y := by
  unfold lg_cmp
  by_cases h1 : x > y
  · rw [if_pos h1]
    constructor
    · intro h; exact absurd h (by decide)
    · intro h; subst h; exact absurd h1 Int64.lt_irrefl
  · rw [if_neg h1]
    by_cases h2 : x = y
    · rw [if_pos h2]; exact ⟨fun _ => h2, fun _ => rfl⟩
    · rw [if_neg h2]; exact ⟨fun h => absurd h (by decide), fun h => absurd h h2⟩
theorem ask0 {x : Int64} {k : Nat} (hk : k < 64) {A B : Prop} (a : bj x k = false → A) (b : bj x k = true → B) : (lg_cmp ((x >>> ((nI k).toInt64 &&& 63)) &&& 1) 0 = 0 → A) ∧ (¬ lg_cmp ((x >>> ((nI k).toInt64 &&& 63)) &&& 1) 0 = 0 → B) := by
  rw [bj_ask x hk, lg_eq0]
  cases h : bj x k
  · exact ⟨fun _ => a h, fun z => absurd rfl z⟩
  · exact ⟨fun z => absurd z (by decide), fun _ => b h⟩
theorem ask1 {x : Int64} {k : Nat} (hk : k < 64) {A B : Prop} (a : bj x k = false → A) (b : bj x k = true → B) : (¬ lg_cmp ((x >>> ((nI k).toInt64 &&& 63)) &&& 1) 1 = 0 → A) ∧ (lg_cmp ((x >>> ((nI k).toInt64 &&& 63)) &&& 1) 1 = 0 → B) := by
  rw [bj_ask x hk, lg_eq0]
  cases h : bj x k
  · exact ⟨fun _ => a h, fun z => absurd z (by decide)⟩
  · exact ⟨fun z => absurd rfl z, fun _ => b h⟩
/-! ===== melting ===== -/
def rtF (n : Nat) : Nat → Nat
  | 0 => 0
  | k + 1 => if (k + 1) * (k + 1) ≤ n then k + 1 else rtF n k
/-- the greatest number whose square is no more than n (n up to 1088) -/
def rt (n : Nat) : Nat := rtF n 32
theorem rtF_eq {n r : Nat} (h1 : r * r ≤ n) (h2 : n < (r + 1) * (r + 1)) : ∀ k, r ≤ k → rtF n k = r
  | 0, h => by have : r = 0 := by omega
               subst this; rfl
  | k + 1, h => by
    unfold rtF
    by_cases hk : r = k + 1
    · subst hk; rw [if_pos h1]
    · have : (r + 1) * (r + 1) ≤ (k + 1) * (k + 1) := Nat.mul_le_mul (by omega) (by omega)
      rw [if_neg (by omega)]; exact rtF_eq h1 h2 k (by omega)
theorem rtF_le (n : Nat) : ∀ k, rtF n k ≤ k
  | 0 => Nat.le_refl 0
  | k + 1 => by
    unfold rtF
    by_cases h : (k + 1) * (k + 1) ≤ n
    · rw [if_pos h]; exact Nat.le_refl _
    · rw [if_neg h]; exact Nat.le_succ_of_le (rtF_le n k)
theorem rtF_sq (n : Nat) : ∀ k, rtF n k * rtF n k ≤ n
  | 0 => Nat.zero_le _
  | k + 1 => by
    unfold rtF
    by_cases h : (k + 1) * (k + 1) ≤ n
    · rw [if_pos h]; exact h
    · rw [if_neg h]; exact rtF_sq n k
theorem rt_le (n : Nat) : rt n ≤ 32 := rtF_le n 32
theorem rt_leN (n : Nat) : rt n ≤ n := by
  have h : rt n * rt n ≤ n := rtF_sq n 32
  rcases Nat.eq_zero_or_pos (rt n) with z | z
  · omega
  · exact Nat.le_trans (Nat.le_mul_of_pos_left _ z) h
theorem sq_31 {r n : Nat} (h : r * r ≤ n) (hn : n ≤ 999) : r ≤ 31 := by
  rcases Nat.lt_or_ge 31 r with z | z
  · have : 32 * 32 ≤ r * r := Nat.mul_le_mul (by omega) (by omega)
    omega
  · exact z
theorem s_root {n : Nat} (hn : n ≤ 999) {I : MI} {J : MJ} {Q : Int32 → MI → MJ → Prop} (q : Q (nI (rt n)) I J) : vc_X3_root (nI n) I J Q := by
  have key : ∀ d r, r + d = 32 → r * r ≤ n → vc_X3_root_L4 Q (d + 1) (nI n) (nI r) (nI (r + 1)) I J := by
    intro d
    induction d with
    | zero =>
      intro r h1 h2
      have := sq_31 h2 hn
      omega
    | succ d ih =>
      intro r h1 h2
      have h3 := sq_31 h2 hn
      have h4 : (r + 1) * (r + 1) ≤ 32 * 32 := Nat.mul_le_mul (by omega) (by omega)
      show vc_X3_root_L4s Q (vc_X3_root_L4 Q (d + 1)) (nI n) (nI r) (nI (r + 1)) I J
      unfold vc_X3_root_L4s
      refine pk_lt 32 (r + 1) (fun h => by omega) (fun _ => ?_)
      rw [pk_mul]
      refine pk_lt n ((r + 1) * (r + 1)) (fun h => ?_) (fun h => ?_)
      · rw [show rt n = r from rtF_eq h2 h 32 (by omega)] at q
        exact q
      · exact nm_r (nI_1 (r + 1)) (ih (r + 1) (by omega) h)
  exact ⟨33, key 32 0 rfl (Nat.zero_le _)⟩
theorem m_root {n : Nat} (hn : n ≤ 999) {I : MI} {J : MJ} {Q : Int32 → MI → MJ → Prop} (q : Q (nI (rt n)) I J) : vc_X11_root (nI n) I J Q := by
  have key : ∀ d r, r + d = 32 → r * r ≤ n → vc_X11_root_L2 Q (d + 1) (nI n) (nI r) I J := by
    intro d
    induction d with
    | zero =>
      intro r h1 h2
      have := sq_31 h2 hn
      omega
    | succ d ih =>
      intro r h1 h2
      have h3 := sq_31 h2 hn
      have h4 : (r + 1) * (r + 1) ≤ 32 * 32 := Nat.mul_le_mul (by omega) (by omega)
      show vc_X11_root_L2s Q (vc_X11_root_L2 Q (d + 1)) (nI n) (nI r) I J
      unfold vc_X11_root_L2s
      rw [nI_1, pk_mul]
      refine pk_lt n ((r + 1) * (r + 1)) (fun h => ?_) (fun h => ?_)
      · rw [show rt n = r from rtF_eq h2 h 32 (by omega)] at q
        exact q
      · exact nm_e (ih (r + 1) (by omega) h)
  exact ⟨33, key 32 0 rfl (Nat.zero_le _)⟩
/-- what is left of a stock behind its opening -/
def opn (s : Nat) : Nat := s - rt s
theorem opn_le (s : Nat) : opn s ≤ s := Nat.sub_le _ _
theorem s_opened {n : Nat} (hn : n ≤ 999) {I : MI} {J : MJ} {Q : Int32 → MI → MJ → Prop} (q : Q (nI (opn n)) I J) : vc_X3_opened (nI n) I J Q := s_root hn (by show Q (nI n - nI (rt n)) I J; rw [pk_sub (rt_leN n)]; exact q)
theorem m_opened {n : Nat} (hn : n ≤ 999) {I : MI} {J : MJ} {Q : Int32 → MI → MJ → Prop} (q : Q (nI (opn n)) I J) : vc_X11_opened (nI n) I J Q := m_root hn (by show Q (nI n - nI (rt n)) I J; rw [pk_sub (rt_leN n)]; exact q)
/-- what an hour would take -/
def lsO (wb : Bool) (h w k s : Nat) : Nat := if 10 ≤ h % 24 ∧ h % 24 ≤ 15 then 2 * (rt w + 1 - k - s + if wb then 2 else 0) else rt w + 1 - k - s + if wb then 2 else 0
theorem lsO_le (wb : Bool) (h w k s : Nat) : lsO wb h w k s ≤ 70 := by
  unfold lsO
  have := rt_le w
  cases wb <;> split <;> simp <;> omega
theorem mx0 : ∀ a, a < 34 → ∀ k, k < 4 → ∀ s, s < 4 → (if (0 : Int32) < ((nI a - nI k) - nI s) then ((nI a - nI k) - nI s) else 0) = nI (a - k - s) := by decide +kernel
theorem mx1 : ∀ a, a < 34 → ∀ k, k < 4 → ∀ s, s < 4 → ((0 : Int32) ≤ ((nI a - nI k) - nI s) ∧ ((nI a - nI k) - nI s) = nI (a - k - s)) ∨ (¬ (0 : Int32) ≤ ((nI a - nI k) - nI s) ∧ 0 = nI (a - k - s)) := by decide +kernel
theorem s_heat {W : Int64} {h w k s : Nat} (hh : h < 64) (hw : w ≤ 999) (hk : k ≤ 3) (hs : s ≤ 3) {I : MI} {J : MJ} {Q : Int32 → MI → MJ → Prop} (q : Q (nI (lsO (bj W h) h w k s)) I J) : vc_X3_heat W (nI h) (nI w) (nI k) (nI s) I J Q := by
  refine s_root hw ?_
  have hr := rt_le w
  have e1 : (if (0 : Int32) < ((nI (rt w) + 1) - nI k) - nI s then ((nI (rt w) + 1) - nI k) - nI s else 0) = nI (rt w + 1 - k - s) := by
    rw [nI_1]; exact mx0 (rt w + 1) (by omega) k (by omega) s (by omega)
  refine nm_r e1 ?_
  have fin : ∀ v : Nat, v ≤ 40 → v = rt w + 1 - k - s + (if bj W h then 2 else 0) → vc_X3_heat_B31 Q (nI h) (nI v) I J := by
    intro v hv e
    unfold vc_X3_heat_B31
    refine nm_r (pk_rem (d := 24) (by omega) (by omega) (by omega)) ?_
    have hm := Nat.mod_lt h (show 0 < 24 by decide)
    unfold lsO at q
    rw [← e] at q
    refine pk_lt (h % 24) 10 (fun z => ?_) (fun z => ?_)
    · rw [if_neg (by omega)] at q; exact q
    · refine pk_lt 15 (h % 24) (fun z2 => ?_) (fun z2 => ?_)
      · rw [if_neg (by omega)] at q; exact q
      · rw [if_pos ⟨z, z2⟩] at q
        rw [show (2 : Int32) = nI 2 from rfl, pk_mul]; exact q
  refine ask0 hh (fun hb => ?_) (fun hb => ?_)
  · exact fin _ (by omega) (by rw [hb]; rfl)
  · refine nm_r (show nI (rt w + 1 - k - s) + 2 = nI (rt w + 1 - k - s + 2) from nI_add _ 2) ?_
    exact fin _ (by omega) (by rw [hb]; rfl)
theorem ls_less {w l : Nat} (hw : w < 2 ^ 31) (hl : l < 2 ^ 31) : nI w - (if nI l < nI w then nI l else nI w) = nI (w - l) := by
  by_cases h : l < w
  · rw [if_pos ((nI_ltI hl hw).mpr h), pk_sub (by omega)]
  · rw [if_neg (fun z => h ((nI_ltI hl hw).mp z)), pk_sub (Nat.le_refl _)]
    congr 1; omega
theorem s_less {w l : Nat} (hw : w < 2 ^ 31) (hl : l < 2 ^ 31) {I : MI} {J : MJ} {Q : Int32 → MI → MJ → Prop} (q : Q (nI (w - l)) I J) : vc_X3_less (nI w) (nI l) I J Q := by
  unfold vc_X3_less
  rw [ls_less hw hl]; exact q
/-- the reference's loss -/
def lsM (wb sh : Bool) (h w k s : Nat) : Nat := min w (if sh then lsO wb h w k s / 2 else lsO wb h w k s)
theorem m_loses {wb sh : Bool} {h w k s : Nat} (hh : h < 2 ^ 31) (hw : w ≤ 999) (hk : k ≤ 3) (hs : s ≤ 3) {I : MI} {J : MJ} {Q : Int32 → MI → MJ → Prop} (q : Q (nI (lsM wb sh h w k s)) I J) : vc_X11_loses (nI w) (nI k) (nI s) (nI h) (if wb then 1 else 0) (if sh then 1 else 0) I J Q := by
  have hr := rt_le w
  have hl := lsO_le wb h w k s
  have b85 : ∀ v : Nat, v ≤ 100 → v = (if sh then lsO wb h w k s / 2 else lsO wb h w k s) → vc_X11_loses_B85 Q (nI w) (nI v) I J := by
    intro v hv e
    unfold vc_X11_loses_B85
    unfold lsM at q
    rw [← e] at q
    refine pk_le v w (fun z => ?_) (fun z => ?_)
    · rw [Nat.min_eq_right z] at q; exact q
    · rw [Nat.min_eq_left (by omega)] at q; exact q
  have b69 : vc_X11_loses_B69 Q (nI w) (if sh then 1 else 0) (nI (lsO wb h w k s)) I J := by
    unfold vc_X11_loses_B69
    cases sh
    · exact ⟨fun _ => b85 _ (by omega) rfl, fun z => absurd rfl z⟩
    · refine ⟨fun z => absurd z one_ne, fun _ => ?_⟩
      rw [show (2 : Int32) = nI 2 from rfl, pk_div (by omega) (by omega) (by omega)]
      exact b85 _ (by omega) rfl
  have b43 : ∀ a b : Nat, a ≤ 40 → b ≤ 2 → a + b = rt w + 1 - k - s + (if wb then 2 else 0) → vc_X11_loses_B43 Q (nI w) (nI h) (if sh then 1 else 0) (nI a) (nI b) I J := by
    intro a b ha hb e
    unfold vc_X11_loses_B43
    refine nm_r (nI_add a b) ?_
    rw [show (24 : Int32) = nI 24 from rfl, pk_rem hh (by omega) (by omega)]
    have hm := Nat.mod_lt h (show 0 < 24 by decide)
    by_cases hd : 10 ≤ h % 24 ∧ h % 24 ≤ 15
    · refine s_in_t 10 15 ⟨h % 24, hd.1, hd.2, rfl⟩ (b1' ?_)
      rw [show (2 : Int32) = nI 2 from rfl, pk_mul]
      have e2 : 2 * (a + b) = lsO wb h w k s := by unfold lsO; rw [if_pos hd, ← e]
      rw [e2]; exact b69
    · refine s_in_f 10 15 (fun ⟨n, z1, z2, z3⟩ => hd (by rw [nI_eq (by omega) (by omega)] at z3; omega)) (b0' ?_)
      have e2 : a + b = lsO wb h w k s := by unfold lsO; rw [if_neg hd, ← e]
      rw [e2]; exact b69
  have b29 : vc_X11_loses_B29 Q (nI w) (nI h) (if wb then 1 else 0) (if sh then 1 else 0) (nI (rt w + 1 - k - s)) I J := by
    unfold vc_X11_loses_B29
    cases wb
    · exact ⟨fun _ => b43 _ 0 (by omega) (by omega) rfl, fun z => absurd rfl z⟩
    · exact ⟨fun z => absurd z one_ne, fun _ => b43 _ 2 (by omega) (by omega) rfl⟩
  unfold vc_X11_loses
  refine ⟨fun _ => m_root hw ?_, fun z => ?_⟩
  · refine nm_r (show (nI (rt w) + 1 - nI k) - nI s = (nI (rt w + 1) - nI k) - nI s by rw [nI_1]) ?_
    rcases mx1 (rt w + 1) (by omega) k (by omega) s (by omega) with ⟨z1, z2⟩ | ⟨z1, z2⟩
    · refine br_t z1 ?_
      rw [z2]; exact b29
    · refine br_f z1 ?_
      rw [← z2] at b29; exact b29
  · have : w = 0 := by rw [show (0 : Int32) = nI 0 from rfl, nI_eq (by omega) (by omega)] at z; exact z
    subst this
    have e : lsM wb sh h 0 k s = 0 := by unfold lsM; exact Nat.zero_min _
    rw [e] at q; exact q
