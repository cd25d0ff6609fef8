/-! ===== who opened a cellar; winds by a number ===== -/
theorem bt5 : ∀ m, m < 32 → ∀ i, i < 5 → ((((nI m >>> (nI i &&& 31)) &&& 1) = 0 ∧ m / 2 ^ i % 2 = 0) ∨ (((nI m >>> (nI i &&& 31)) &&& 1) = 1 ∧ m / 2 ^ i % 2 = 1)) := by decide +kernel
theorem sh5 : ∀ n, n < 6 → (1 : Int32) <<< (nI n &&& 31) = nI (2 ^ n) := by decide +kernel
theorem ng5 : ∀ b, b < 31 → ∀ a, a < b → (¬ (0 : Int32) ≤ nI a - nI b) ∧ nI a - nI b < 0 := by decide +kernel
theorem le0n {n : Nat} (h : n < 2 ^ 31) : (0 : Int32) ≤ nI n := (nI_leI (a := 0) (by omega) h).mpr (Nat.zero_le _)
/-- what is left of s when those of the set m came, from the i-th on -/
def lvF (R : Rw) (m : Nat) : Nat → Nat → Nat → Option Nat
  | 0, _, s => some s
  | d + 1, i, s => if m / 2 ^ i % 2 = 0 then lvF R m d (i + 1) s else if R.2 i ≤ opn s then lvF R m d (i + 1) (opn s - R.2 i) else none
def lvV (o : Option Nat) : Int32 := match o with | some v => nI v | none => -1
theorem c_restBy {S : ST} {I : MI} {J : MJ} (hw : wf S) (hc : Cp S I J) {m s : Nat} (hm : m < 32) (hs : s ≤ 999) {Q : Int32 → MI → MJ → Prop} (q : Q (lvV (lvF S.tk m S.tk.1 0 s)) I J) : vc_X8_restBy (nI m) (nI s) I J Q := by
  obtain ⟨-, -, -, -, -, ⟨w1, w2⟩, -⟩ := hw
  obtain ⟨-, -, -, -, -, ⟨e1, e2⟩, -⟩ := hc
  have loop : ∀ d i s, i + d = S.tk.1 → s ≤ 999 → Q (lvV (lvF S.tk m d i s)) I J → vc_X8_restBy_L5 Q (d + 1) (nI m) (nI s) (nI i) I J := by
    intro d
    induction d with
    | zero =>
      intro i s hi hs q
      show vc_X8_restBy_L5s Q (vc_X8_restBy_L5 Q 0) _ _ _ I J
      unfold vc_X8_restBy_L5s
      rw [e1]
      exact pk_le S.tk.1 i (fun _ => q) (fun z => by omega)
    | succ d ih =>
      intro i s hi hs q
      have hb := w2 i (by omega)
      have ho := opn_le s
      show vc_X8_restBy_L5s Q (vc_X8_restBy_L5 Q (d + 1)) _ _ _ I J
      unfold vc_X8_restBy_L5s
      rw [e1]
      have q : Q (lvV (if m / 2 ^ i % 2 = 0 then lvF S.tk m d (i + 1) s else if S.tk.2 i ≤ opn s then lvF S.tk m d (i + 1) (opn s - S.tk.2 i) else none)) I J := q
      refine pk_le S.tk.1 i (fun z => by omega) (fun _ => ?_)
      rcases bt5 m hm i (by omega) with ⟨h1, h2⟩ | ⟨h1, h2⟩
      · rw [if_pos h2] at q
        exact ⟨fun _ => nm_r (nI_1 i) (ih (i + 1) s (by omega) hs q), fun z => absurd h1 z⟩
      · rw [if_neg (by omega)] at q
        refine ⟨fun z => absurd (h1.symm.trans z) (by decide), fun _ => s_opened hs ⟨vp_in_nI (by omega) (by omega), ?_⟩⟩
        rw [nI_clamp (by omega), e2 i (by omega)]
        by_cases hl : S.tk.2 i ≤ opn s
        · rw [if_pos hl] at q
          refine nm_r (pk_sub hl) ⟨fun _ => nm_r (nI_1 i) (ih (i + 1) _ (by omega) (by omega) q), fun z => absurd (le0n (by omega)) z⟩
        · rw [if_neg hl] at q
          have h3 := ng5 (S.tk.2 i) (by omega) (opn s) (by omega)
          exact nm_e ⟨fun z => absurd z h3.1, fun _ => q⟩
  exact ⟨S.tk.1 + 1, loop S.tk.1 0 s (by omega) hs q⟩
theorem m_leftBy {S : ST} {I : MI} {J : MJ} (hw : wf S) (hm : Mp S I J) {m s : Nat} (hm5 : m < 32) (hs : s ≤ 999) {Q : Int32 → MI → MJ → Prop} (q : Q (lvV (lvF S.tk m S.tk.1 0 s)) I J) : vc_X11_leftBy (nI s) (nI m) I J Q := by
  obtain ⟨-, -, -, -, -, ⟨w1, w2⟩, -⟩ := hw
  obtain ⟨-, -, -, -, -, ⟨e1, e2⟩, -⟩ := hm
  have b46 : ∀ s, s ≤ 999 → Q (nI s) I J → vc_X11_leftBy_B46 Q (nI s) I J := fun s hs q => ⟨fun _ => q, fun z => absurd (le0n (by omega)) z⟩
  have loop : ∀ d i s, i + d = S.tk.1 → s ≤ 999 → Q (lvV (lvF S.tk m d i s)) I J → vc_X11_leftBy_L5 Q (d + 1) (nI m) (nI s) (nI i) I J := by
    intro d
    induction d with
    | zero =>
      intro i s hi hs q
      show vc_X11_leftBy_L5s Q (vc_X11_leftBy_L5 Q 0) _ _ _ I J
      unfold vc_X11_leftBy_L5s
      rw [e1]
      exact pk_le S.tk.1 i (fun _ => b46 s hs q) (fun z => by omega)
    | succ d ih =>
      intro i s hi hs q
      have hb := w2 i (by omega)
      have ho := opn_le s
      show vc_X11_leftBy_L5s Q (vc_X11_leftBy_L5 Q (d + 1)) _ _ _ I J
      unfold vc_X11_leftBy_L5s
      rw [e1]
      have q : Q (lvV (if m / 2 ^ i % 2 = 0 then lvF S.tk m d (i + 1) s else if S.tk.2 i ≤ opn s then lvF S.tk m d (i + 1) (opn s - S.tk.2 i) else none)) I J := q
      refine pk_le S.tk.1 i (fun z => by omega) (fun _ => ⟨fun z => absurd z (nI_pos (by omega)), fun _ => ?_⟩)
      unfold vc_X11_has
      rcases bt5 m hm5 i (by omega) with ⟨h1, h2⟩ | ⟨h1, h2⟩
      · rw [if_pos h2] at q
        exact ⟨fun _ => b0' (nm_r (nI_1 i) (ih (i + 1) s (by omega) hs q)), fun z => absurd (h1.symm.trans z) (by decide)⟩
      · rw [if_neg (by omega)] at q
        refine ⟨fun z => absurd h1 z, fun _ => b1' (m_opened hs ⟨vp_in_nI (by omega) (by omega), ?_⟩)⟩
        rw [nI_clamp (by omega), e2 i (by omega)]
        by_cases hl : S.tk.2 i ≤ opn s
        · rw [if_pos hl] at q
          exact nm_r (pk_sub hl) (nm_r (nI_1 i) (ih (i + 1) _ (by omega) (by omega) q))
        · rw [if_neg hl] at q
          have h3 := ng5 (S.tk.2 i) (by omega) (opn s) (by omega)
          refine nm_e (nm_r (nI_1 i) ?_)
          show vc_X11_leftBy_L5s Q (vc_X11_leftBy_L5 Q d) _ _ _ I J
          unfold vc_X11_leftBy_L5s
          have fin : vc_X11_leftBy_B46 Q (nI (opn s) - nI (S.tk.2 i)) I J := ⟨fun z => absurd z h3.1, fun _ => q⟩
          exact ⟨fun _ => fin, fun _ => ⟨fun _ => fin, fun z => absurd h3.2 z⟩⟩
  exact ⟨S.tk.1 + 1, loop S.tk.1 0 s (by omega) hs q⟩
def cM (P : Nat → Bool) : Nat → Nat
  | 0 => 0
  | k + 1 => cM P k + (if P k then 1 else 0)
def lsM_ (P : Nat → Bool) : Nat → Nat → Int32
  | 0, _ => -1
  | d + 1, k => if P k then nI k else lsM_ P d (k + 1)
theorem p2_5 {n : Nat} (h : n ≤ 5) : 2 ^ n ≤ 32 ∧ 1 ≤ 2 ^ n := by
  have h1 : 2 ^ n ≤ 2 ^ 5 := Nat.pow_le_pow_right (by decide) h
  have h2 : 0 < 2 ^ n := Nat.pow_pos (by decide)
  omega
theorem p_left (I : MI) (J : MJ) (hI : Inv I J) (x y z : Int32) : vc_X10_left x y z I J (fun r I1 J1 => vc_X11_left x y z I1 J1 (fun q I2 J2 => r = q ∧ Inv I2 J2)) := by
  obtain ⟨S, hw, hc, hm⟩ := hI
  by_cases hx : inR x 0 999
  rotate_left
  · exact bothQ (S := S) (r := -3) hw hc hm (fun Q hQ => s_wi_f 0 999 hx (b0' hQ)) (fun I1 J1 Q hm1 hQ => s_in_f 0 999 hx (b0' hQ))
  by_cases hy : inR y 0 999
  rotate_left
  · exact bothQ (S := S) (r := -3) hw hc hm (fun Q hQ => s_wi_t 0 999 hx (b1' (s_wi_f 0 999 hy (b0' hQ)))) (fun I1 J1 Q hm1 hQ => s_in_t 0 999 hx (b1' (s_in_f 0 999 hy (b0' hQ))))
  by_cases hz : inR z 0 1
  rotate_left
  · exact bothQ (S := S) (r := -3) hw hc hm (fun Q hQ => s_wi_t 0 999 hx (b1' (s_wi_t 0 999 hy (b1' (s_wi_f 0 1 hz (b0 hQ)))))) (fun I1 J1 Q hm1 hQ => s_in_t 0 999 hx (b1' (s_in_t 0 999 hy (b1' (s_in_f 0 1 hz (b0 hQ))))))
  obtain ⟨a, -, ha, rfl⟩ := id hx
  have n5 : S.tk.1 ≤ 5 := hw.2.2.2.2.2.1.1
  obtain ⟨pn, pn1⟩ := p2_5 n5
  generalize hN : 2 ^ S.tk.1 = N at pn pn1
  generalize hP : (fun m => decide (lvV (lvF S.tk m S.tk.1 0 a) = y)) = P
  have hPt : ∀ m, lvV (lvF S.tk m S.tk.1 0 a) = y → P m = true := fun m h => by rw [← hP]; exact decide_eq_true h
  have hPf : ∀ m, ¬ lvV (lvF S.tk m S.tk.1 0 a) = y → P m = false := fun m h => by rw [← hP]; exact decide_eq_false h
  refine bothQ (S := S) (r := if z = 0 then nI (cM P N) else lsM_ P N 0) hw hc hm (fun Q hQ => s_wi_t 0 999 hx (b1' (s_wi_t 0 999 hy (b1' (s_wi_t 0 1 hz (b1 ⟨fun z0 => ?_, fun z0 => ?_⟩)))))) (fun I1 J1 Q hm1 hQ => s_in_t 0 999 hx (b1' (s_in_t 0 999 hy (b1' (s_in_t 0 1 hz (b1 ?_))))))
  · rw [if_neg z0] at hQ
    have e1 := hc.2.2.2.2.2.1.1
    have loop : ∀ d k, k + d = N → Q (lsM_ P d k) I J → vc_X8_leastLeaving_L2 Q (d + 1) (nI a) y (nI k) I J := by
      intro d
      induction d with
      | zero =>
        intro k hk q
        show vc_X8_leastLeaving_L2s Q (vc_X8_leastLeaving_L2 Q 0) _ _ _ I J
        unfold vc_X8_leastLeaving_L2s
        rw [e1, sh5 _ (by omega), hN]
        exact pk_le N k (fun _ => q) (fun z => by omega)
      | succ d ih =>
        intro k hk q
        show vc_X8_leastLeaving_L2s Q (vc_X8_leastLeaving_L2 Q (d + 1)) _ _ _ I J
        unfold vc_X8_leastLeaving_L2s
        rw [e1, sh5 _ (by omega), hN]
        have q : Q (if P k then nI k else lsM_ P d (k + 1)) I J := q
        refine pk_le N k (fun z => by omega) (fun _ => c_restBy hw hc (by omega) ha ⟨fun h => ?_, fun h => ?_⟩)
        · rw [hPf k h] at q
          exact nm_r (nI_1 k) (ih (k + 1) (by omega) q)
        · rw [hPt k h] at q; exact q
    exact ⟨N + 1, loop N 0 (by omega) hQ⟩
  · rw [if_pos z0] at hQ
    have e1 := hc.2.2.2.2.2.1.1
    have loop : ∀ d k, k + d = N → vc_X8_setsLeaving_L5 Q (d + 1) (nI a) y (nI (cM P k)) (nI k) I J := by
      intro d
      induction d with
      | zero =>
        intro k hk
        show vc_X8_setsLeaving_L5s Q (vc_X8_setsLeaving_L5 Q 0) _ _ _ _ I J
        unfold vc_X8_setsLeaving_L5s
        rw [e1, sh5 _ (by omega), hN]
        have e : k = N := by omega
        subst e
        exact pk_le k k (fun _ => hQ) (fun z => by omega)
      | succ d ih =>
        intro k hk
        show vc_X8_setsLeaving_L5s Q (vc_X8_setsLeaving_L5 Q (d + 1)) _ _ _ _ I J
        unfold vc_X8_setsLeaving_L5s
        rw [e1, sh5 _ (by omega), hN]
        have q := ih (k + 1) (by omega)
        have e : cM P (k + 1) = cM P k + (if P k then 1 else 0) := rfl
        rw [e] at q
        refine pk_le N k (fun z => by omega) (fun _ => c_restBy hw hc (by omega) ha ⟨fun h => ?_, fun h => ?_⟩)
        · rw [hPf k h] at q
          exact nm_r (nI_1 k) q
        · rw [hPt k h] at q
          exact nm_r (nI_1 _) (nm_r (nI_1 k) q)
    exact ⟨N + 1, loop N 0 (by omega)⟩
  · have e1 := hm1.2.2.2.2.2.1.1
    have fin : ∀ n c l, c = cM P N → l = lsM_ P N 0 → vc_X11_left_L50 Q (n + 1) (nI a) y z (nI c) l (-1) I1 J1 := by
      intro n c l hc1 hl1
      show vc_X11_left_L50s Q (vc_X11_left_L50 Q n) _ _ _ _ _ _ I1 J1
      unfold vc_X11_left_L50s
      subst hc1 hl1
      refine ⟨fun _ => ⟨fun z0 => ?_, fun z0 => ?_⟩, fun h => absurd (by decide) h⟩
      · rw [if_neg z0] at hQ; exact hQ
      · rw [if_pos z0] at hQ; exact hQ
    have dec : ∀ k, k < 32 → nI (k + 1) + (-1) = nI k := by decide +kernel
    have loop : ∀ k c d, k + 1 + d = N → c + cM P (k + 1) = cM P N → vc_X11_left_L50 Q (k + 2) (nI a) y z (nI c) (lsM_ P d (k + 1)) (nI k) I1 J1 := by
      intro k
      induction k with
      | zero =>
        intro c d hd hcm
        show vc_X11_left_L50s Q (vc_X11_left_L50 Q 1) _ _ _ _ _ _ I1 J1
        unfold vc_X11_left_L50s
        refine ⟨fun z => absurd z (nI_pos (by omega)), fun _ => m_leftBy hw hm1 (by omega) ha ⟨fun h => ?_, fun h => ?_⟩⟩
        · have e : cM P (0 + 1) = 0 + (if P 0 then 1 else 0) := rfl
          rw [e, hPf 0 h] at hcm
          refine nm_r (show nI 0 + (-1) = -1 by decide) (fin 0 c _ (by simpa using hcm) ?_)
          show _ = lsM_ P N 0
          rw [show N = d + 1 by omega]
          show _ = if P 0 then nI 0 else lsM_ P d (0 + 1)
          rw [hPf 0 h]; rfl
        · have e : cM P (0 + 1) = 0 + (if P 0 then 1 else 0) := rfl
          rw [e, hPt 0 h] at hcm
          refine nm_r (nI_1 c) (nm_r (show nI 0 + (-1) = -1 by decide) (fin 0 (c + 1) _ (by simpa using hcm) ?_))
          show _ = lsM_ P N 0
          rw [show N = d + 1 by omega]
          show _ = if P 0 then nI 0 else lsM_ P d (0 + 1)
          rw [hPt 0 h]; rfl
      | succ k ih =>
        intro c d hd hcm
        show vc_X11_left_L50s Q (vc_X11_left_L50 Q (k + 2)) _ _ _ _ _ _ I1 J1
        unfold vc_X11_left_L50s
        have e : cM P (k + 1 + 1) = cM P (k + 1) + (if P (k + 1) then 1 else 0) := rfl
        rw [e] at hcm
        refine ⟨fun z => absurd z (nI_pos (by omega)), fun _ => m_leftBy hw hm1 (by omega) ha ⟨fun h => ?_, fun h => ?_⟩⟩
        · have q := ih c (d + 1) (by omega) (by rw [hPf (k + 1) h] at hcm; simpa using hcm)
          have e2 : lsM_ P (d + 1) (k + 1) = lsM_ P d (k + 1 + 1) := by
            show (if P (k + 1) then nI (k + 1) else lsM_ P d (k + 1 + 1)) = _
            rw [hPf (k + 1) h]; rfl
          rw [e2] at q
          exact nm_r (dec k (by omega)) q
        · have q := ih (c + 1) (d + 1) (by omega) (by rw [hPt (k + 1) h] at hcm; simp only [if_true] at hcm; omega)
          have e2 : lsM_ P (d + 1) (k + 1) = nI (k + 1) := by
            show (if P (k + 1) then nI (k + 1) else lsM_ P d (k + 1 + 1)) = _
            rw [hPt (k + 1) h]; rfl
          rw [e2] at q
          exact nm_r (nI_1 c) (nm_r (dec k (by omega)) q)
    rw [e1, sh5 _ (by omega), hN, show (1 : Int32) = nI 1 from rfl, pk_sub pn1]
    refine nm_e ⟨N - 1 + 2, ?_⟩
    exact loop (N - 1) 0 0 (by omega) (by rw [show N - 1 + 1 = N by omega]; omega)
/-! winds -/
def drX (a i : Nat) : Int64 := ((7919 * (Int32.toInt64 (nI a))) + (6151 * (Int32.toInt64 (nI i)))) + 1
def drW (a i : Nat) : Bool := decide ((lg_cmp (((drX a i * drX a i) - (drX a i * drX a i) / 65521 * 65521) - ((drX a i * drX a i) - (drX a i * drX a i) / 65521 * 65521) / 4 * 4) 0) = 0)
def mW (a : Nat) : Nat → Int64
  | 0 => 0
  | i + 1 => if drW a i then mW a i ||| (1 <<< ((nI i).toInt64 &&& 63)) else mW a i
theorem mW_b (a : Nat) : ∀ n, n ≤ 24 → ∀ k, bj (mW a n) k = (decide (k < n) && drW a k)
  | 0, _, k => by
    show bj 0 k = _
    rw [bj_0]; simp
  | n + 1, h, k => by
    have ih := mW_b a n (by omega) k
    show bj (if drW a n then mW a n ||| (1 <<< ((nI n).toInt64 &&& 63)) else mW a n) k = _
    by_cases e : k = n
    · subst e
      cases hd : drW a k
      · simp [ih]
      · simp [ih, bj_or, bj_pow (show k < 64 by omega)]
    · have e2 : decide (k < n + 1) = decide (k < n) := by
        by_cases hk : k < n
        · rw [decide_eq_true hk, decide_eq_true (by omega)]
        · rw [decide_eq_false hk, decide_eq_false (by omega)]
      rw [e2, ← ih]
      cases hd : drW a n
      · rfl
      · rw [if_pos rfl, bj_or, bj_pow (show n < 64 by omega), decide_eq_false e, Bool.or_false]
def cW (a : Nat) : Nat → Nat
  | 0 => 0
  | i + 1 => cW a i + (if drW a i then 1 else 0)
theorem cW_cnt (a n : Nat) (hn : n ≤ 24) : ∀ k, k ≤ n → cntB (mW a n) k = cW a k
  | 0, _ => rfl
  | k + 1, h => by
    show cntB (mW a n) k + (if bj (mW a n) k then 1 else 0) = cW a k + (if drW a k then 1 else 0)
    rw [cW_cnt a n hn k (by omega), mW_b a n hn k, decide_eq_true (by omega : k < n), Bool.true_and]
theorem c_draw {a n : Nat} {I : MI} {J : MJ} (hn : n ≤ 24) {Q : Int64 → MI → MJ → Prop} (q : Q (mW a n) I J) : vc_X3_warmByDraw (nI a) (nI n) I J Q := by
  have loop : ∀ d i, i + d = n → vc_X3_warmByDraw_L5 Q (d + 1) (nI a) (nI n) (mW a i) (nI i) I J := by
    intro d
    induction d with
    | zero =>
      intro i hi
      have e : i = n := by omega
      subst e
      show vc_X3_warmByDraw_L5s Q (vc_X3_warmByDraw_L5 Q 0) _ _ _ _ I J
      unfold vc_X3_warmByDraw_L5s
      exact pk_le i i (fun _ => q) (fun z => by omega)
    | succ d ih =>
      intro i hi
      have h := ih (i + 1) (by omega)
      have e : mW a (i + 1) = if drW a i then mW a i ||| (1 <<< ((nI i).toInt64 &&& 63)) else mW a i := rfl
      rw [e] at h
      show vc_X3_warmByDraw_L5s Q (vc_X3_warmByDraw_L5 Q (d + 1)) _ _ _ _ I J
      unfold vc_X3_warmByDraw_L5s
      refine pk_le n i (fun z => by omega) (fun _ => nm_e (nm_e ⟨fun z => nm_r (nI_1 i) ?_, fun z => nm_e (nm_r (nI_1 i) ?_)⟩))
      · have e2 : drW a i = false := decide_eq_false z
        rw [e2] at h; exact h
      · have e2 : drW a i = true := decide_eq_true z
        rw [e2] at h; exact h
  exact ⟨n + 1, loop n 0 (by omega)⟩
/-- n open hours from h on, under the warm hours W -/
def opF (wb : Nat → Bool) (h : Nat) : Nat → Nat → Nat → Nat
  | 0, _, w => w
  | n + 1, i, w => opF wb h n (i + 1) (w - lsO (wb (h + i)) (h + i) w 0 0)
theorem opF_le (wb : Nat → Bool) (h : Nat) : ∀ n i w, opF wb h n i w ≤ w
  | 0, _, w => Nat.le_refl w
  | n + 1, i, w => Nat.le_trans (opF_le wb h n (i + 1) _) (Nat.sub_le _ _)
theorem c_open {W : Int64} {h n w : Nat} {I : MI} {J : MJ} (hh : h + n ≤ 64) (hw : w ≤ 99) {Q : Int32 → MI → MJ → Prop} (q : Q (nI (opF (bj W) h n 0 w)) I J) : vc_X3_afterOpen W (nI h) (nI n) (nI w) I J Q := by
  have loop : ∀ d i w, i + d = n → w ≤ 99 → Q (nI (opF (bj W) h d i w)) I J → vc_X3_afterOpen_L7 Q (d + 1) W (nI h) (nI n) (nI w) (nI i) I J := by
    intro d
    induction d with
    | zero =>
      intro i w hi hw q
      show vc_X3_afterOpen_L7s Q (vc_X3_afterOpen_L7 Q 0) _ _ _ _ _ I J
      unfold vc_X3_afterOpen_L7s
      exact pk_le n i (fun _ => q) (fun z => by omega)
    | succ d ih =>
      intro i w hi hw q
      have hl := lsO_le (bj W (h + i)) (h + i) w 0 0
      show vc_X3_afterOpen_L7s Q (vc_X3_afterOpen_L7 Q (d + 1)) _ _ _ _ _ I J
      unfold vc_X3_afterOpen_L7s
      rw [nI_add]
      exact pk_le n i (fun z => by omega) (fun _ => s_heat (k := 0) (s := 0) (by omega) (by omega) (by omega) (by omega) (s_less (by omega) (by omega) (nm_r (nI_1 i) (ih (i + 1) _ (by omega) (by omega) q))))
  exact ⟨n + 1, loop n 0 w (by omega) hw q⟩
theorem opF_ext {f g : Nat → Bool} {h : Nat} : ∀ n i w, (∀ k, h + i ≤ k → k < h + i + n → f k = g k) → opF f h n i w = opF g h n i w
  | 0, _, _, _ => rfl
  | n + 1, i, w, e => by
    show opF f h n (i + 1) (w - lsO (f (h + i)) (h + i) w 0 0) = opF g h n (i + 1) (w - lsO (g (h + i)) (h + i) w 0 0)
    rw [e (h + i) (by omega) (by omega)]
    exact opF_ext n (i + 1) _ (fun k a b => e k (by omega) (by omega))
theorem p_winds (I : MI) (J : MJ) (hI : Inv I J) (x y z u : Int32) : vc_X10_winds x y z u I J (fun r I1 J1 => vc_X11_winds x y z u I1 J1 (fun q I2 J2 => r = q ∧ Inv I2 J2)) := by
  obtain ⟨S, hw, hc, hm⟩ := hI
  by_cases hx : inR x 0 9999
  rotate_left
  · exact bothQ (S := S) (r := -3) hw hc hm (fun Q hQ => s_wi_f 0 9999 hx (b0' hQ)) (fun I1 J1 Q hm1 hQ => s_in_f 0 9999 hx (b0' hQ))
  by_cases hy : inR y 0 24
  rotate_left
  · exact bothQ (S := S) (r := -3) hw hc hm (fun Q hQ => s_wi_t 0 9999 hx (b1' (s_wi_f 0 24 hy (b0' hQ)))) (fun I1 J1 Q hm1 hQ => s_in_t 0 9999 hx (b1' (s_in_f 0 24 hy (b0' hQ))))
  by_cases hz : inR z 0 99
  rotate_left
  · exact bothQ (S := S) (r := -3) hw hc hm (fun Q hQ => s_wi_t 0 9999 hx (b1' (s_wi_t 0 24 hy (b1' (s_wi_f 0 99 hz (b0' hQ)))))) (fun I1 J1 Q hm1 hQ => s_in_t 0 9999 hx (b1' (s_in_t 0 24 hy (b1' (s_in_f 0 99 hz (b0' hQ))))))
  by_cases hu : inR u 0 1
  rotate_left
  · exact bothQ (S := S) (r := -3) hw hc hm (fun Q hQ => s_wi_t 0 9999 hx (b1' (s_wi_t 0 24 hy (b1' (s_wi_t 0 99 hz (b1' (s_wi_f 0 1 hu (b0 hQ)))))))) (fun I1 J1 Q hm1 hQ => s_in_t 0 9999 hx (b1' (s_in_t 0 24 hy (b1' (s_in_t 0 99 hz (b1' (s_in_f 0 1 hu (b0 hQ))))))))
  obtain ⟨a, -, ha, rfl⟩ := id hx
  obtain ⟨n, -, hn, rfl⟩ := id hy
  obtain ⟨w, -, hwz, rfl⟩ := id hz
  have e64 : cntB (mW a n) 64 = cW a n := by
    rw [← cW_cnt a n hn n (Nat.le_refl n)]
    have h := cntB_cut (x := mW a n) (n := n) (fun k hk => by rw [mW_b a n hn k, decide_eq_false (by omega), Bool.false_and]) (64 - n)
    rwa [show n + (64 - n) = 64 by omega] at h
  have eop : opF (bj (mW a n)) 0 n 0 w = opF (drW a) 0 n 0 w := opF_ext n 0 w (fun k h1 h2 => by rw [mW_b a n hn k, decide_eq_true (by omega), Bool.true_and])
  refine bothQ (S := S) (r := if u = 0 then nI (cW a n) else nI (opF (drW a) 0 n 0 w)) hw hc hm (fun Q hQ => s_wi_t 0 9999 hx (b1' (s_wi_t 0 24 hy (b1' (s_wi_t 0 99 hz (b1' (s_wi_t 0 1 hu (b1 (c_draw hn ⟨fun z0 => ?_, fun z0 => ?_⟩))))))))) (fun I1 J1 Q hm1 hQ => s_in_t 0 9999 hx (b1' (s_in_t 0 24 hy (b1' (s_in_t 0 99 hz (b1' (s_in_t 0 1 hu (b1 ?_))))))))
  · rw [if_neg z0] at hQ
    refine c_open (h := 0) (by omega) hwz ?_
    rw [eop]; exact hQ
  · rw [if_pos z0] at hQ
    refine s_bits ?_
    rw [e64]; exact hQ
  · have loop : ∀ d i w, i + d = n → w ≤ 99 → Q (if u = 0 then nI (cW a n) else nI (opF (drW a) 0 d i w)) I1 J1 → vc_X11_winds_L53 Q (d + 1) (nI a) (nI n) u (nI (cW a i)) (nI w) (nI i) I1 J1 := by
      intro d
      induction d with
      | zero =>
        intro i w hi hw q
        have e : i = n := by omega
        subst e
        show vc_X11_winds_L53s Q (vc_X11_winds_L53 Q 0) _ _ _ _ _ _ I1 J1
        unfold vc_X11_winds_L53s
        refine pk_le i i (fun _ => ⟨fun z0 => ?_, fun z0 => ?_⟩) (fun z => by omega)
        · rw [if_neg z0] at q; exact q
        · rw [if_pos z0] at q; exact q
      | succ d ih =>
        intro i w hi hw q
        show vc_X11_winds_L53s Q (vc_X11_winds_L53 Q (d + 1)) _ _ _ _ _ _ I1 J1
        unfold vc_X11_winds_L53s
        have b100 : ∀ b : Bool, drW a i = b → vc_X11_winds_B100 Q (vc_X11_winds_L53 Q (d + 1)) (nI a) (nI n) u (nI (cW a i)) (nI w) (nI i) (if b then 1 else 0) I1 J1 := by
          intro b hb
          have b114 : vc_X11_winds_B114 Q (vc_X11_winds_L53 Q (d + 1)) (nI a) (nI n) u (nI w) (nI i) (if b then 1 else 0) (nI (cW a i)) (nI (if b then 1 else 0)) I1 J1 := by
            refine nm_r (nI_add _ _) (m_loses (sh := false) (k := 0) (s := 0) (by omega) (by omega) (by omega) (by omega) ?_)
            refine nm_r (pk_sub (by unfold lsM; exact Nat.min_le_left _ _)) (nm_r (nI_1 i) ?_)
            have h := ih (i + 1) (w - lsM b false i w 0 0) (by omega) (by omega) ?_
            · have e : cW a (i + 1) = cW a i + (if drW a i then 1 else 0) := rfl
              rw [e, hb] at h
              exact h
            · have e : opF (drW a) 0 (d + 1) i w = opF (drW a) 0 d (i + 1) (w - lsM b false i w 0 0) := by
                show opF (drW a) 0 d (i + 1) (w - lsO (drW a (0 + i)) (0 + i) w 0 0) = _
                congr 1
                rw [Nat.zero_add, hb]
                unfold lsM
                rw [if_neg (by decide)]
                omega
              rw [e] at q; exact q
          cases b
          · exact b0' b114
          · exact b1' b114
        refine pk_le n i (fun z => by omega) (fun _ => nm_e ⟨fun z => ?_, fun z => ?_⟩)
        · exact b100 false (decide_eq_false z)
        · exact b100 true (decide_eq_true z)
    exact ⟨n + 1, loop n 0 w (by omega) hwz hQ⟩
