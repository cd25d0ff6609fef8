/-! ===== the reference's seal ===== -/
theorem m_gcd {Q : Int64 → MI → MJ → Prop} {I : MI} {J : MJ} {A U s : Nat} {part : Int32} (hs : s < 100) (hA : A < 2 ^ 62) (hU : U < 2 ^ 62) (hU0 : 0 < U) (e : J 108 s = nJ A) (q : Q (if part = 0 then nJ (A / Nat.gcd A U) else nJ (U / Nat.gcd A U)) I J) : ∀ n a b, b < n → a < 2 ^ 62 → b < 2 ^ 62 → Nat.gcd a b = Nat.gcd A U → vc_X11_seal_L235 Q n (nI s) part (nJ U) (nJ a) (nJ b) I J
  | 0, a, b, h, _, _, _ => absurd h (Nat.not_lt_zero _)
  | n + 1, a, b, h, ha, hb, hg => by
    show vc_X11_seal_L235s Q (vc_X11_seal_L235 Q n) _ _ _ _ _ I J
    unfold vc_X11_seal_L235s
    have hG : 0 < Nat.gcd A U := Nat.gcd_pos_of_pos_right A hU0
    rw [show (0 : Int64) = nJ 0 from rfl, nJ_cmple (by omega) (by omega)]
    refine ⟨fun z => ?_, fun z => ⟨?_, ?_⟩⟩
    · have hb0 : b = 0 := by omega
      subst hb0
      rw [Nat.gcd_zero_right] at hg
      rw [← hg] at q
      refine ⟨fun z1 => ⟨?_, ?_⟩, fun z1 => ⟨vp_in_nI (by omega) (by omega), ?_, ?_⟩⟩
      · rw [nJ_eq (by omega) (by omega)]; omega
      · rw [if_neg z1] at q
        rw [nJ_div (by omega) (by omega) (by omega)]; exact q
      · rw [nJ_eq (by omega) (by omega)]; omega
      · rw [if_pos z1] at q
        rw [nI_clamp (by omega), e, nJ_div (by omega) (by omega) (by omega)]; exact q
    · rw [nJ_eq (by omega) (by omega)]; omega
    · have hm := Nat.mod_lt a (show 0 < b by omega)
      refine nm_r (nJ_rem (by omega) (by omega)) (m_gcd hs hA hU hU0 e q n b (a % b) (by omega) hb (by omega) ?_)
      rw [Nat.gcd_comm b (a % b), ← Nat.gcd_rec b a, Nat.gcd_comm b a]; exact hg
theorem swW_a {s u m : Nat} (h : m ≤ 5 * s * u) : 5 * s * u = swW s u m := by unfold swW; split <;> omega
theorem swW_b {s u m : Nat} (h : 5 * s * u < m) : m = swW s u m := by unfold swW; split <;> omega
theorem swC_a {s u m : Nat} (h : m ≤ 3 * s * u) : 3 * s * u = swC s u m := by unfold swC; split <;> omega
theorem swC_b {s u m : Nat} (h : 3 * s * u < m) : m = swC s u m := by unfold swC; split <;> omega
theorem wJ_same (J : MJ) (i k : Nat) (v : Int64) : wJ J i k v i k = v := by rw [wJ_ap, if_pos rfl, if_pos rfl]
theorem wJ_col {J : MJ} {i k : Nat} {v : Int64} {m : Nat} (h : m ≠ k) : wJ J i k v i m = J i m := by rw [wJ_ap, if_pos rfl, if_neg h]
theorem m_sealD {s d p t : Nat} {part : Int32} (hs : s ≤ 99) (hd : d ≤ 6) (hp : p ≤ 10) (ht : t < d) {I : MI} {J : MJ} {Q : Int64 → MI → MJ → Prop} {k74 : Int32 → Int32 → Int32 → Int32 → Int64 → Int32 → MI → MJ → Prop}
    (hk : ∀ J' : MJ, (∀ j, j ≠ 108 → J' j = J j) → (∀ x, x < 100 → J' 108 x = nJ (swN p (t + 1) x)) → k74 (nI s) (nI d) (nI p) part (nJ (10 ^ (t + 1))) (nI (t + 1)) I J') :
    ∀ n, n ≤ 100 → ∀ v8, v8 = nI n + (-1) → ∀ J' : MJ, (∀ j, j ≠ 108 → J' j = J j) → (∀ x, x < n → J' 108 x = nJ (swN p t x)) → (∀ x, n ≤ x → x < 100 → J' 108 x = nJ (swN p (t + 1) x)) → vc_X11_seal_L84 Q k74 (n + 1) (nI s) (nI d) (nI p) part (nJ (10 ^ t)) (nI t) v8 I J' := by
  have h10 := t10 (d := t) (by omega)
  intro n
  induction n with
  | zero =>
    intro _ v8 e8 J' k1 k2 k3
    subst e8
    show vc_X11_seal_L84s Q k74 (vc_X11_seal_L84 Q k74 0) _ _ _ _ _ _ _ I J'
    unfold vc_X11_seal_L84s
    refine br_t (by decide) (nm_r (e' := nJ (10 ^ (t + 1))) ?_ (nm_r (nI_1 t) (hk J' k1 (fun x hx => k3 x (Nat.zero_le x) hx))))
    rw [show (10 : Int64) = nJ 10 from rfl, nJ_mul, Nat.pow_succ]
  | succ n ih =>
    intro hn v8 e8 J' k1 k2 k3
    rw [pk_m1] at e8
    subst e8
    show vc_X11_seal_L84s Q k74 (vc_X11_seal_L84 Q k74 (n + 1)) _ _ _ _ _ _ _ I J'
    unfold vc_X11_seal_L84s
    have ho := opn_le n
    have hb := su_b (show n ≤ 99 by omega) h10.2
    have h1 := swN_b (s := opn n) hp (show t ≤ 6 by omega) (by omega)
    have h2 := swN_b (s := n) hp (show t ≤ 6 by omega) (by omega)
    have eo : nI n - nI (rt n) = nI (opn n) := pk_sub (rt_leN n)
    have e5 : (5 * Int32.toInt64 (nI n)) * nJ (10 ^ t) = nJ (5 * n * 10 ^ t) := by rw [nJ_I (by omega), show (5 : Int64) = nJ 5 from rfl, nJ_mul, nJ_mul]
    have e3 : (3 * Int32.toInt64 (nI n)) * nJ (10 ^ t) = nJ (3 * n * 10 ^ t) := by rw [nJ_I (by omega), show (3 : Int64) = nJ 3 from rfl, nJ_mul, nJ_mul]
    have b180 : ∀ a b, a = swW n (10 ^ t) (swN p t (opn n)) → b = swC n (10 ^ t) (swN p t n) → vc_X11_seal_B180 Q k74 (vc_X11_seal_L84 Q k74 (n + 1)) (nI s) (nI d) (nI p) part (nJ (10 ^ t)) (nI t) (nI n) (nJ a) (nJ b) I J' := by
      intro a b ea eb
      unfold vc_X11_seal_B180
      have ev : (Int32.toInt64 (nI p) * nJ a) + (Int32.toInt64 (10 - nI p) * nJ b) = nJ (swN p (t + 1) n) := by
        rw [show (10 : Int32) = nI 10 from rfl, pk_sub hp, nJ_I (by omega), nJ_I (by omega), nJ_mul, nJ_mul, nJ_add, ea, eb]
        rfl
      rw [ev, nI_clamp (by omega)]
      refine ⟨vp_in_nI (by omega) (by omega), nm_e (nm_e (ih (by omega) _ rfl _ (fun j hj => ?_) (fun x hx => ?_) (fun x hx1 hx2 => ?_)))⟩
      · rw [wJ_row hj]; exact k1 j hj
      · rw [wJ_col (by omega)]; exact k2 x (by omega)
      · by_cases hxn : x = n
        · subst hxn; rw [wJ_same]
        · rw [wJ_col hxn]; exact k3 x (by omega) hx2
    have b148 : ∀ a, a = swW n (10 ^ t) (swN p t (opn n)) → vc_X11_seal_B148 Q k74 (vc_X11_seal_L84 Q k74 (n + 1)) (nI s) (nI d) (nI p) part (nJ (10 ^ t)) (nI t) (nI n) (nJ (3 * n * 10 ^ t)) (nJ a) I J' := by
      intro a ea
      unfold vc_X11_seal_B148
      rw [nI_clamp (by omega), k2 n (by omega), nJ_cmple (by omega) (by omega)]
      refine pk_le t 0 (fun z => b180 a _ ea (swC_a ?_)) (fun z => ⟨vp_in_nI (by omega) (by omega), fun z1 => b180 a _ ea (swC_a z1), fun z1 => ⟨vp_in_nI (by omega) (by omega), b180 a _ ea (swC_b (by omega))⟩⟩)
      have t0 : t = 0 := by omega
      subst t0
      exact Nat.zero_le _
    refine br_f (nI_pos (by omega)) (m_root (by omega) ⟨?_, ?_⟩)
    · rw [eo]; exact vp_in_nI (by omega) (by omega)
    · rw [eo, nI_clamp (by omega), k2 (opn n) (by omega)]
      refine nm_e (nm_r e5 (nm_r e3 ?_))
      rw [nJ_cmple (by omega) (by omega)]
      refine pk_le t 0 (fun z => b148 _ (swW_a ?_)) (fun z => ⟨fun z1 => b148 _ (swW_a z1), fun z1 => b148 _ (swW_b (by omega))⟩)
      have t0 : t = 0 := by omega
      subst t0
      exact Nat.zero_le _
theorem m_sealW {s d p : Nat} {part : Int32} (hs : s ≤ 99) (hd : d ≤ 6) (hp : p ≤ 10) {I : MI} {J : MJ} {Q : Int64 → MI → MJ → Prop} (q : ∀ J' : MJ, (∀ j, j ≠ 108 → J' j = J j) → Q (if part = 0 then nJ (swN p d s / Nat.gcd (swN p d s) (10 ^ d)) else nJ (10 ^ d / Nat.gcd (swN p d s) (10 ^ d))) I J') : ∃ n, vc_X11_seal_L47 Q n (nI s) (nI d) (nI p) part 0 I J := by
  have days : ∀ k t, t + k = d → ∀ J' : MJ, (∀ j, j ≠ 108 → J' j = J j) → (∀ x, x < 100 → J' 108 x = nJ (swN p t x)) → vc_X11_seal_L74 Q (k + 1) (nI s) (nI d) (nI p) part (nJ (10 ^ t)) (nI t) I J' := by
    intro k
    induction k with
    | zero =>
      intro t ht J' k1 k2
      have e : t = d := by omega
      subst e
      show vc_X11_seal_L74s Q (vc_X11_seal_L74 Q 0) _ _ _ _ _ _ I J'
      unfold vc_X11_seal_L74s
      have h10 := t10 hd
      have hb := swN_b (s := s) hp hd hs
      refine pk_le t t (fun _ => ⟨vp_in_nI (by omega) (by omega), nm_r (e' := nJ (swN p t s)) (by rw [nI_clamp (by omega)]; exact k2 s (by omega)) ⟨10 ^ t + 1, ?_⟩⟩) (fun z => by omega)
      exact m_gcd (by omega) (by omega) (by omega) (by omega) (k2 s (by omega)) (q J' k1) (10 ^ t + 1) _ _ (by omega) (by omega) (by omega) rfl
    | succ k ih =>
      intro t ht J' k1 k2
      show vc_X11_seal_L74s Q (vc_X11_seal_L74 Q (k + 1)) _ _ _ _ _ _ I J'
      unfold vc_X11_seal_L74s
      refine pk_le d t (fun z => by omega) (fun _ => ⟨101, ?_⟩)
      exact m_sealD hs hd hp (by omega) (fun J2 f1 f2 => ih (t + 1) (by omega) J2 f1 f2) 100 (Nat.le_refl _) 99 (by decide) J' k1 k2 (fun x a b => by omega)
  have zero : ∀ k i, i + k = 100 → ∀ J' : MJ, (∀ j, j ≠ 108 → J' j = J j) → (∀ x, x < i → J' 108 x = nJ 0) → vc_X11_seal_L47 Q (k + 1) (nI s) (nI d) (nI p) part (nI i) I J' := by
    intro k
    induction k with
    | zero =>
      intro i hi J' k1 k2
      show vc_X11_seal_L47s Q (vc_X11_seal_L47 Q 0) _ _ _ _ _ I J'
      unfold vc_X11_seal_L47s
      exact pk_le 100 i (fun _ => ⟨d + 1, days d 0 (by omega) J' k1 (fun x hx => k2 x (by omega))⟩) (fun z => by omega)
    | succ k ih =>
      intro i hi J' k1 k2
      show vc_X11_seal_L47s Q (vc_X11_seal_L47 Q (k + 1)) _ _ _ _ _ I J'
      unfold vc_X11_seal_L47s
      refine pk_le 100 i (fun z => by omega) (fun _ => ⟨vp_in_nI (by omega) (by omega), nm_e (nm_r (nI_1 i) (ih (i + 1) (by omega) _ (fun j hj => ?_) (fun x hx => ?_)))⟩)
      · rw [wJ_row hj]; exact k1 j hj
      · rw [nI_clamp (by omega)]
        by_cases hxi : x = i
        · subst hxi; rw [wJ_same]; rfl
        · rw [wJ_col hxi]; exact k2 x (by omega)
  exact ⟨101, zero 100 0 rfl J (fun _ _ => rfl) (fun x hx => absurd hx (Nat.not_lt_zero x))⟩
theorem p_seal (I : MI) (J : MJ) (hI : Inv I J) (x y z u : Int32) : vc_X10_seal x y z u I J (fun r I1 J1 => vc_X11_seal x y z u I1 J1 (fun q I2 J2 => r = q ∧ Inv I2 J2)) := by
  obtain ⟨S, hw, hc, hm⟩ := hI
  by_cases hx : inR x 0 99
  rotate_left
  · exact bothQ (S := S) (r := -3) hw hc hm (fun Q hQ => s_wi_f 0 99 hx (b0' hQ)) (fun I1 J1 Q hm1 hQ => s_in_f 0 99 hx (b0' hQ))
  by_cases hy : inR y 1 6
  rotate_left
  · exact bothQ (S := S) (r := -3) hw hc hm (fun Q hQ => s_wi_t 0 99 hx (b1' (s_wi_f 1 6 hy (b0' hQ)))) (fun I1 J1 Q hm1 hQ => s_in_t 0 99 hx (b1' (s_in_f 1 6 hy (b0' hQ))))
  by_cases hz : inR z 0 10
  rotate_left
  · exact bothQ (S := S) (r := -3) hw hc hm (fun Q hQ => s_wi_t 0 99 hx (b1' (s_wi_t 1 6 hy (b1' (s_wi_f 0 10 hz (b0' hQ)))))) (fun I1 J1 Q hm1 hQ => s_in_t 0 99 hx (b1' (s_in_t 1 6 hy (b1' (s_in_f 0 10 hz (b0' hQ))))))
  by_cases hu : inR u 0 1
  rotate_left
  · exact bothQ (S := S) (r := -3) hw hc hm (fun Q hQ => s_wi_t 0 99 hx (b1' (s_wi_t 1 6 hy (b1' (s_wi_t 0 10 hz (b1' (s_wi_f 0 1 hu (b0 hQ)))))))) (fun I1 J1 Q hm1 hQ => s_in_t 0 99 hx (b1' (s_in_t 1 6 hy (b1' (s_in_t 0 10 hz (b1' (s_in_f 0 1 hu (b0 hQ))))))))
  obtain ⟨s, -, hs, rfl⟩ := id hx
  obtain ⟨d, -, hd, rfl⟩ := id hy
  obtain ⟨p, -, hp, rfl⟩ := id hz
  refine bothI (S := S) (S' := S) (r := if u = 0 then nJ (swN p d s / Nat.gcd (swN p d s) (10 ^ d)) else nJ (10 ^ d / Nat.gcd (swN p d s) (10 ^ d))) hw hm (fun Q hQ => s_wi_t 0 99 hx (b1' (s_wi_t 1 6 hy (b1' (s_wi_t 0 10 hz (b1' (s_wi_t 0 1 hu (b1 ?_)))))))) (fun I1 J1 Q hm1 hQ => s_in_t 0 99 hx (b1' (s_in_t 1 6 hy (b1' (s_in_t 0 10 hz (b1' (s_in_t 0 1 hu (b1 ?_))))))))
  · exact c_sealed hp 7 d s hd (by omega) hs (c_lowest hd (swN_b hp hd hs) (hQ _ _ hc Hi.rf))
  · exact m_sealW hs hd hp (fun J' f => hQ _ _ (hm1.cg (fun _ _ _ _ => rfl) (fun _ _ => rfl) (by rw [f 87 (by decide)])) ⟨fun _ _ => rfl, fun j hj => f j (by omega)⟩)
