/-! ===== a clause: what is read of it ===== -/
abbrev Ln : Type := Nat × Nat × Nat × Nat
abbrev Cn : Type := Nat × Nat × Nat
def rdRoad (T : Rw) (s t w : Nat) (N : Cn) : Nat ⊕ (Nat × Ln × Cn) :=
  if N.2.1 < 9 then (numR T t 0 N.1).elim (.inl (skp T t)) (fun a => (numR T (nx T t) 0 N.1).elim (.inl (skp T (nx T t))) (fun b => if b = a then .inl (skp T (nx T t)) else (numR T (nx T (nx T t)) 1 7).elim (.inl (skp T (nx T (nx T t)))) (fun c => .inr (nx T (nx T (nx T t)), (w, a, b, c), (N.1, N.2.1 + 1, N.2.2))))) else .inl s
def rdCart (T : Rw) (s t w : Nat) (N : Cn) : Nat ⊕ (Nat × Ln × Cn) :=
  if N.2.2 < 4 then (numR T t 0 N.1).elim (.inl (skp T t)) (fun a => (numR T (nx T t) 0 4).elim (.inl (skp T (nx T t))) (fun b => .inr (nx T (nx T t), (w, a, b, 0), (N.1, N.2.1, N.2.2 + 1)))) else .inl s
def rdWarm (T : Rw) (t w : Nat) (N : Cn) : Nat ⊕ (Nat × Ln × Cn) := (numR T t 0 48).elim (.inl (skp T t)) (fun a => .inr (nx T t, (w, a, 0, 0), N))
def rdW (T : Rw) (s t w : Nat) (N : Cn) : Nat ⊕ (Nat × Ln × Cn) :=
  if w = 13 then .inl s else if w < 4 then (if N.1 < 7 then .inr (t, (w, 0, 0, 0), (N.1 + 1, N.2.1, N.2.2)) else .inl s) else if w < 7 then rdRoad T s t w N else if w < 10 then rdCart T s t w N else if w = 10 then .inr (t, (w, 0, 0, 0), (0, 0, 0)) else if w = 11 then rdWarm T t w N else .inr (t, (w, 0, 0, 0), N)
def wAt (T : Rw) (e : Nat) : Nat := wrd T.2 (skp T e) (nx T e - skp T e)
def rdLine (T : Rw) (e : Nat) (N : Cn) : Nat ⊕ (Nat × Ln × Cn) := rdW T (skp T e) (nx T e) (wAt T e) N
theorem rdW_13 {T : Rw} {s t w : Nat} {N : Cn} (h : w = 13) : rdW T s t w N = .inl s := if_pos h
theorem rdW_p {T : Rw} {s t w : Nat} {N : Cn} (h : w < 4) : rdW T s t w N = if N.1 < 7 then .inr (t, (w, 0, 0, 0), (N.1 + 1, N.2.1, N.2.2)) else .inl s := by unfold rdW; rw [if_neg (by omega), if_pos h]
theorem rdW_r {T : Rw} {s t w : Nat} {N : Cn} (h0 : 4 ≤ w) (h : w < 7) : rdW T s t w N = rdRoad T s t w N := by unfold rdW; rw [if_neg (by omega), if_neg (by omega), if_pos h]
theorem rdW_c {T : Rw} {s t w : Nat} {N : Cn} (h0 : 7 ≤ w) (h : w < 10) : rdW T s t w N = rdCart T s t w N := by unfold rdW; rw [if_neg (by omega), if_neg (by omega), if_neg (by omega), if_pos h]
theorem rdW_l {T : Rw} {s t w : Nat} {N : Cn} (h : w = 10) : rdW T s t w N = .inr (t, (w, 0, 0, 0), (0, 0, 0)) := by unfold rdW; rw [if_neg (by omega), if_neg (by omega), if_neg (by omega), if_neg (by omega), if_pos h]
theorem rdW_w {T : Rw} {s t w : Nat} {N : Cn} (h : w = 11) : rdW T s t w N = rdWarm T t w N := by unfold rdW; rw [if_neg (by omega), if_neg (by omega), if_neg (by omega), if_neg (by omega), if_neg (by omega), if_pos h]
theorem rdW_m {T : Rw} {s t w : Nat} {N : Cn} (h : w = 12) : rdW T s t w N = .inr (t, (w, 0, 0, 0), N) := by unfold rdW; rw [if_neg (by omega), if_neg (by omega), if_neg (by omega), if_neg (by omega), if_neg (by omega), if_neg (by omega)]
/-- how many numbers a clause has -/
def nn (w : Nat) : Nat := if w < 4 then 0 else if w < 7 then 3 else if w < 10 then 2 else if w = 11 then 1 else 0
def lnm (L : Ln) (j : Nat) : Nat := if j = 0 then L.2.1 else if j = 1 then L.2.2.1 else L.2.2.2
def lnC (L : Ln) (i : Nat) (I : MI) : Prop := I 3 i = nI (cwo L.1) ∧ ∀ j, j < nn L.1 → I 4 (3 * i + j) = nI (lnm L j)
def lnM (L : Ln) (i : Nat) (I : MI) : Prop := I 92 (4 * i) = nI L.1 ∧ ∀ j, j < nn L.1 → I 92 (4 * i + 1 + j) = nI (lnm L j)
/-- what a clause that is read keeps to -/
def okL (N : Cn) (L : Ln) (N' : Cn) : Prop := (L.1 < 4 ∧ N.1 < 7 ∧ N' = (N.1 + 1, N.2.1, N.2.2)) ∨ (4 ≤ L.1 ∧ L.1 < 7 ∧ N.2.1 < 9 ∧ L.2.1 < N.1 ∧ L.2.2.1 < N.1 ∧ L.2.1 ≠ L.2.2.1 ∧ 1 ≤ L.2.2.2 ∧ L.2.2.2 ≤ 6 ∧ N' = (N.1, N.2.1 + 1, N.2.2)) ∨ (7 ≤ L.1 ∧ L.1 < 10 ∧ N.2.2 < 4 ∧ L.2.1 < N.1 ∧ L.2.2.1 ≤ 3 ∧ N' = (N.1, N.2.1, N.2.2 + 1)) ∨ (L.1 = 10 ∧ N' = (0, 0, 0)) ∨ (L.1 = 11 ∧ L.2.1 < 48 ∧ N' = N) ∨ (L.1 = 12 ∧ N' = N)
def bdN (N : Cn) : Prop := N.1 ≤ 7 ∧ N.2.1 ≤ 9 ∧ N.2.2 ≤ 4
theorem okL_bd {N N' : Cn} {L : Ln} (h : okL N L N') (b : bdN N) : bdN N' := by
  obtain ⟨b1, b2, b3⟩ := b
  rcases h with ⟨-, h, rfl⟩ | ⟨-, -, h, -, -, -, -, -, rfl⟩ | ⟨-, -, h, -, -, rfl⟩ | ⟨-, rfl⟩ | ⟨-, -, rfl⟩ | ⟨-, rfl⟩
  · exact ⟨by show N.1 + 1 ≤ 7; omega, b2, b3⟩
  · exact ⟨b1, by show N.2.1 + 1 ≤ 9; omega, b3⟩
  · exact ⟨b1, b2, by show N.2.2 + 1 ≤ 4; omega⟩
  · exact ⟨by decide, by decide, by decide⟩
  · exact ⟨b1, b2, b3⟩
  · exact ⟨b1, b2, b3⟩
theorem rdRoad_ok {T : Rw} {s t w e' : Nat} {N N' : Cn} {L : Ln} (ht : t ≤ T.1) (h0 : 4 ≤ w) (h1 : w < 7) (h : rdRoad T s t w N = .inr (e', L, N')) : okL N L N' ∧ e' ≤ T.1 := by
  unfold rdRoad at h
  by_cases hn : N.2.1 < 9
  · rw [if_pos hn] at h
    cases ha : numR T t 0 N.1 with
    | none => rw [ha] at h; cases h
    | some a =>
      rw [ha] at h
      cases hb : numR T (nx T t) 0 N.1 with
      | none =>
        rw [hb] at h
        have h : (Sum.inl (skp T (nx T t)) : Nat ⊕ (Nat × Ln × Cn)) = .inr (e', L, N') := h
        cases h
      | some b =>
        rw [hb] at h
        have h : (if b = a then (Sum.inl (skp T (nx T t)) : Nat ⊕ (Nat × Ln × Cn)) else (numR T (nx T (nx T t)) 1 7).elim (Sum.inl (skp T (nx T (nx T t)))) (fun c => Sum.inr (nx T (nx T (nx T t)), (w, a, b, c), (N.1, N.2.1 + 1, N.2.2)))) = .inr (e', L, N') := h
        by_cases hab : b = a
        · rw [if_pos hab] at h; cases h
        · rw [if_neg hab] at h
          cases hc : numR T (nx T (nx T t)) 1 7 with
          | none => rw [hc] at h; cases h
          | some c =>
            rw [hc] at h
            have h : (Sum.inr (nx T (nx T (nx T t)), (w, a, b, c), (N.1, N.2.1 + 1, N.2.2)) : Nat ⊕ (Nat × Ln × Cn)) = .inr (e', L, N') := h
            cases h
            have a1 := numR_s ha
            have b1 := numR_s hb
            have c1 := numR_s hc
            exact ⟨.inr (.inl ⟨h0, h1, hn, a1.2, b1.2, fun z => hab z.symm, c1.1, Nat.le_of_lt_succ c1.2, rfl⟩), (nx_le T (nx_le T (nx_le T ht).2).2).2⟩
  · rw [if_neg hn] at h; cases h
theorem rdCart_ok {T : Rw} {s t w e' : Nat} {N N' : Cn} {L : Ln} (ht : t ≤ T.1) (h0 : 7 ≤ w) (h1 : w < 10) (h : rdCart T s t w N = .inr (e', L, N')) : okL N L N' ∧ e' ≤ T.1 := by
  unfold rdCart at h
  by_cases hn : N.2.2 < 4
  · rw [if_pos hn] at h
    cases ha : numR T t 0 N.1 with
    | none => rw [ha] at h; cases h
    | some a =>
      rw [ha] at h
      cases hb : numR T (nx T t) 0 4 with
      | none =>
        rw [hb] at h
        have h : (Sum.inl (skp T (nx T t)) : Nat ⊕ (Nat × Ln × Cn)) = .inr (e', L, N') := h
        cases h
      | some b =>
        rw [hb] at h
        have h : (Sum.inr (nx T (nx T t), (w, a, b, 0), (N.1, N.2.1, N.2.2 + 1)) : Nat ⊕ (Nat × Ln × Cn)) = .inr (e', L, N') := h
        cases h
        have a1 := numR_s ha
        have b1 := numR_s hb
        exact ⟨.inr (.inr (.inl ⟨h0, h1, hn, a1.2, Nat.le_of_lt_succ b1.2, rfl⟩)), (nx_le T (nx_le T ht).2).2⟩
  · rw [if_neg hn] at h; cases h
theorem rdLine_ok {T : Rw} {e e' : Nat} {N N' : Cn} {L : Ln} (he : e ≤ T.1) (h : rdLine T e N = .inr (e', L, N')) : okL N L N' ∧ e' ≤ T.1 := by
  have ht := (nx_le T he).2
  unfold rdLine at h
  have w13 : wAt T e ≤ 13 := wrd_le _ _ _
  generalize wAt T e = w at h w13
  by_cases c1 : w < 4
  · rw [rdW_p c1] at h
    by_cases hn : N.1 < 7
    · rw [if_pos hn] at h
      cases h
      exact ⟨.inl ⟨c1, hn, rfl⟩, ht⟩
    · rw [if_neg hn] at h; cases h
  · by_cases c2 : w < 7
    · rw [rdW_r (by omega) c2] at h
      exact rdRoad_ok ht (by omega) c2 h
    · by_cases c3 : w < 10
      · rw [rdW_c (by omega) c3] at h
        exact rdCart_ok ht (by omega) c3 h
      · by_cases c4 : w = 10
        · rw [rdW_l c4] at h
          cases h
          exact ⟨.inr (.inr (.inr (.inl ⟨c4, rfl⟩))), ht⟩
        · by_cases c5 : w = 11
          · rw [rdW_w c5] at h
            unfold rdWarm at h
            cases ha : numR T (nx T e) 0 48 with
            | none => rw [ha] at h; cases h
            | some a =>
              rw [ha] at h
              have h : (Sum.inr (nx T (nx T e), (w, a, 0, 0), N) : Nat ⊕ (Nat × Ln × Cn)) = .inr (e', L, N') := h
              cases h
              exact ⟨.inr (.inr (.inr (.inr (.inl ⟨c5, (numR_s ha).2, rfl⟩)))), (nx_le T ht).2⟩
          · by_cases c6 : w = 12
            · rw [rdW_m c6] at h
              cases h
              exact ⟨.inr (.inr (.inr (.inr (.inr ⟨c6, rfl⟩)))), ht⟩
            · rw [rdW_13 (by omega)] at h
              cases h
/-! ===== the class's reader ===== -/
def FR (I0 I : MI) : Prop := (∀ j, j ≠ 1 → j ≠ 3 → j ≠ 4 → I j = I0 j) ∧ ∀ m, (m < 4 ∨ 9 < m) → I 1 m = I0 1 m
/-- the end of what is read is e; k clauses; so many places, roads, carts -/
def CR0 (I0 I : MI) (e k : Nat) (N : Cn) : Prop := FR I0 I ∧ I 1 4 = nI k ∧ I 1 6 = nI e ∧ I 1 7 = nI N.1 ∧ I 1 8 = nI N.2.1 ∧ I 1 9 = nI N.2.2
/-- the token ahead of e is in hand -/
def CR (T : Rw) (I0 I : MI) (e k : Nat) (N : Cn) : Prop := CR0 I0 I (nx T e) k N ∧ I 1 5 = nI (skp T e)
section Cln
variable {T : Rw} {I0 I : MI} {J : MJ} {e k : Nat} {N : Cn}
theorem c_nextR (hT : rRw T (I0 1 1) (I0 2)) (wT : wfR T 160 0 255) (he : e ≤ T.1) (h : CR0 I0 I e k N) {Q : MI → MJ → Prop} (q : ∀ I' : MI, CR T I0 I' e k N → I' 3 = I 3 → I' 4 = I 4 → Q I' J) : vc_X6_nextToken I J Q := by
  obtain ⟨⟨f1, f2⟩, h4, h6, h7, h8, h9⟩ := h
  refine c_nxt (T := T) (e := e) (by rw [f2 1 (by decide), f1 2 (by decide) (by decide) (by decide)]; exact hT) wT he h6 (fun I' k e5 e6 => q I' ⟨⟨⟨fun j a b c => (k.1 j a).trans (f1 j a b c), fun m hm => (k.2 m (by omega) (by omega)).trans (f2 m hm)⟩, ?_, e6, ?_, ?_, ?_⟩, e5⟩ (k.1 3 (by decide)) (k.1 4 (by decide)))
  · rw [k.2 4 (by decide) (by decide)]; exact h4
  · rw [k.2 7 (by decide) (by decide)]; exact h7
  · rw [k.2 8 (by decide) (by decide)]; exact h8
  · rw [k.2 9 (by decide) (by decide)]; exact h9
theorem c_num (hT : rRw T (I0 1 1) (I0 2)) (wT : wfR T 160 0 255) (he : e ≤ T.1) (h : CR T I0 I e k N) (hk : k < 14) {sl lo hx bx : Nat} {p1 p2 p3 bn : Int32} (hs3 : sl < 3) (hlo : lo ≤ 100) (hhx : hx ≤ 100) (e1 : p1 = nI sl) (e2 : p2 = nI lo) (e3 : p3 = nI hx - 1) (hb : ∀ v, v ≤ 99 → (nI v = bn ↔ v = bx)) {Q : Int32 → MI → MJ → Prop}
    (q0 : (numR T e lo hx = none ∨ numR T e lo hx = some bx) → Q 0 I J)
    (q1 : ∀ v, numR T e lo hx = some v → v ≠ bx → ∀ I' : MI, CR T I0 I' (nx T e) k N → I' 3 = I 3 → I' 4 (3 * k + sl) = nI v → (∀ m, m ≠ 3 * k + sl → I' 4 m = I 4 m) → Q 1 I' J) : vc_X6_readNumber p1 p2 p3 bn I J Q := by
  subst e1
  have n160 := wT.1
  obtain ⟨h0, h5⟩ := id h
  obtain ⟨⟨f1, f2⟩, h4, h6, h7, h8, h9⟩ := h0
  obtain ⟨s1, s2⟩ := skp_le T he
  obtain ⟨t1, t2, t3⟩ := tke_le T s2
  have t2' : nx T e ≤ T.1 := t2
  have t1' : skp T e ≤ nx T e := t1
  have t3' : skp T e < T.1 → skp T e < nx T e := t3
  have let_ : ∀ {x : Int32} {i : Nat}, x = nI i → i < T.1 → I 2 (Int32.toNatClampNeg x) = nI (T.2 i) := fun {x i} hx hi => by
    rw [hx, nI_clamp (by omega), f1 2 (by decide) (by decide) (by decide)]; exact hT.2 i hi
  unfold vc_X6_readNumber
  refine nm_r (e' := nI (nx T e - skp T e)) (by rw [h5, h6, pk_sub t1']) ?_
  refine pk_lt (nx T e - skp T e) 1 (fun z => q0 (.inl (numR_f (fun y => by have := t3' y.1; omega)))) (fun z => pk_lt 2 (nx T e - skp T e) (fun z2 => q0 (.inl (numR_f (fun y => by omega)))) (fun z2 => ?_))
  have hse : skp T e < T.1 := by omega
  refine ⟨pk_in (skp T e) 160 (by omega) h5, ?_⟩
  have v1 := (wT.2 _ hse).2
  rw [let_ h5 hse]
  refine c_digit v1 (fun y => b1 ⟨pk_in (skp T e) 160 (by omega) h5, ?_⟩) (fun y => b0 (q0 (.inl (numR_f (fun x => by rw [y] at x; exact absurd x.2.1 (by decide))))))
  have d1 := dg_i.mp y
  have v99 : nv T.2 (skp T e) (nx T e - skp T e) ≤ 99 := nv_99 hse y z2
  have fin : ∀ x : Int32, x = nI (nv T.2 (skp T e) (nx T e - skp T e)) → vc_X6_readNumber_B82 Q (nI sl) p2 p3 bn x I J := by
    intro x ex
    subst ex
    unfold vc_X6_readNumber_B82
    refine c_wi (by omega) hlo hhx rfl e2 e3 (fun l1 l2 => b1' ?_) (fun l => b0' (q0 (.inl (numR_f (fun x => l x.2.2.2)))))
    have hsome := numR_t (lo := lo) (hx := hx) hse y z2 l1 l2
    rw [hb _ v99]
    refine ⟨fun nb => ?_, fun eb => q0 (.inr (by rw [hsome, eb]))⟩
    have ix : I 1 4 * 3 + nI sl = nI (3 * k + sl) := by rw [h4, show (3 : Int32) = nI 3 from rfl, pk_mul, nI_add, Nat.mul_comm]
    rw [ix, nI_clamp (by omega)]
    refine ⟨vp_in_nI (by omega) (by omega), nm_e (c_nextR (e := nx T e) (k := k) (N := N) hT wT t2' ⟨⟨fun j a b c => (wI_row c).trans (f1 j a b c), f2⟩, h4, h6, h7, h8, h9⟩ (fun I' r g3 g4 => q1 _ hsome nb I' r g3 (by rw [g4, wI_same]) (fun m hm => by rw [g4, wI_col hm])))⟩
  rw [let_ h5 hse]
  refine nm_r (e' := nI (T.2 (skp T e) - 48)) (by rw [show (48 : Int32) = nI 48 from rfl, pk_sub d1.1]) ?_
  rw [show (2 : Int32) = nI 2 from rfl, nI_eq (by omega) (by omega)]
  refine ⟨fun g => fin _ ?_, fun g => ⟨by rw [h5, nI_1]; exact vp_in_nI (by omega) (by omega), ?_⟩⟩
  · unfold nv
    rw [if_neg (by omega), if_pos (by omega)]
  · have d2 := dg_i.mp (dg_two hse y (dg_sm y) g)
    rw [let_ (i := skp T e + 1) (by rw [h5, nI_1]) (by omega), nv_st d2.1]
    refine nm_e (fin _ ?_)
    unfold nv
    rw [if_neg (by omega), if_neg (by omega)]
end Cln
