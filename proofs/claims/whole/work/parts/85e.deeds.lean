/-! ===== standings are copied, remembered, noted ===== -/
theorem up_self {α : Type} (f : Nat → α) (k : Nat) (v : α) : va_up f k v k = v := if_pos rfl
theorem up_ne {α : Type} {f : Nat → α} {k : Nat} {v : α} {j : Nat} (h : j ≠ k) : va_up f k v j = f j := if_neg h
theorem cpy0 {f g : Nat → Int32} {n : Int32} {N j : Nat} (hN : n.toNatClampNeg = N) (h : j < N) : va_cpy f g (Int32.toNatClampNeg 0) (Int32.toNatClampNeg 0) n.toNatClampNeg j = f j := by
  rw [hN, show Int32.toNatClampNeg 0 = 0 from by decide, pk_cpy_in (Nat.zero_le _) (by omega)]
  congr 1
  omega
theorem s_copyOf {D : Sd} {a0 a1 : Nat} {I : MI} {J : MJ} (hd : a0 + 5 ≤ a1 ∨ a1 + 5 ≤ a0) (h : rSc D I a1) {Q : MI → MJ → Prop} (q : ∀ I' : MI, rSc D I' a0 → (∀ j, (j < a0 ∨ a0 + 4 < j) → I' j = I j) → Q I' J) : vc_X7_copyOf a0 a1 I J Q := by
  obtain ⟨h1, h2, h3⟩ := h
  unfold vc_X7_copyOf
  refine nm_e (nm_e (nm_e (nm_e (nm_e (q _ ⟨fun c hc => ⟨?_, ?_, ?_⟩, fun p hp => ?_, ?_⟩ (fun j hj => ?_))))))
  · rw [wI_row (by omega), up_ne (by omega), up_ne (by omega), up_ne (by omega), up_self, cpy0 (by decide) hc]
    exact (h1 c hc).1
  · rw [wI_row (by omega), up_ne (by omega), up_ne (by omega), up_self, cpy0 (by decide) hc, up_ne (by omega)]
    exact (h1 c hc).2.1
  · rw [wI_row (by omega), up_ne (by omega), up_self, cpy0 (by decide) hc, up_ne (by omega), up_ne (by omega)]
    exact (h1 c hc).2.2
  · rw [wI_row (by omega), up_self, cpy0 (by decide) hp, up_ne (by omega), up_ne (by omega), up_ne (by omega)]
    exact h2 p hp
  · rw [wI_same, up_ne (by omega), up_ne (by omega), up_ne (by omega), up_ne (by omega)]
    exact h3
  · rw [wI_row (by omega), up_ne (by omega), up_ne (by omega), up_ne (by omega), up_ne (by omega)]
def pushU (U : List Sd) (D : Sd) : List Sd := (if U.length = 8 then U.tail else U) ++ [D]
theorem push_len {U : List Sd} {D : Sd} (h : U.length ≤ 8) : (pushU U D).length = if U.length = 8 then 8 else U.length + 1 := by
  unfold pushU
  by_cases e : U.length = 8
  · rw [if_pos e, if_pos e, List.length_append, List.length_tail]; simp; omega
  · rw [if_neg e, if_neg e, List.length_append]; simp
theorem push_get {U : List Sd} {D E : Sd} {b : Nat} (h : U.length ≤ 8) (hb : (pushU U D)[b]? = some E) : (b + 1 = (pushU U D).length ∧ E = D) ∨ (b + 1 < (pushU U D).length ∧ U[b + (if U.length = 8 then 1 else 0)]? = some E) := by
  rw [push_len h]
  unfold pushU at hb
  by_cases e : U.length = 8
  · rw [if_pos e] at hb ⊢
    rw [if_pos e]
    have hl : U.tail.length = 7 := by rw [List.length_tail]; omega
    by_cases hb7 : b < 7
    · rw [List.getElem?_append_left (by omega), List.getElem?_tail] at hb
      exact Or.inr ⟨by omega, hb⟩
    · rw [List.getElem?_append_right (by omega), hl] at hb
      have hz : b - 7 < 1 := (List.getElem?_eq_some_iff.mp hb).1
      have hb0 : b - 7 = 0 := by omega
      rw [hb0] at hb
      exact Or.inl ⟨by omega, (Option.some.inj hb).symm⟩
  · rw [if_neg e] at hb ⊢
    rw [if_neg e]
    by_cases hb7 : b < U.length
    · rw [List.getElem?_append_left hb7] at hb
      exact Or.inr ⟨by omega, by simpa using hb⟩
    · rw [List.getElem?_append_right (by omega)] at hb
      have hz : b - U.length < 1 := (List.getElem?_eq_some_iff.mp hb).1
      have hb0 : b - U.length = 0 := by omega
      rw [hb0] at hb
      exact Or.inl ⟨by omega, (Option.some.inj hb).symm⟩
theorem push_wf {C : Cty} {U : List Sd} {D : Sd} (hU : U.length ≤ 8 ∧ ∀ (b : Nat) (E : Sd), U[b]? = some E → wfS C E) (hD : wfS C D) : (pushU U D).length ≤ 8 ∧ ∀ (b : Nat) (E : Sd), (pushU U D)[b]? = some E → wfS C E := by
  refine ⟨by rw [push_len hU.1]; split <;> omega, fun b E hb => ?_⟩
  rcases push_get hU.1 hb with ⟨-, rfl⟩ | ⟨-, h⟩
  · exact hD
  · exact hU.2 _ E h
theorem s_remember {U : List Sd} {D : Sd} {I : MI} {J : MJ} (hU8 : U.length ≤ 8) (hD : rSc D I 32) (hU : cU U I) {Q : MI → MJ → Prop} (q : ∀ I' : MI, cU (pushU U D) I' → (∀ j, j ≠ 14 → (j < 37 ∨ 76 < j) → I' j = I j) → Q I' J) : vc_X0_remember I J Q := by
  obtain ⟨e5, nx, hnx, e4, hr⟩ := hU
  unfold vc_X0_remember
  rw [e4, nI_clamp (by omega)]
  refine ⟨vp_in_nI hnx (by omega), s_copyOf (by omega) hD (fun I2 hD2 hs => nm_e (nm_e (q _ ⟨?_, (nx + 1) % 8, Nat.mod_lt _ (by decide), ?_, fun b E hb => ?_⟩ (fun j h1 h2 => ?_))))⟩
  · rw [wI_same, wI_col (by decide), hs 14 (by omega), e5, nI_1, push_len hU8, show (8 : Int32) = nI 8 from rfl]
    by_cases e : U.length = 8
    · rw [if_pos ((nI_ltI (by omega) (by omega)).mpr (by omega)), if_pos e]
    · rw [if_neg (fun z => by rw [nI_ltI (by omega) (by omega)] at z; omega), if_neg e]
  · rw [wI_col (by decide), wI_same, hs 14 (by omega), e4, nI_1, show (8 : Int32) = nI 8 from rfl, pk_rem (by omega) (by omega) (by omega)]
  · have hri := @ring_in ((nx + 1) % 8) (pushU U D).length b
    rcases push_get hU8 hb with ⟨hb1, rfl⟩ | ⟨hb1, hb2⟩
    · have ea : ringA ((nx + 1) % 8) (pushU U E).length b = 37 + 5 * nx := by
        rw [push_len hU8] at hb1 ⊢
        unfold ringA
        split at hb1 <;> split <;> omega
      rw [ea]
      exact hD2.cg (fun j q1 q2 => by rw [wI_row (by omega), wI_row (by omega)])
    · have hold := hr _ E hb2
      have hlt : b + (if U.length = 8 then 1 else 0) < U.length := (List.getElem?_eq_some_iff.mp hb2).1
      have ea : ringA ((nx + 1) % 8) (pushU U D).length b = ringA nx U.length (b + (if U.length = 8 then 1 else 0)) ∧ (ringA nx U.length (b + (if U.length = 8 then 1 else 0)) + 5 ≤ 37 + 5 * nx ∨ 37 + 5 * nx + 5 ≤ ringA nx U.length (b + (if U.length = 8 then 1 else 0))) := by
        rw [push_len hU8] at hb1 ⊢
        unfold ringA
        by_cases e : U.length = 8
        · rw [if_pos e] at hb1 hlt ⊢
          rw [if_pos e]
          omega
        · rw [if_neg e] at hb1 hlt ⊢
          rw [if_neg e]
          omega
      rw [ea.1]
      refine hold.cg (fun j q1 q2 => ?_)
      rw [ea.1] at hri
      rw [wI_row (by omega), wI_row (by omega), hs j (by omega)]
  · rw [wI_row h1, wI_row h1, hs j (by omega)]
/-- the reference's copy of a standing -/
theorem m_copy {a0 n0 a2 n2 o1 o2 : Nat} {I : MI} {J : MJ} (hne : a0 ≠ a2) (h1 : o1 + 20 ≤ n0) (h2 : o2 + 20 ≤ n2) (hn0 : n0 < 2 ^ 31) (hn2 : n2 < 2 ^ 31) {Q : MI → MJ → Prop} (q : ∀ I' : MI, (∀ j, j ≠ a2 → I' j = I j) → (∀ k, k < 20 → I' a2 (o2 + k) = I a0 (o1 + k)) → (∀ m, (m < o2 ∨ o2 + 20 ≤ m) → I' a2 m = I a2 m) → Q I' J) : vc_X11_copy a0 n0 (nI o1) a2 n2 (nI o2) I J Q := by
  have loop : ∀ d i (I' : MI), i + d = 20 → (∀ j, j ≠ a2 → I' j = I j) → (∀ k, k < i → I' a2 (o2 + k) = I a0 (o1 + k)) → (∀ m, (m < o2 ∨ o2 + i ≤ m) → I' a2 m = I a2 m) → vc_X11_copy_L3 a0 n0 a2 n2 Q (d + 1) (nI o1) (nI o2) (nI i) I' J := by
    intro d
    induction d with
    | zero =>
      intro i I' hi e1 e2 e3
      show vc_X11_copy_L3s a0 n0 a2 n2 Q (vc_X11_copy_L3 a0 n0 a2 n2 Q 0) _ _ _ I' J
      unfold vc_X11_copy_L3s
      exact pk_le 20 i (fun _ => q I' e1 (fun k hk => e2 k (by omega)) (fun m hm => e3 m (by omega))) (fun z => by omega)
    | succ d ih =>
      intro i I' hi e1 e2 e3
      show vc_X11_copy_L3s a0 n0 a2 n2 Q (vc_X11_copy_L3 a0 n0 a2 n2 Q (d + 1)) _ _ _ I' J
      unfold vc_X11_copy_L3s
      refine pk_le 20 i (fun z => by omega) (fun z => ?_)
      rw [nI_add, nI_add]
      refine ⟨vp_in_nI (by omega) hn0, vp_in_nI (by omega) hn2, nm_e (nm_r (nI_1 i) (ih (i + 1) _ (by omega) (fun j hj => ?_) (fun k hk => ?_) (fun m hm => ?_)))⟩
      · rw [wI_row hj]; exact e1 j hj
      · rw [nI_clamp (by omega), nI_clamp (by omega), wI_ap, if_pos rfl]
        by_cases hki : k = i
        · subst hki
          rw [if_pos rfl, e1 a0 hne]
        · rw [if_neg (by omega)]; exact e2 k (by omega)
      · rw [nI_clamp (by omega), wI_col (by omega)]; exact e3 m (by omega)
  exact ⟨21, loop 20 0 I rfl (fun _ _ => rfl) (fun k hk => absurd hk (Nat.not_lt_zero k)) (fun _ _ => rfl)⟩
theorem rSm.cp {D : Sd} {f g : Nat → Int32} {o o' : Nat} (h : rSm D f o) (e : ∀ k, k < 20 → g (o' + k) = f (o + k)) : rSm D g o' := by
  obtain ⟨h1, h2, h3⟩ := h
  refine ⟨fun c hc => ⟨by rw [e c (by omega)]; exact (h1 c hc).1, ?_, ?_⟩, fun p hp => ?_, by rw [e 19 (by omega)]; exact h3⟩
  · rw [Nat.add_assoc, e (4 + c) (by omega), ← Nat.add_assoc]; exact (h1 c hc).2.1
  · rw [Nat.add_assoc, e (8 + c) (by omega), ← Nat.add_assoc]; exact (h1 c hc).2.2
  · rw [Nat.add_assoc, e (12 + p) (by omega), ← Nat.add_assoc]; exact h2 p hp
theorem m_note {U : List Sd} {D : Sd} {I : MI} {J : MJ} (hU8 : U.length ≤ 8) (hD : rSm D (I 93) 0) (hU : mU U I) {Q : MI → MJ → Prop} (q : ∀ I' : MI, mU (pushU U D) I' → (∀ j, j ≠ 96 → j ≠ 87 → I' j = I j) → (∀ m, m ≠ 24 → I' 87 m = I 87 m) → Q I' J) : vc_X11_note I J Q := by
  obtain ⟨e24, hr⟩ := hU
  have b49 : ∀ (n : Nat) (I1 : MI), n < 8 → n + 1 = (pushU U D).length → I1 87 24 = nI n → (∀ j, j ≠ 96 → j ≠ 87 → I1 j = I j) → (∀ m, m ≠ 24 → I1 87 m = I 87 m) → (∀ b E, b < n → U[b + (if U.length = 8 then 1 else 0)]? = some E → rSm E (I1 96) (20 * b)) → vc_X11_note_B49 Q I1 J := by
    intro n I1 hn hl e1 e2 e3 e4
    unfold vc_X11_note_B49
    rw [e1, show (20 : Int32) = nI 20 from rfl, pk_mul]
    refine m_copy (o1 := 0) (by decide) (by omega) (by omega) (by omega) (by omega) (fun I2 a1 a2 a3 => nm_e (q _ ⟨?_, fun b E hb => ?_⟩ (fun j h1 h2 => ?_) (fun m hm => ?_)))
    · rw [wI_same, a1 87 (by decide), e1, nI_1, hl]
    · show rSm E (I2 96) (20 * b)
      rcases push_get hU8 hb with ⟨hb1, rfl⟩ | ⟨hb1, hb2⟩
      · have : b = n := by omega
        subst this
        refine hD.cp (fun k hk => ?_)
        rw [a2 k hk, e2 93 (by decide) (by decide)]
      · refine (e4 b E (by omega) hb2).cp (fun k hk => a3 _ (by omega))
    · rw [wI_row h2, a1 j h1, e2 j h1 h2]
    · rw [wI_col hm, a1 87 (by decide), e3 m hm]
  unfold vc_X11_note
  rw [e24, show (8 : Int32) = nI 8 from rfl, nI_eq (by omega) (by omega)]
  refine ⟨fun z => ?_, fun z => ?_⟩
  · refine b49 U.length I (by omega) (by rw [push_len hU8, if_neg z]) e24 (fun _ _ _ => rfl) (fun _ _ => rfl) (fun b E hb he => ?_)
    rw [if_neg z] at he
    exact hr b E he
  · have loop : ∀ d i (I' : MI), i + d = 140 → (∀ j, j ≠ 96 → I' j = I j) → (∀ k, k < i → I' 96 k = I 96 (k + 20)) → (∀ m, i ≤ m → I' 96 m = I 96 m) → vc_X11_note_L11 Q (d + 1) (nI i) I' J := by
      intro d
      induction d with
      | zero =>
        intro i I' hi e1 e2 e3
        show vc_X11_note_L11s Q (vc_X11_note_L11 Q 0) _ I' J
        unfold vc_X11_note_L11s
        refine pk_le 140 i (fun _ => nm_e ?_) (fun z => by omega)
        refine b49 7 _ (by omega) (by rw [push_len hU8, if_pos z]) ?_ (fun j h1 h2 => by rw [wI_row h2, e1 j h1]) (fun m hm => by rw [wI_col hm, e1 87 (by decide)]) (fun b E hb he => ?_)
        · rw [wI_same, e1 87 (by decide), e24, z, show (1 : Int32) = nI 1 from rfl, pk_sub (by omega)]
        · rw [if_pos z] at he
          rw [wI_row (by decide)]
          refine (hr (b + 1) E he).cp (fun k hk => ?_)
          rw [e2 _ (by omega)]
          congr 1
          omega
      | succ d ih =>
        intro i I' hi e1 e2 e3
        show vc_X11_note_L11s Q (vc_X11_note_L11 Q (d + 1)) _ I' J
        unfold vc_X11_note_L11s
        refine pk_le 140 i (fun z => by omega) (fun z => ?_)
        rw [show (20 : Int32) = nI 20 from rfl, nI_add]
        refine ⟨vp_in_nI (by omega) (by omega), vp_in_nI (by omega) (by omega), nm_e (nm_r (nI_1 i) (ih (i + 1) _ (by omega) (fun j hj => ?_) (fun k hk => ?_) (fun m hm => ?_)))⟩
        · rw [wI_row hj]; exact e1 j hj
        · rw [nI_clamp (by omega), nI_clamp (by omega), wI_ap, if_pos rfl]
          by_cases hki : k = i
          · subst hki
            rw [if_pos rfl]; exact e3 _ (by omega)
          · rw [if_neg hki]; exact e2 k (by omega)
        · rw [nI_clamp (by omega), wI_col (by omega)]; exact e3 m (by omega)
    exact ⟨141, loop 140 0 I rfl (fun _ _ => rfl) (fun k hk => absurd hk (Nat.not_lt_zero k)) (fun _ _ => rfl)⟩
