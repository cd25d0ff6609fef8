/-! ===== what the clauses tell ===== -/
def tell (C : Cty) (L : Ln) : Cty :=
  if L.1 < 4 then ((C.np + 1, C.nr, C.nc), setN C.pk C.np L.1, C.2.2)
  else if L.1 < 7 then ((C.np, C.nr + 1, C.nc), C.pk, (setN C.ra C.nr L.2.1, setN C.rb C.nr L.2.2.1, setN C.rh C.nr L.2.2.2, setN C.rk C.nr (L.1 - 4)), C.2.2.2)
  else if L.1 < 10 then ((C.np, C.nr, C.nc + 1), C.pk, C.2.2.1, (setN C.ck C.nc (L.1 - 7), setN C.cs C.nc L.2.1, setN C.cw C.nc L.2.2.1), C.wm)
  else if L.1 = 10 then ((0, 0, 0), C.pk, C.2.2.1, C.2.2.2.1, 0)
  else if L.1 = 11 then (C.1, C.pk, C.2.2.1, C.2.2.2.1, C.wm ||| ((1 : Int64) <<< ((nI L.2.1).toInt64 &&& 63)))
  else (C.1, C.pk, C.2.2.1, C.2.2.2.1, 0)
theorem tell_p {C : Cty} {L : Ln} (h : L.1 < 4) : tell C L = ((C.np + 1, C.nr, C.nc), setN C.pk C.np L.1, C.2.2) := if_pos h
theorem tell_r {C : Cty} {L : Ln} (h0 : 4 ≤ L.1) (h : L.1 < 7) : tell C L = ((C.np, C.nr + 1, C.nc), C.pk, (setN C.ra C.nr L.2.1, setN C.rb C.nr L.2.2.1, setN C.rh C.nr L.2.2.2, setN C.rk C.nr (L.1 - 4)), C.2.2.2) := by unfold tell; rw [if_neg (by omega), if_pos h]
theorem tell_c {C : Cty} {L : Ln} (h0 : 7 ≤ L.1) (h : L.1 < 10) : tell C L = ((C.np, C.nr, C.nc + 1), C.pk, C.2.2.1, (setN C.ck C.nc (L.1 - 7), setN C.cs C.nc L.2.1, setN C.cw C.nc L.2.2.1), C.wm) := by unfold tell; rw [if_neg (by omega), if_neg (by omega), if_pos h]
theorem tell_l {C : Cty} {L : Ln} (h : L.1 = 10) : tell C L = ((0, 0, 0), C.pk, C.2.2.1, C.2.2.2.1, 0) := by unfold tell; rw [if_neg (by omega), if_neg (by omega), if_neg (by omega), if_pos h]
theorem tell_w {C : Cty} {L : Ln} (h : L.1 = 11) : tell C L = (C.1, C.pk, C.2.2.1, C.2.2.2.1, C.wm ||| ((1 : Int64) <<< ((nI L.2.1).toInt64 &&& 63))) := by unfold tell; rw [if_neg (by omega), if_neg (by omega), if_neg (by omega), if_neg (by omega), if_pos h]
theorem tell_m {C : Cty} {L : Ln} (h : L.1 = 12) : tell C L = (C.1, C.pk, C.2.2.1, C.2.2.2.1, 0) := by unfold tell; rw [if_neg (by omega), if_neg (by omega), if_neg (by omega), if_neg (by omega), if_neg (by omega)]
theorem tell_ok {C : Cty} {L : Ln} {N' : Cn} (hC : wfC C) (h : okL C.1 L N') : wfC (tell C L) ∧ (tell C L).1 = N' := by
  obtain ⟨⟨w1, w2, w3⟩, wp, wr, wc, ww⟩ := hC
  rcases h with ⟨h1, h2, rfl⟩ | ⟨h0, h1, h2, h3, h4, h5, h6, h7, rfl⟩ | ⟨h0, h1, h2, h3, h4, rfl⟩ | ⟨h1, rfl⟩ | ⟨h1, h2, rfl⟩ | ⟨h1, rfl⟩
  · rw [tell_p h1]
    have h2 : C.np < 7 := h2
    refine ⟨⟨⟨(show C.np + 1 ≤ 7 by omega), w2, w3⟩, fun i hi => ?_, fun r hr => ?_, fun c hc => ?_, ww⟩, rfl⟩
    · have hi : i < C.np + 1 := hi
      show setN C.pk C.np L.1 i ≤ 3
      by_cases e : i = C.np
      · rw [e, setN_same]; omega
      · rw [setN_ne e]; exact wp i (by omega)
    · obtain ⟨a, b, c⟩ := wr r hr
      exact ⟨(show C.ra r < C.np + 1 by omega), (show C.rb r < C.np + 1 by omega), c⟩
    · obtain ⟨a, b, d⟩ := wc c hc
      exact ⟨a, (show C.cs c < C.np + 1 by omega), d⟩
  · rw [tell_r h0 h1]
    have h2 : C.nr < 9 := h2
    have h3 : L.2.1 < C.np := h3
    have h4 : L.2.2.1 < C.np := h4
    refine ⟨⟨⟨w1, (show C.nr + 1 ≤ 9 by omega), w3⟩, wp, fun r hr => ?_, wc, ww⟩, rfl⟩
    have hr : r < C.nr + 1 := hr
    show setN C.ra C.nr L.2.1 r < C.np ∧ setN C.rb C.nr L.2.2.1 r < C.np ∧ setN C.ra C.nr L.2.1 r ≠ setN C.rb C.nr L.2.2.1 r ∧ 1 ≤ setN C.rh C.nr L.2.2.2 r ∧ setN C.rh C.nr L.2.2.2 r ≤ 6 ∧ setN C.rk C.nr (L.1 - 4) r ≤ 2
    by_cases e : r = C.nr
    · rw [e, setN_same, setN_same, setN_same, setN_same]
      exact ⟨h3, h4, h5, h6, h7, by omega⟩
    · rw [setN_ne e, setN_ne e, setN_ne e, setN_ne e]
      exact wr r (by omega)
  · rw [tell_c h0 h1]
    have h2 : C.nc < 4 := h2
    have h3 : L.2.1 < C.np := h3
    refine ⟨⟨⟨w1, w2, (show C.nc + 1 ≤ 4 by omega)⟩, wp, wr, fun c hc => ?_, ww⟩, rfl⟩
    have hc : c < C.nc + 1 := hc
    show setN C.ck C.nc (L.1 - 7) c ≤ 2 ∧ setN C.cs C.nc L.2.1 c < C.np ∧ setN C.cw C.nc L.2.2.1 c ≤ 3
    by_cases e : c = C.nc
    · rw [e, setN_same, setN_same, setN_same]
      exact ⟨by omega, h3, h4⟩
    · rw [setN_ne e, setN_ne e, setN_ne e]
      exact wc c (by omega)
  · rw [tell_l h1]
    exact ⟨⟨⟨Nat.zero_le _, Nat.zero_le _, Nat.zero_le _⟩, fun i hi => absurd hi (Nat.not_lt_zero i), fun r hr => absurd hr (Nat.not_lt_zero r), fun c hc => absurd hc (Nat.not_lt_zero c), fun h _ => bj_0 h⟩, rfl⟩
  · rw [tell_w h1]
    refine ⟨⟨⟨w1, w2, w3⟩, wp, wr, wc, fun h hh => ?_⟩, rfl⟩
    show bj (C.wm ||| ((1 : Int64) <<< ((nI L.2.1).toInt64 &&& 63))) h = false
    rw [bj_or, ww h hh, bj_pow (by omega), decide_eq_false (by omega)]
    rfl
  · rw [tell_m h1]
    exact ⟨⟨⟨w1, w2, w3⟩, wp, wr, wc, fun h _ => bj_0 h⟩, rfl⟩
def tellAll : Cty → List Ln → Cty
  | C, [] => C
  | C, L :: Ls => tellAll (tell C L) Ls
theorem tellAll_wf : ∀ (Ls : List Ln) (C : Cty), wfC C → chain C.1 Ls → wfC (tellAll C Ls)
  | [], _, h, _ => h
  | L :: Ls, C, h, ⟨N', a, b⟩ => by
    obtain ⟨t1, t2⟩ := tell_ok h a
    exact tellAll_wf Ls (tell C L) t1 (by rw [t2]; exact b)
theorem wI_st {I : MI} {a c v : Nat} {f : Nat → Nat} {i : Nat} (h : i ≠ c → I a i = nI (f i)) : wI I a c (nI v) a i = nI (setN f c v i) := by
  by_cases e : i = c
  · rw [e, wI_same, setN_same]
  · rw [wI_col e, setN_ne e]; exact h e
/-! ===== the class ===== -/
section Tel
variable {I : MI} {J : MJ} {Q : MI → MJ → Prop} {p1 p2 p3 p4 : Int32}
theorem c_addP (n : Nat) (hn : n < 7) (h : I 5 8 = nI n) (q : Q (wI (wI I 6 n p1) 5 8 (nI (n + 1))) J) : vc_X1_addPlace p1 I J Q := by
  unfold vc_X1_addPlace
  have v : vp_in (nI n) 7 := vp_in_nI hn (by decide)
  have cl : Int32.toNatClampNeg (nI n) = n := nI_clamp (by omega)
  exact pk_le 7 n (fun z => by omega) (fun _ => ⟨by rw [h]; exact v, nm_r (e' := wI I 6 n p1) (by rw [h, cl]) (nm_r (e' := wI (wI I 6 n p1) 5 8 (nI (n + 1))) (by rw [wI_row (by decide), h, nI_1]) q)⟩) rfl h
theorem c_addR (n : Nat) (hn : n < 9) (h : I 5 9 = nI n) (q : Q (wI (wI (wI (wI (wI I 7 n p1) 8 n p2) 9 n p3) 10 n p4) 5 9 (nI (n + 1))) J) : vc_X1_addRoad p1 p2 p3 p4 I J Q := by
  unfold vc_X1_addRoad
  have v : vp_in (nI n) 9 := vp_in_nI hn (by decide)
  have cl : Int32.toNatClampNeg (nI n) = n := nI_clamp (by omega)
  refine pk_le 9 n (fun z => by omega) (fun _ => ⟨by rw [h]; exact v, nm_r (e' := wI I 7 n p1) (by rw [h, cl]) ⟨?_, nm_r (e' := wI (wI I 7 n p1) 8 n p2) ?_ ⟨?_, nm_r (e' := wI (wI (wI I 7 n p1) 8 n p2) 9 n p3) ?_ ⟨?_, nm_r (e' := wI (wI (wI (wI I 7 n p1) 8 n p2) 9 n p3) 10 n p4) ?_ (nm_r (e' := wI (wI (wI (wI (wI I 7 n p1) 8 n p2) 9 n p3) 10 n p4) 5 9 (nI (n + 1))) ?_ q)⟩⟩⟩⟩) rfl h
  · rw [wI_row (by decide), h]; exact v
  · rw [wI_row (by decide), h, cl]
  · rw [wI_row (by decide), wI_row (by decide), h]; exact v
  · rw [wI_row (by decide), wI_row (by decide), h, cl]
  · rw [wI_row (by decide), wI_row (by decide), wI_row (by decide), h]; exact v
  · rw [wI_row (by decide), wI_row (by decide), wI_row (by decide), h, cl]
  · rw [wI_row (by decide), wI_row (by decide), wI_row (by decide), wI_row (by decide), h, nI_1]
theorem c_addC (n : Nat) (hn : n < 4) (h : I 5 10 = nI n) (q : Q (wI (wI (wI (wI I 11 n p1) 12 n p2) 13 n p3) 5 10 (nI (n + 1))) J) : vc_X1_addCart p1 p2 p3 I J Q := by
  unfold vc_X1_addCart
  have v : vp_in (nI n) 4 := vp_in_nI hn (by decide)
  have cl : Int32.toNatClampNeg (nI n) = n := nI_clamp (by omega)
  refine pk_le 4 n (fun z => by omega) (fun _ => ⟨by rw [h]; exact v, nm_r (e' := wI I 11 n p1) (by rw [h, cl]) ⟨?_, nm_r (e' := wI (wI I 11 n p1) 12 n p2) ?_ ⟨?_, nm_r (e' := wI (wI (wI I 11 n p1) 12 n p2) 13 n p3) ?_ (nm_r (e' := wI (wI (wI (wI I 11 n p1) 12 n p2) 13 n p3) 5 10 (nI (n + 1))) ?_ q)⟩⟩⟩) rfl h
  · rw [wI_row (by decide), h]; exact v
  · rw [wI_row (by decide), h, cl]
  · rw [wI_row (by decide), wI_row (by decide), h]; exact v
  · rw [wI_row (by decide), wI_row (by decide), h, cl]
  · rw [wI_row (by decide), wI_row (by decide), wI_row (by decide), h, nI_1]
end Tel
theorem c_tell {Q : MI → MJ → Prop} : ∀ (Ls : List Ln) (i : Nat) (C : Cty) (I : MI) (J : MJ), wfC C → chain C.1 Ls → rCc C I J → (∀ m L, Ls[m]? = some L → lnC L (i + m) I) → I 1 4 = nI (i + Ls.length) → i + Ls.length ≤ 14 → (∀ (I' : MI) (J' : MJ), rCc (tellAll C Ls) I' J' → (∀ j, (j < 5 ∨ 13 < j) → I' j = I j) → (∀ j, j ≠ 5 → J' j = J j) → Q I' J') → vc_X6_tellTo_L2 Q (Ls.length + 1) (nI i) I J := by
  intro Ls
  induction Ls with
  | nil =>
    intro i C I J hC hch hc hl h4 hi q
    show vc_X6_tellTo_L2s Q (vc_X6_tellTo_L2 Q 0) (nI i) I J
    unfold vc_X6_tellTo_L2s
    have hi : i ≤ 14 := hi
    exact pk_le i i (fun _ => q I J hc (fun _ _ => rfl) (fun _ _ => rfl)) (fun z => by omega) h4
  | cons L Ls ih =>
    intro i C I J hC hch hc hl h4 hi q
    obtain ⟨N', ho, hch'⟩ := hch
    rw [List.length_cons] at h4 hi
    obtain ⟨w3, w4⟩ : lnC L i I := hl 0 L rfl
    obtain ⟨t1, t2⟩ := tell_ok hC ho
    obtain ⟨⟨b1, b2, b3⟩, -⟩ := hC
    show vc_X6_tellTo_L2s Q (vc_X6_tellTo_L2 Q (Ls.length + 1)) (nI i) I J
    unfold vc_X6_tellTo_L2s
    have go : ∀ (I' : MI) (J' : MJ), rCc (tell C L) I' J' → (∀ j, (j < 5 ∨ 13 < j) → I' j = I j) → (∀ j, j ≠ 5 → J' j = J j) → ∀ x : Int32, x = nI i + 1 → vc_X6_tellTo_L2 Q (Ls.length + 1) x I' J' := fun I' J' r f g => nm_r (nI_1 i) (ih (i + 1) (tell C L) I' J' t1 (by rw [t2]; exact hch') r (fun m L' hm => by
        rw [show i + 1 + m = i + (m + 1) by omega]
        exact (hl (m + 1) L' hm).cg (by rw [f 3 (by decide)]) (fun j _ => by rw [f 4 (by decide)])) (by rw [f 1 (by decide), h4, show i + 1 + Ls.length = i + (Ls.length + 1) by omega]) (by omega) (fun I2 J2 r2 f2 g2 => q I2 J2 r2 (fun j hj => (f2 j hj).trans (f j hj)) (fun j hj => (g2 j hj).trans (g j hj))))
    refine pk_le (i + (Ls.length + 1)) i (fun z => by omega) (fun _ => nm_r (e' := nI (3 * i)) (by rw [show (3 : Int32) = nI 3 from rfl, pk_mul, Nat.mul_comm]) ⟨vp_in_nI (by omega) (by decide), nm_r (e' := nI (cwo L.1)) (by rw [nI_clamp (by omega)]; exact w3) ?_⟩) h4
    rw [show nI (3 * i) + 1 = nI (3 * i + 1) from nI_add _ 1, show nI (3 * i) + 2 = nI (3 * i + 2) from nI_add _ 2, nI_clamp (n := 3 * i) (by omega), nI_clamp (n := 3 * i + 1) (by omega), nI_clamp (n := 3 * i + 2) (by omega)]
    have v0 : vp_in (nI (3 * i)) 42 := vp_in_nI (by omega) (by decide)
    have v1 : vp_in (nI (3 * i + 1)) 42 := vp_in_nI (by omega) (by decide)
    have v2 : vp_in (nI (3 * i + 2)) 42 := vp_in_nI (by omega) (by decide)
    obtain ⟨c1, c2, c3, c4, cp, cr, cc⟩ := hc
    have hL12 : L.1 ≤ 12 := by rcases ho with h | h | h | h | h | h <;> omega
    have hcw := cwo_r hL12
    generalize cwo L.1 = cw at hcw ⊢
    rcases ho with ⟨h1, h2, rfl⟩ | ⟨h0, h1, h2, h3, h4', h5, h6, h7, rfl⟩ | ⟨h0, h1, h2, h3, h4', rfl⟩ | ⟨h1, rfl⟩ | ⟨h1, h2, rfl⟩ | ⟨h1, rfl⟩
    · have h2 : C.np < 7 := h2
      refine ⟨fun _ => pk_le 5 cw (fun z => by omega) (fun _ => c_addP C.np h2 c1 (go _ _ ?_ (fun j hj => ?_) (fun _ _ => rfl))), fun z => absurd z (nI_ne0 (by omega) (by omega))⟩
      · rw [tell_p h1, show nI cw - 1 = nI L.1 from by rw [show (1 : Int32) = nI 1 from rfl, pk_sub (by omega), show cw - 1 = L.1 by omega]]
        refine ⟨wI_same _ _ _ _, (wI_col (by decide)).trans (by rw [wI_row (by decide)]; exact c2), (wI_col (by decide)).trans (by rw [wI_row (by decide)]; exact c3), c4, fun k hk => ?_, fun r hr => ?_, fun c hc => ?_⟩
        · have hk : k < C.np + 1 := hk
          rw [wI_row (by decide)]
          exact wI_st (fun e => cp k (by omega))
        · rw [wI_row (by decide), wI_row (by decide), wI_row (by decide), wI_row (by decide), wI_row (by decide), wI_row (by decide), wI_row (by decide), wI_row (by decide)]
          exact cr r hr
        · rw [wI_row (by decide), wI_row (by decide), wI_row (by decide), wI_row (by decide), wI_row (by decide), wI_row (by decide)]
          exact cc c hc
      · rw [wI_row (by omega), wI_row (by omega)]
    · have h2 : C.nr < 9 := h2
      have n3 : nn L.1 = 3 := nn_r h0 h1
      have a0 : I 4 (3 * i) = nI L.2.1 := w4 0 (by omega)
      have a1 : I 4 (3 * i + 1) = nI L.2.2.1 := w4 1 (by omega)
      have a2 : I 4 (3 * i + 2) = nI L.2.2.2 := w4 2 (by omega)
      rw [a0, a1, a2]
      refine ⟨fun _ => pk_le 5 cw (fun _ => pk_le 8 cw (fun z => by omega) (fun _ => ⟨v0, v1, v2, c_addR C.nr h2 c2 (go _ _ ?_ (fun j hj => ?_) (fun _ _ => rfl))⟩)) (fun z => by omega), fun z => absurd z (nI_ne0 (by omega) (by omega))⟩
      · rw [tell_r h0 h1, show nI cw - 5 = nI (L.1 - 4) from by rw [show (5 : Int32) = nI 5 from rfl, pk_sub (by omega), show cw - 5 = L.1 - 4 by omega]]
        refine ⟨?_, wI_same _ _ _ _, ?_, c4, fun k hk => ?_, fun r hr => ⟨?_, ?_, ?_, ?_⟩, fun c hc => ?_⟩
        · rw [wI_col (by decide), wI_row (by decide), wI_row (by decide), wI_row (by decide), wI_row (by decide)]; exact c1
        · rw [wI_col (by decide), wI_row (by decide), wI_row (by decide), wI_row (by decide), wI_row (by decide)]; exact c3
        · rw [wI_row (by decide), wI_row (by decide), wI_row (by decide), wI_row (by decide), wI_row (by decide)]; exact cp k hk
        · have hr : r < C.nr + 1 := hr
          rw [wI_row (by decide), wI_row (by decide), wI_row (by decide)]
          exact wI_st (fun e => by rw [wI_row (by decide)]; exact (cr r (by omega)).1)
        · have hr : r < C.nr + 1 := hr
          rw [wI_row (by decide), wI_row (by decide)]
          exact wI_st (fun e => by rw [wI_row (by decide), wI_row (by decide)]; exact (cr r (by omega)).2.1)
        · have hr : r < C.nr + 1 := hr
          rw [wI_row (by decide)]
          exact wI_st (fun e => by rw [wI_row (by decide), wI_row (by decide), wI_row (by decide)]; exact (cr r (by omega)).2.2.1)
        · have hr : r < C.nr + 1 := hr
          rw [wI_row (by decide), wI_row (by decide), wI_row (by decide), wI_row (by decide)]
          exact wI_st (fun e => (cr r (by omega)).2.2.2)
        · rw [wI_row (j := 11) (by decide), wI_row (j := 11) (by decide), wI_row (j := 11) (by decide), wI_row (j := 11) (by decide), wI_row (j := 11) (by decide), wI_row (j := 12) (by decide), wI_row (j := 12) (by decide), wI_row (j := 12) (by decide), wI_row (j := 12) (by decide), wI_row (j := 12) (by decide), wI_row (j := 13) (by decide), wI_row (j := 13) (by decide), wI_row (j := 13) (by decide), wI_row (j := 13) (by decide), wI_row (j := 13) (by decide)]
          exact cc c hc
      · rw [wI_row (by omega), wI_row (by omega), wI_row (by omega), wI_row (by omega), wI_row (by omega)]
    · have h2 : C.nc < 4 := h2
      have n3 : nn L.1 = 2 := nn_c h0 h1
      have a0 : I 4 (3 * i) = nI L.2.1 := w4 0 (by omega)
      have a1 : I 4 (3 * i + 1) = nI L.2.2.1 := w4 1 (by omega)
      rw [a0, a1]
      refine ⟨fun _ => pk_le 5 cw (fun _ => pk_le 8 cw (fun _ => pk_le 11 cw (fun z => by omega) (fun _ => ⟨v0, v1, c_addC C.nc h2 c3 (go _ _ ?_ (fun j hj => ?_) (fun _ _ => rfl))⟩)) (fun z => by omega)) (fun z => by omega), fun z => absurd z (nI_ne0 (by omega) (by omega))⟩
      · rw [tell_c h0 h1, show nI cw - 8 = nI (L.1 - 7) from by rw [show (8 : Int32) = nI 8 from rfl, pk_sub (by omega), show cw - 8 = L.1 - 7 by omega]]
        refine ⟨?_, ?_, wI_same _ _ _ _, c4, fun k hk => ?_, fun r hr => ?_, fun c hc => ⟨?_, ?_, ?_⟩⟩
        · rw [wI_col (by decide), wI_row (by decide), wI_row (by decide), wI_row (by decide)]; exact c1
        · rw [wI_col (by decide), wI_row (by decide), wI_row (by decide), wI_row (by decide)]; exact c2
        · rw [wI_row (by decide), wI_row (by decide), wI_row (by decide), wI_row (by decide)]; exact cp k hk
        · rw [wI_row (j := 8) (by decide), wI_row (j := 8) (by decide), wI_row (j := 8) (by decide), wI_row (j := 8) (by decide), wI_row (j := 9) (by decide), wI_row (j := 9) (by decide), wI_row (j := 9) (by decide), wI_row (j := 9) (by decide), wI_row (j := 10) (by decide), wI_row (j := 10) (by decide), wI_row (j := 10) (by decide), wI_row (j := 10) (by decide), wI_row (j := 7) (by decide), wI_row (j := 7) (by decide), wI_row (j := 7) (by decide), wI_row (j := 7) (by decide)]
          exact cr r hr
        · have hc : c < C.nc + 1 := hc
          rw [wI_row (by decide), wI_row (by decide), wI_row (by decide)]
          exact wI_st (fun e => (cc c (by omega)).1)
        · have hc : c < C.nc + 1 := hc
          rw [wI_row (by decide), wI_row (by decide)]
          exact wI_st (fun e => by rw [wI_row (by decide)]; exact (cc c (by omega)).2.1)
        · have hc : c < C.nc + 1 := hc
          rw [wI_row (by decide)]
          exact wI_st (fun e => by rw [wI_row (by decide), wI_row (by decide)]; exact (cc c (by omega)).2.2)
      · rw [wI_row (by omega), wI_row (by omega), wI_row (by omega), wI_row (by omega)]
    · have e0 : cw = 0 := by omega
      rw [e0]
      refine ⟨fun z => absurd rfl z, fun _ => ?_⟩
      unfold vc_X1_clear
      refine nm_e (nm_e (nm_e (nm_e (go _ _ ?_ (fun j hj => ?_) (fun j hj => wJ_row hj)))))
      · rw [tell_l h1]
        refine ⟨?_, ?_, wI_same _ _ _ _, wJ_sm _ _ _ _, fun i hi => absurd hi (Nat.not_lt_zero i), fun r hr => absurd hr (Nat.not_lt_zero r), fun c hc => absurd hc (Nat.not_lt_zero c)⟩
        · rw [wI_col (by decide), wI_col (by decide), wI_same]; rfl
        · rw [wI_col (by decide), wI_same]; rfl
      · rw [wI_row (by omega), wI_row (by omega), wI_row (by omega)]
    · have n3 : nn L.1 = 1 := nn_w h1
      have a0 : I 4 (3 * i) = nI L.2.1 := w4 0 (by omega)
      have e0 : cw = 11 := by omega
      rw [a0, e0]
      refine ⟨fun _ => pk_le 5 11 (fun _ => pk_le 8 11 (fun _ => pk_le 11 11 (fun _ => ⟨fun z => absurd rfl z, fun _ => ⟨v0, nm_e (go _ _ ?_ (fun _ _ => rfl) (fun j hj => wJ_row hj))⟩⟩) (fun z => by omega)) (fun z => by omega)) (fun z => by omega), fun z => absurd z (by decide)⟩
      rw [tell_w h1]
      exact ⟨c1, c2, c3, (wJ_sm _ _ _ _).trans (by rw [c4]), cp, cr, cc⟩
    · have e0 : cw = 12 := by omega
      rw [e0]
      refine ⟨fun _ => pk_le 5 12 (fun _ => pk_le 8 12 (fun _ => pk_le 11 12 (fun _ => ⟨fun _ => nm_e (go _ _ ?_ (fun _ _ => rfl) (fun j hj => wJ_row hj)), fun z => absurd z (by decide)⟩) (fun z => by omega)) (fun z => by omega)) (fun z => by omega), fun z => absurd z (by decide)⟩
      rw [tell_m h1]
      exact ⟨c1, c2, c3, wJ_sm _ _ _ _, cp, cr, cc⟩
