/-! ===== the reference's sort of a clause; numbers ===== -/
def srA (x : Int64) : Int32 := if x = 38580340318 then 0 else if x = 142105060841 then 1 else if x = 45948915 then 2 else if x = 66175 then 3 else -1
def srB (x : Int64) : Int32 := if x = 365260 then 4 else if x = 276903499 then 5 else if x = 796715911 then 6 else -1
def srC (x : Int64) : Int32 := if x = 60284 then 7 else if x = 11263 then 8 else if x = 7648766554 then 9 else -1
def srD (x : Int64) : Int32 := if x = 237307 then 10 else if x = 453937 then 11 else if x = 60115 then 12 else -1
def srP (a b c d : Int32) : Int32 := if a = -1 then (if b = -1 then (if c = -1 then d else c) else b) else a
def srt (x : Int64) : Int32 := srP (srA x) (srB x) (srC x) (srD x)
section Srt
variable {Q : Int32 → MI → MJ → Prop} {I : MI} {J : MJ} {v1 v2 v3 s0 : Int32}
theorem st_209 (q : Q (srP v1 v2 v3 s0) I J) : vc_X11_sortOf_B209 Q v1 v2 v3 s0 I J := by
  unfold vc_X11_sortOf_B209
  unfold srP at q
  refine ⟨fun z1 => ⟨fun z2 => ⟨fun z3 => ?_, fun z3 => ?_⟩, fun z2 => ?_⟩, fun z1 => ?_⟩
  · rw [if_pos z1, if_pos z2, if_pos z3] at q; exact q
  · rw [if_pos z1, if_pos z2, if_neg z3] at q; exact q
  · rw [if_pos z1, if_neg z2] at q; exact q
  · rw [if_neg z1] at q; exact q
theorem st_159 (q : Q (srP v1 v2 s0 (srD (J 87 11))) I J) : vc_X11_sortOf_B159 Q v1 v2 s0 I J := by
  unfold vc_X11_sortOf_B159
  unfold srD at q
  rw [lg_eq0, lg_eq0, lg_eq0]
  refine ⟨fun z1 => ⟨fun z2 => ⟨fun z3 => st_209 ?_, fun z3 => st_209 ?_⟩, fun z2 => st_209 ?_⟩, fun z1 => st_209 ?_⟩
  · rw [if_neg z1, if_neg z2, if_neg z3] at q; exact q
  · rw [if_neg z1, if_neg z2, if_pos z3] at q; exact q
  · rw [if_neg z1, if_pos z2] at q; exact q
  · rw [if_pos z1] at q; exact q
theorem st_109 (q : Q (srP v1 s0 (srC (J 87 11)) (srD (J 87 11))) I J) : vc_X11_sortOf_B109 Q v1 s0 I J := by
  unfold vc_X11_sortOf_B109
  unfold srC at q
  rw [lg_eq0, lg_eq0, lg_eq0]
  refine ⟨fun z1 => ⟨fun z2 => ⟨fun z3 => st_159 ?_, fun z3 => st_159 ?_⟩, fun z2 => st_159 ?_⟩, fun z1 => st_159 ?_⟩
  · rw [if_neg z1, if_neg z2, if_neg z3] at q; exact q
  · rw [if_neg z1, if_neg z2, if_pos z3] at q; exact q
  · rw [if_neg z1, if_pos z2] at q; exact q
  · rw [if_pos z1] at q; exact q
theorem st_61 (q : Q (srP s0 (srB (J 87 11)) (srC (J 87 11)) (srD (J 87 11))) I J) : vc_X11_sortOf_B61 Q s0 I J := by
  unfold vc_X11_sortOf_B61
  unfold srB at q
  rw [lg_eq0, lg_eq0, lg_eq0]
  refine ⟨fun z1 => ⟨fun z2 => ⟨fun z3 => st_109 ?_, fun z3 => st_109 ?_⟩, fun z2 => st_109 ?_⟩, fun z1 => st_109 ?_⟩
  · rw [if_neg z1, if_neg z2, if_neg z3] at q; exact q
  · rw [if_neg z1, if_neg z2, if_pos z3] at q; exact q
  · rw [if_neg z1, if_pos z2] at q; exact q
  · rw [if_pos z1] at q; exact q
theorem m_sort (q : Q (srt (J 87 11)) I J) : vc_X11_sortOf I J Q := by
  unfold vc_X11_sortOf
  unfold srt srA at q
  rw [lg_eq0, lg_eq0, lg_eq0, lg_eq0]
  refine ⟨fun z1 => ⟨fun z2 => ⟨fun z3 => ⟨fun z4 => st_61 ?_, fun z4 => st_61 ?_⟩, fun z3 => st_61 ?_⟩, fun z2 => st_61 ?_⟩, fun z1 => st_61 ?_⟩
  · rw [if_neg z1, if_neg z2, if_neg z3, if_neg z4] at q; exact q
  · rw [if_neg z1, if_neg z2, if_neg z3, if_pos z4] at q; exact q
  · rw [if_neg z1, if_neg z2, if_pos z3] at q; exact q
  · rw [if_neg z1, if_pos z2] at q; exact q
  · rw [if_pos z1] at q; exact q
end Srt
def wOf (k : Nat) : Nat := [10, 11, 12, 0, 1, 2, 3, 4, 5, 6, 13, 7, 8, 9].getD k 13
theorem srt_k : ∀ k, k < 14 → k ≠ 10 → srt (lN (wn k)) = mwI (wOf k) := by decide +kernel
theorem wn_v : lN (wn 0) = 237307 ∧ lN (wn 1) = 453937 ∧ lN (wn 2) = 60115 ∧ lN (wn 3) = 38580340318 ∧ lN (wn 4) = 142105060841 ∧ lN (wn 5) = 45948915 ∧ lN (wn 6) = 66175 ∧ lN (wn 7) = 365260 ∧ lN (wn 8) = 276903499 ∧ lN (wn 9) = 796715911 ∧ lN (wn 11) = 60284 ∧ lN (wn 12) = 11263 ∧ lN (wn 13) = 7648766554 := by decide +kernel
theorem srt_w {T : Rw} {s : Nat} (hs : s ≤ T.1) : srt (tkv T s) = mwI (wrd T.2 s (tke T s - s)) := by
  have K : ∀ {k : Nat}, k < 14 → k ≠ 10 → (tkv T s = lN (wn k) ↔ spl T.2 s (tke T s - s) k = true) := fun hk hk0 => tkv_w hs hk hk0
  generalize tke T s - s = m at K
  have fin : ∀ {k w : Nat}, k < 14 → k ≠ 10 → spl T.2 s m k = true → wrd T.2 s m = w → wOf k = w → srt (tkv T s) = mwI (wrd T.2 s m) := fun hk hk0 z e1 e2 => by
    rw [(K hk hk0).mpr z, srt_k _ hk hk0, e1, e2]
  have no : ∀ {k : Nat}, k < 14 → k ≠ 10 → spl T.2 s m k = false → tkv T s ≠ lN (wn k) := fun hk hk0 z e => by
    rw [(K hk hk0).mp e] at z; cases z
  by_cases z0 : spl T.2 s m 0 = true
  · exact fin (k := 0) (by decide) (by decide) z0 (by simp [wrd, wOf, z0]) rfl
  rw [Bool.not_eq_true] at z0
  by_cases z1 : spl T.2 s m 1 = true
  · exact fin (k := 1) (by decide) (by decide) z1 (by simp [wrd, wOf, z0, z1]) rfl
  rw [Bool.not_eq_true] at z1
  by_cases z2 : spl T.2 s m 2 = true
  · exact fin (k := 2) (by decide) (by decide) z2 (by simp [wrd, wOf, z0, z1, z2]) rfl
  rw [Bool.not_eq_true] at z2
  by_cases z3 : spl T.2 s m 3 = true
  · exact fin (k := 3) (by decide) (by decide) z3 (by simp [wrd, wOf, z0, z1, z2, z3]) rfl
  rw [Bool.not_eq_true] at z3
  by_cases z4 : spl T.2 s m 4 = true
  · exact fin (k := 4) (by decide) (by decide) z4 (by simp [wrd, wOf, z0, z1, z2, z3, z4]) rfl
  rw [Bool.not_eq_true] at z4
  by_cases z5 : spl T.2 s m 5 = true
  · exact fin (k := 5) (by decide) (by decide) z5 (by simp [wrd, wOf, z0, z1, z2, z3, z4, z5]) rfl
  rw [Bool.not_eq_true] at z5
  by_cases z6 : spl T.2 s m 6 = true
  · exact fin (k := 6) (by decide) (by decide) z6 (by simp [wrd, wOf, z0, z1, z2, z3, z4, z5, z6]) rfl
  rw [Bool.not_eq_true] at z6
  by_cases z7 : spl T.2 s m 7 = true
  · exact fin (k := 7) (by decide) (by decide) z7 (by simp [wrd, wOf, z0, z1, z2, z3, z4, z5, z6, z7]) rfl
  rw [Bool.not_eq_true] at z7
  by_cases z8 : spl T.2 s m 8 = true
  · exact fin (k := 8) (by decide) (by decide) z8 (by simp [wrd, wOf, z0, z1, z2, z3, z4, z5, z6, z7, z8]) rfl
  rw [Bool.not_eq_true] at z8
  by_cases z9 : spl T.2 s m 9 = true
  · exact fin (k := 9) (by decide) (by decide) z9 (by simp [wrd, wOf, z0, z1, z2, z3, z4, z5, z6, z7, z8, z9]) rfl
  rw [Bool.not_eq_true] at z9
  by_cases z11 : spl T.2 s m 11 = true
  · exact fin (k := 11) (by decide) (by decide) z11 (by simp [wrd, wOf, z0, z1, z2, z3, z4, z5, z6, z7, z8, z9, z11]) rfl
  rw [Bool.not_eq_true] at z11
  by_cases z12 : spl T.2 s m 12 = true
  · exact fin (k := 12) (by decide) (by decide) z12 (by simp [wrd, wOf, z0, z1, z2, z3, z4, z5, z6, z7, z8, z9, z11, z12]) rfl
  rw [Bool.not_eq_true] at z12
  by_cases z13 : spl T.2 s m 13 = true
  · exact fin (k := 13) (by decide) (by decide) z13 (by simp [wrd, wOf, z0, z1, z2, z3, z4, z5, z6, z7, z8, z9, z11, z12, z13]) rfl
  rw [Bool.not_eq_true] at z13
  obtain ⟨e0, e1, e2, e3, e4, e5, e6, e7, e8, e9, e11, e12, e13⟩ := wn_v
  have n0 := no (by decide) (by decide) z0
  have n1 := no (by decide) (by decide) z1
  have n2 := no (by decide) (by decide) z2
  have n3 := no (by decide) (by decide) z3
  have n4 := no (by decide) (by decide) z4
  have n5 := no (by decide) (by decide) z5
  have n6 := no (by decide) (by decide) z6
  have n7 := no (by decide) (by decide) z7
  have n8 := no (by decide) (by decide) z8
  have n9 := no (by decide) (by decide) z9
  have n11 := no (by decide) (by decide) z11
  have n12 := no (by decide) (by decide) z12
  have n13 := no (by decide) (by decide) z13
  rw [e0] at n0
  rw [e1] at n1
  rw [e2] at n2
  rw [e3] at n3
  rw [e4] at n4
  rw [e5] at n5
  rw [e6] at n6
  rw [e7] at n7
  rw [e8] at n8
  rw [e9] at n9
  rw [e11] at n11
  rw [e12] at n12
  rw [e13] at n13
  rw [show wrd T.2 s m = 13 by simp [wrd, z0, z1, z2, z3, z4, z5, z6, z7, z8, z9, z11, z12, z13]]
  unfold srt srA srB srC srD
  rw [if_neg n3, if_neg n4, if_neg n5, if_neg n6, if_neg n7, if_neg n8, if_neg n9, if_neg n11, if_neg n12, if_neg n13, if_neg n0, if_neg n1, if_neg n2]
  decide
/-! what else a token's number tells -/
theorem lN_ne {n : Nat} (h : n < 2 ^ 63) {x : Int64} (hx : x.toInt < 0) : lN n ≠ x := fun z => by
  have := congrArg Int64.toInt z
  rw [pk_lT h] at this
  omega
theorem tkv_1 {T : Rw} {s : Nat} (hs : s ≤ T.1) : tkv T s = -1 ↔ s < T.1 ∧ dg (T.2 s) = true ∧ tke T s - s ≤ 2 := by
  by_cases hse : T.1 ≤ s
  · rw [tkv_e hse]
    exact ⟨fun z => absurd z (by decide), fun z => by omega⟩
  have hs1 : s < T.1 := by omega
  cases h1 : sm (T.2 s) with
  | true =>
    rw [tkv_s hs1 h1, sm_dg h1]
    refine ⟨fun z => ?_, fun z => absurd z.2.1 (by decide)⟩
    split at z
    · exact absurd z (lN_ne (vl_63 ‹_› (tke_sm hs1 h1)) (by decide))
    · exact absurd z (by decide)
  | false =>
    cases h2 : dg (T.2 s) with
    | true =>
      rw [tkv_d hs1 h2 h1]
      by_cases h : tke T s - s ≤ 2
      · rw [if_pos h]; exact ⟨fun _ => ⟨hs1, rfl, h⟩, fun _ => rfl⟩
      · rw [if_neg h]; exact ⟨fun z => absurd z (by decide), fun z => absurd z.2.2 h⟩
    | false =>
      rw [tkv_o hs1 h2 h1]
      refine ⟨fun z => ?_, fun z => absurd z.2.1 (by decide)⟩
      split at z <;> exact absurd z (by decide)
theorem tkv_2 {T : Rw} {s : Nat} (hs : s ≤ T.1) : tkv T s = -2 ↔ s = T.1 := by
  by_cases hse : T.1 ≤ s
  · rw [tkv_e hse]
    exact ⟨fun z => by omega, fun z => rfl⟩
  have hs1 : s < T.1 := by omega
  refine ⟨fun z => ?_, fun z => by omega⟩
  exfalso
  cases h1 : sm (T.2 s) with
  | true =>
    rw [tkv_s hs1 h1] at z
    split at z
    · exact absurd z (lN_ne (vl_63 ‹_› (tke_sm hs1 h1)) (by decide))
    · exact absurd z (by decide)
  | false =>
    cases h2 : dg (T.2 s) with
    | true =>
      rw [tkv_d hs1 h2 h1] at z
      split at z <;> exact absurd z (by decide)
    | false =>
      rw [tkv_o hs1 h2 h1] at z
      split at z <;> exact absurd z (by decide)
theorem tkv_3 {T : Rw} {s : Nat} (hs : s ≤ T.1) : tkv T s = -3 ↔ s < T.1 ∧ T.2 s = 59 := by
  by_cases hse : T.1 ≤ s
  · rw [tkv_e hse]
    exact ⟨fun z => absurd z (by decide), fun z => by omega⟩
  have hs1 : s < T.1 := by omega
  cases h1 : sm (T.2 s) with
  | true =>
    have := sm_i.mp h1
    rw [tkv_s hs1 h1]
    refine ⟨fun z => ?_, fun z => by omega⟩
    split at z
    · exact absurd z (lN_ne (vl_63 ‹_› (tke_sm hs1 h1)) (by decide))
    · exact absurd z (by decide)
  | false =>
    cases h2 : dg (T.2 s) with
    | true =>
      have := dg_i.mp h2
      rw [tkv_d hs1 h2 h1]
      refine ⟨fun z => ?_, fun z => by omega⟩
      split at z <;> exact absurd z (by decide)
    | false =>
      rw [tkv_o hs1 h2 h1]
      by_cases h : T.2 s = 59
      · rw [if_pos h]; exact ⟨fun _ => ⟨hs1, h⟩, fun _ => rfl⟩
      · rw [if_neg h]; exact ⟨fun z => absurd z (by decide), fun z => absurd z.2 h⟩
/-- the number that stands ahead, if it is one of these -/
def numR (T : Rw) (e lo hx : Nat) : Option Nat := if skp T e < T.1 ∧ dg (T.2 (skp T e)) = true ∧ nx T e - skp T e ≤ 2 ∧ lo ≤ nv T.2 (skp T e) (nx T e - skp T e) ∧ nv T.2 (skp T e) (nx T e - skp T e) < hx then some (nv T.2 (skp T e) (nx T e - skp T e)) else none
theorem numR_t {T : Rw} {e lo hx : Nat} (h1 : skp T e < T.1) (h2 : dg (T.2 (skp T e)) = true) (h3 : nx T e - skp T e ≤ 2) (h4 : lo ≤ nv T.2 (skp T e) (nx T e - skp T e)) (h5 : nv T.2 (skp T e) (nx T e - skp T e) < hx) : numR T e lo hx = some (nv T.2 (skp T e) (nx T e - skp T e)) := if_pos ⟨h1, h2, h3, h4, h5⟩
theorem numR_f {T : Rw} {e lo hx : Nat} (h : ¬ (skp T e < T.1 ∧ dg (T.2 (skp T e)) = true ∧ nx T e - skp T e ≤ 2 ∧ lo ≤ nv T.2 (skp T e) (nx T e - skp T e) ∧ nv T.2 (skp T e) (nx T e - skp T e) < hx)) : numR T e lo hx = none := if_neg h
theorem numR_s {T : Rw} {e lo hx v : Nat} (h : numR T e lo hx = some v) : lo ≤ v ∧ v < hx := by
  unfold numR at h
  split at h
  · rename_i g
    cases h
    exact ⟨g.2.2.2.1, g.2.2.2.2⟩
  · cases h
/-- the second digit of two -/
theorem dg_two {T : Rw} {s : Nat} (h : s < T.1) (h1 : dg (T.2 s) = true) (h0 : sm (T.2 s) = false) (h2 : tke T s - s = 2) : dg (T.2 (s + 1)) = true := by
  rw [tke_d h h1 h0] at h2
  exact runF_all dg T.2 (T.1 - (s + 1)) (s + 1) (s + 1) (Nat.le_refl _) (by omega)
theorem dg_sm {v : Nat} (h : dg v = true) : sm v = false := sm_f (fun z => by have := dg_i.mp h; omega)
theorem nv_99 {T : Rw} {s : Nat} (h : s < T.1) (h1 : dg (T.2 s) = true) (h2 : tke T s - s ≤ 2) : nv T.2 s (tke T s - s) ≤ 99 := by
  have a := dg_i.mp h1
  unfold nv
  split
  · omega
  · split
    · omega
    · have b := dg_i.mp (dg_two h h1 (dg_sm h1) (by omega))
      omega
theorem hx_lt {hx v : Nat} (h1 : hx ≤ 100) (h2 : v ≤ 255) : nI hx - 1 < nI v ↔ hx ≤ v := by
  rw [Int32.lt_iff_toInt_lt, show (1 : Int32) = nI 1 from rfl, pk_sub_toInt (by omega) (by omega), nI_toInt (by omega)]
  omega
theorem c_wi {v lo hx : Nat} {x p2 p3 : Int32} {I : MI} {J : MJ} {Q : Int32 → MI → MJ → Prop} (hv : v ≤ 255) (hlo : lo ≤ 100) (hh : hx ≤ 100) (e0 : x = nI v) (e2 : p2 = nI lo) (e3 : p3 = nI hx - 1) (q1 : lo ≤ v → v < hx → Q 1 I J) (q0 : ¬ (lo ≤ v ∧ v < hx) → Q 0 I J) : vc_X10_within x p2 p3 I J Q := by
  subst e0 e2 e3
  refine pk_lt v lo (fun z => q0 (by omega)) (fun z => ?_)
  have e := hx_lt (hx := hx) (v := v) hh hv
  exact ⟨fun y => q0 (by have := e.mp y; omega), fun y => q1 z (by have : ¬ hx ≤ v := fun t => y (e.mpr t); omega)⟩
theorem m_wi {v lo hx : Nat} {x p2 p3 : Int32} {I : MI} {J : MJ} {Q : Int32 → MI → MJ → Prop} (hv : v ≤ 255) (hlo : lo ≤ 100) (hh : hx ≤ 100) (e0 : x = nI v) (e2 : p2 = nI lo) (e3 : p3 = nI hx - 1) (q1 : lo ≤ v → v < hx → Q 1 I J) (q0 : ¬ (lo ≤ v ∧ v < hx) → Q 0 I J) : vc_X11_in x p2 p3 I J Q := c_wi hv hlo hh e0 e2 e3 q1 q0
