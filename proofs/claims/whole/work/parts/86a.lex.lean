/-! ===== the text's tokens: where they begin and end ===== -/
def sm (v : Nat) : Bool := decide (97 ≤ v ∧ v ≤ 122)
def dg (v : Nat) : Bool := decide (48 ≤ v ∧ v ≤ 57)
def sp (v : Nat) : Bool := decide (v = 32)
theorem sm_i {v : Nat} : sm v = true ↔ 97 ≤ v ∧ v ≤ 122 := by unfold sm; exact decide_eq_true_iff
theorem dg_i {v : Nat} : dg v = true ↔ 48 ≤ v ∧ v ≤ 57 := by unfold dg; exact decide_eq_true_iff
theorem sp_i {v : Nat} : sp v = true ↔ v = 32 := by unfold sp; exact decide_eq_true_iff
theorem sm_f {v : Nat} (h : ¬ (97 ≤ v ∧ v ≤ 122)) : sm v = false := by unfold sm; exact decide_eq_false h
theorem dg_f {v : Nat} (h : ¬ (48 ≤ v ∧ v ≤ 57)) : dg v = false := by unfold dg; exact decide_eq_false h
theorem sp_f {v : Nat} (h : ¬ v = 32) : sp v = false := by unfold sp; exact decide_eq_false h
theorem sm_dg {v : Nat} (h : sm v = true) : dg v = false := dg_f (fun z => by have := sm_i.mp h; omega)
/-- from i on, d letters at most, as long as they are of a kind -/
def runF (p : Nat → Bool) (f : Nat → Nat) : Nat → Nat → Nat
  | 0, i => i
  | d + 1, i => if p (f i) then runF p f d (i + 1) else i
theorem runF_le (p : Nat → Bool) (f : Nat → Nat) : ∀ d i, i ≤ runF p f d i ∧ runF p f d i ≤ i + d
  | 0, i => ⟨Nat.le_refl _, Nat.le_refl _⟩
  | d + 1, i => by
    show i ≤ (if p (f i) then runF p f d (i + 1) else i) ∧ (if p (f i) then runF p f d (i + 1) else i) ≤ i + (d + 1)
    have := runF_le p f d (i + 1)
    split <;> omega
theorem runF_all (p : Nat → Bool) (f : Nat → Nat) : ∀ d i j, i ≤ j → j < runF p f d i → p (f j) = true
  | 0, i, j, h1, h2 => by
    have h2 : j < i := h2
    omega
  | d + 1, i, j, h1, h2 => by
    have h2 : j < (if p (f i) then runF p f d (i + 1) else i) := h2
    by_cases h : p (f i) = true
    · rw [if_pos h] at h2
      by_cases e : j = i
      · rw [e]; exact h
      · exact runF_all p f d (i + 1) j (by omega) h2
    · rw [if_neg h] at h2; omega
theorem runF_t {p : Nat → Bool} {f : Nat → Nat} {d i : Nat} (h : p (f i) = true) : runF p f (d + 1) i = runF p f d (i + 1) := if_pos h
theorem runF_f {p : Nat → Bool} {f : Nat → Nat} {d i : Nat} (h : p (f i) = false) : runF p f (d + 1) i = i := if_neg (by rw [h]; decide)
def skp (T : Rw) (e : Nat) : Nat := runF sp T.2 (T.1 - e) e
def tke (T : Rw) (s : Nat) : Nat := if T.1 ≤ s then s else if sm (T.2 s) then runF sm T.2 (T.1 - (s + 1)) (s + 1) else if dg (T.2 s) then runF dg T.2 (T.1 - (s + 1)) (s + 1) else s + 1
/-- the end of the token ahead of e -/
def nx (T : Rw) (e : Nat) : Nat := tke T (skp T e)
theorem skp_le (T : Rw) {e : Nat} (h : e ≤ T.1) : e ≤ skp T e ∧ skp T e ≤ T.1 := by
  have := runF_le sp T.2 (T.1 - e) e
  unfold skp; omega
theorem tke_e {T : Rw} {s : Nat} (h : T.1 ≤ s) : tke T s = s := if_pos h
theorem tke_s {T : Rw} {s : Nat} (h : s < T.1) (h1 : sm (T.2 s) = true) : tke T s = runF sm T.2 (T.1 - (s + 1)) (s + 1) := by unfold tke; rw [if_neg (by omega), if_pos h1]
theorem tke_d {T : Rw} {s : Nat} (h : s < T.1) (h1 : dg (T.2 s) = true) (h0 : sm (T.2 s) = false) : tke T s = runF dg T.2 (T.1 - (s + 1)) (s + 1) := by unfold tke; rw [if_neg (by omega), if_neg (by rw [h0]; decide), if_pos h1]
theorem tke_o {T : Rw} {s : Nat} (h : s < T.1) (h1 : dg (T.2 s) = false) (h0 : sm (T.2 s) = false) : tke T s = s + 1 := by unfold tke; rw [if_neg (by omega), if_neg (by rw [h0]; decide), if_neg (by rw [h1]; decide)]
theorem tke_le (T : Rw) {s : Nat} (h : s ≤ T.1) : s ≤ tke T s ∧ tke T s ≤ T.1 ∧ (s < T.1 → s < tke T s) := by
  by_cases h1 : T.1 ≤ s
  · rw [tke_e h1]; omega
  · cases h2 : sm (T.2 s) with
    | true =>
      rw [tke_s (by omega) h2]
      have := runF_le sm T.2 (T.1 - (s + 1)) (s + 1)
      omega
    | false =>
      cases h3 : dg (T.2 s) with
      | true =>
        rw [tke_d (by omega) h3 h2]
        have := runF_le dg T.2 (T.1 - (s + 1)) (s + 1)
        omega
      | false => rw [tke_o (by omega) h3 h2]; omega
theorem nx_le (T : Rw) {e : Nat} (h : e ≤ T.1) : e ≤ nx T e ∧ nx T e ≤ T.1 := by
  have h1 := skp_le T h
  have h2 := tke_le T h1.2
  unfold nx; omega
/-! ===== the class's next token ===== -/
section Lex
variable {I : MI} {J : MJ} {v : Nat}
theorem c_small {Q : Int32 → MI → MJ → Prop} (hv : v ≤ 255) (q1 : sm v = true → Q 1 I J) (q0 : sm v = false → Q 0 I J) : vc_X6_isSmall (nI v) I J Q :=
  pk_lt v 97 (fun z => q0 (sm_f (by omega))) (fun z => pk_lt 122 v (fun y => q0 (sm_f (by omega))) (fun y => q1 (sm_i.mpr (by omega))))
theorem c_digit {Q : Int32 → MI → MJ → Prop} (hv : v ≤ 255) (q1 : dg v = true → Q 1 I J) (q0 : dg v = false → Q 0 I J) : vc_X6_isDigit (nI v) I J Q :=
  pk_lt v 48 (fun z => q0 (dg_f (by omega))) (fun z => pk_lt 57 v (fun y => q0 (dg_f (by omega))) (fun y => q1 (dg_i.mpr (by omega))))
theorem m_small {Q : Int32 → MI → MJ → Prop} (hv : v ≤ 255) (q1 : sm v = true → Q 1 I J) (q0 : sm v = false → Q 0 I J) : vc_X11_in (nI v) 97 122 I J Q := c_small hv q1 q0
theorem m_digit {Q : Int32 → MI → MJ → Prop} (hv : v ≤ 255) (q1 : dg v = true → Q 1 I J) (q0 : dg v = false → Q 0 I J) : vc_X11_in (nI v) 48 57 I J Q := c_digit hv q1 q0
end Lex
def CX (I I' : MI) : Prop := (∀ j, j ≠ 1 → I' j = I j) ∧ ∀ m, m ≠ 5 → m ≠ 6 → I' 1 m = I 1 m
theorem CX.rf {I : MI} : CX I I := ⟨fun _ _ => rfl, fun _ _ _ => rfl⟩
theorem CX.w5 {I I' : MI} {x : Int32} (h : CX I I') : CX I (wI I' 1 5 x) := ⟨fun j hj => (wI_row hj).trans (h.1 j hj), fun m h5 h6 => (wI_col h5).trans (h.2 m h5 h6)⟩
theorem CX.w6 {I I' : MI} {x : Int32} (h : CX I I') : CX I (wI I' 1 6 x) := ⟨fun j hj => (wI_row hj).trans (h.1 j hj), fun m h5 h6 => (wI_col h6).trans (h.2 m h5 h6)⟩
theorem c_nxt {T : Rw} {I : MI} {J : MJ} {e : Nat} (hT : rRw T (I 1 1) (I 2)) (wT : wfR T 160 0 255) (he : e ≤ T.1) (h6 : I 1 6 = nI e) {Q : MI → MJ → Prop} (q : ∀ I' : MI, CX I I' → I' 1 5 = nI (skp T e) → I' 1 6 = nI (nx T e) → Q I' J) : vc_X6_nextToken I J Q := by
  have n160 := wT.1
  have len : ∀ {I1 : MI}, CX I I1 → I1 1 1 = nI T.1 := fun k => (k.2 1 (by decide) (by decide)).trans hT.1
  have let_ : ∀ {I1 : MI} {x : Int32} {i : Nat}, CX I I1 → x = nI i → i < T.1 → I1 2 (Int32.toNatClampNeg x) = nI (T.2 i) := fun {I1 x i} k hx hi => by
    rw [hx, nI_clamp (by omega), k.1 2 (by decide)]; exact hT.2 i hi
  have v255 : ∀ {i : Nat}, i < T.1 → T.2 i ≤ 255 := fun hi => (wT.2 _ hi).2
  obtain ⟨s1, s2⟩ := skp_le T he
  have hnx : nx T e = tke T (skp T e) := rfl
  generalize hs : skp T e = s at s1 s2 q hnx
  -- the letters of a word
  have lw : s < T.1 → sm (T.2 s) = true → ∀ d i (I1 : MI), i + d = T.1 → CX I I1 → I1 1 5 = nI s → I1 1 6 = nI i → runF sm T.2 d i = nx T e → vc_X6_nextToken_L102 Q (d + 1) 1 0 I1 J := by
    intro hs1 hs2 d
    induction d with
    | zero =>
      intro i I1 hi k h5 h6 hr
      show vc_X6_nextToken_L102s Q (vc_X6_nextToken_L102 Q 0) 1 0 I1 J
      unfold vc_X6_nextToken_L102s
      exact pk_le T.1 i (fun _ => q I1 k h5 (h6.trans (congrArg nI hr))) (fun z => by omega) (len k) h6
    | succ d ih =>
      intro i I1 hi k h5 h6 hr
      show vc_X6_nextToken_L102s Q (vc_X6_nextToken_L102 Q (d + 1)) 1 0 I1 J
      unfold vc_X6_nextToken_L102s
      refine pk_le T.1 i (fun z => by omega) (fun _ => b1' ⟨pk_in i 160 (by omega) h6, ?_⟩) (len k) h6
      rw [let_ k h6 (by omega)]
      refine c_small (v255 (by omega)) (fun z => b1 ?_) (fun z => b0 (b0' ?_))
      · exact nm_r (e' := wI I1 1 6 (nI (i + 1))) (by rw [h6, nI_1]) (ih (i + 1) _ (by omega) k.w6 ((wI_col (by decide)).trans h5) (wI_same _ _ _ _) (by rw [← hr, runF_t z]))
      · rw [runF_f z] at hr
        exact q I1 k h5 (h6.trans (congrArg nI hr))
  have ld : ∀ d i (I1 : MI), i + d = T.1 → CX I I1 → I1 1 5 = nI s → I1 1 6 = nI i → runF dg T.2 d i = nx T e → vc_X6_nextToken_L102 Q (d + 1) 0 1 I1 J := by
    intro d
    induction d with
    | zero =>
      intro i I1 hi k h5 h6 hr
      show vc_X6_nextToken_L102s Q (vc_X6_nextToken_L102 Q 0) 0 1 I1 J
      unfold vc_X6_nextToken_L102s
      exact pk_le T.1 i (fun _ => q I1 k h5 (h6.trans (congrArg nI hr))) (fun z => by omega) (len k) h6
    | succ d ih =>
      intro i I1 hi k h5 h6 hr
      show vc_X6_nextToken_L102s Q (vc_X6_nextToken_L102 Q (d + 1)) 0 1 I1 J
      unfold vc_X6_nextToken_L102s
      refine pk_le T.1 i (fun z => by omega) (fun _ => b0' (b1' ⟨pk_in i 160 (by omega) h6, ?_⟩)) (len k) h6
      rw [let_ k h6 (by omega)]
      refine c_digit (v255 (by omega)) (fun z => b1' ?_) (fun z => b0' ?_)
      · exact nm_r (e' := wI I1 1 6 (nI (i + 1))) (by rw [h6, nI_1]) (ih (i + 1) _ (by omega) k.w6 ((wI_col (by decide)).trans h5) (wI_same _ _ _ _) (by rw [← hr, runF_t z]))
      · rw [runF_f z] at hr
        exact q I1 k h5 (h6.trans (congrArg nI hr))
  have tok : ∀ (I1 : MI), CX I I1 → I1 1 5 = nI s → vc_X6_nextToken_B46 Q I1 J := by
    intro I1 k h5
    refine nm_r (e' := wI I1 1 6 (nI s)) (by rw [h5]) ?_
    have k2 : CX I (wI I1 1 6 (nI s)) := k.w6
    have h5' : wI I1 1 6 (nI s) 1 5 = nI s := (wI_col (by decide)).trans h5
    have h6' : wI I1 1 6 (nI s) 1 6 = nI s := wI_same _ _ _ _
    generalize wI I1 1 6 (nI s) = I2 at k2 h5' h6' ⊢
    refine pk_lt s T.1 (fun z => ⟨pk_in s 160 (by omega) h5', ?_⟩) (fun z => q I2 k2 h5' (by rw [h6', hnx, tke_e z])) h6' (len k2)
    have e3 : wI I2 1 6 (nI (s + 1)) = wI I2 1 6 (I2 1 6 + 1) := by rw [h6', nI_1]
    have k3 : CX I (wI I2 1 6 (nI (s + 1))) := k2.w6
    have h53 : wI I2 1 6 (nI (s + 1)) 1 5 = nI s := (wI_col (by decide)).trans h5'
    have h63 : wI I2 1 6 (nI (s + 1)) 1 6 = nI (s + 1) := wI_same _ _ _ _
    rw [let_ k2 h5' z]
    refine c_small (v255 z) (fun y => ⟨pk_in s 160 (by omega) h5', ?_⟩) (fun y => ⟨pk_in s 160 (by omega) h5', ?_⟩)
    · rw [let_ k2 h5' z]
      refine c_digit (v255 z) (fun x => absurd x (by rw [sm_dg y]; decide)) (fun x => nm_r e3.symm ⟨T.1 - (s + 1) + 1, lw z y _ (s + 1) _ (by omega) k3 h53 h63 (by rw [hnx, tke_s z y])⟩)
    · rw [let_ k2 h5' z]
      refine c_digit (v255 z) (fun x => nm_r e3.symm ⟨T.1 - (s + 1) + 1, ld _ (s + 1) _ (by omega) k3 h53 h63 (by rw [hnx, tke_d z x y])⟩) (fun x => nm_r e3.symm ⟨1, ?_⟩)
      have hn : I2 = I2 := rfl
      show vc_X6_nextToken_L102s Q (vc_X6_nextToken_L102 Q 0) 0 0 _ J
      unfold vc_X6_nextToken_L102s
      have qq := q _ k3 h53 (by rw [h63, hnx, tke_o z x y])
      exact ⟨fun _ => qq, fun _ => b0' (b0' qq)⟩
  have sk : ∀ d i (I1 : MI), i + d = T.1 → CX I I1 → I1 1 5 = nI i → runF sp T.2 d i = s → vc_X6_nextToken_L8 Q (d + 1) I1 J := by
    intro d
    induction d with
    | zero =>
      intro i I1 hi k h5 hr
      show vc_X6_nextToken_L8s Q (vc_X6_nextToken_L8 Q 0) I1 J
      unfold vc_X6_nextToken_L8s
      exact pk_le T.1 i (fun _ => tok I1 k (h5.trans (congrArg nI hr))) (fun z => by omega) (len k) h5
    | succ d ih =>
      intro i I1 hi k h5 hr
      show vc_X6_nextToken_L8s Q (vc_X6_nextToken_L8 Q (d + 1)) I1 J
      unfold vc_X6_nextToken_L8s
      refine pk_le T.1 i (fun z => by omega) (fun _ => ⟨pk_in i 160 (by omega) h5, ?_⟩) (len k) h5
      rw [let_ k h5 (by omega)]
      have := v255 (i := i) (by omega)
      rw [show (32 : Int32) = nI 32 from rfl, nI_eq (by omega) (by omega)]
      refine ⟨fun z => ?_, fun z => ?_⟩
      · rw [runF_f (sp_f z)] at hr
        exact tok I1 k (h5.trans (congrArg nI hr))
      · exact nm_r (e' := wI I1 1 5 (nI (i + 1))) (by rw [h5, nI_1]) (ih (i + 1) _ (by omega) k.w5 (wI_same _ _ _ _) (by rw [← hr, runF_t (sp_i.mpr z)]))
  exact nm_r (e' := wI I 1 5 (nI e)) (by rw [h6]) ⟨T.1 - e + 1, sk _ e _ (by omega) CX.rf.w5 (wI_same _ _ _ _) hs⟩
