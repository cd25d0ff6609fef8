/-! ===== the reference's next token ===== -/
theorem wJ_sm (J : MJ) (i k : Nat) (v : Int64) : wJ J i k v i k = v := by rw [wJ_ap, if_pos rfl, if_pos rfl]
theorem wJ_cl {J : MJ} {i k : Nat} {v : Int64} {m : Nat} (h : m ≠ k) : wJ J i k v i m = J i m := by rw [wJ_ap, if_pos rfl, if_neg h]
/-- a word as a number -/
def vl (f : Nat → Nat) (s : Nat) : Nat → Nat
  | 0 => 0
  | m + 1 => 27 * vl f s m + (f (s + m) - 96)
/-- a number's first two digits -/
def nv (f : Nat → Nat) (s m : Nat) : Nat := if m = 0 then 0 else if m = 1 then f s - 48 else 10 * (f s - 48) + (f (s + 1) - 48)
def tkv (T : Rw) (s : Nat) : Int64 := if T.1 ≤ s then -2 else if sm (T.2 s) then (if tke T s - s ≤ 9 then lN (vl T.2 s (tke T s - s)) else -4) else if dg (T.2 s) then (if tke T s - s ≤ 2 then -1 else -4) else if T.2 s = 59 then -3 else -4
theorem tkv_e {T : Rw} {s : Nat} (h : T.1 ≤ s) : tkv T s = -2 := if_pos h
theorem tkv_s {T : Rw} {s : Nat} (h : s < T.1) (h1 : sm (T.2 s) = true) : tkv T s = if tke T s - s ≤ 9 then lN (vl T.2 s (tke T s - s)) else -4 := by unfold tkv; rw [if_neg (by omega), if_pos h1]
theorem tkv_d {T : Rw} {s : Nat} (h : s < T.1) (h1 : dg (T.2 s) = true) (h0 : sm (T.2 s) = false) : tkv T s = if tke T s - s ≤ 2 then -1 else -4 := by unfold tkv; rw [if_neg (by omega), if_neg (by rw [h0]; decide), if_pos h1]
theorem tkv_o {T : Rw} {s : Nat} (h : s < T.1) (h1 : dg (T.2 s) = false) (h0 : sm (T.2 s) = false) : tkv T s = if T.2 s = 59 then -3 else -4 := by unfold tkv; rw [if_neg (by omega), if_neg (by rw [h0]; decide), if_neg (by rw [h1]; decide)]
theorem vl_st {v c : Nat} (hc : 97 ≤ c) (hc2 : c ≤ 255) : ((27 : Int64) * lN v + (nI c).toInt64) - 96 = lN (27 * v + (c - 96)) := by
  rw [nI_l (by omega), show (27 : Int64) = lN 27 from rfl, lN_mul, lN_add, show (96 : Int64) = lN 96 from rfl, lN_sub (by omega), show 27 * v + c - 96 = 27 * v + (c - 96) by omega]
theorem nv_st {v c : Nat} (hc : 48 ≤ c) : ((10 : Int32) * nI v + nI c) - 48 = nI (10 * v + (c - 48)) := by
  rw [show (10 : Int32) = nI 10 from rfl, pk_mul, nI_add, show (48 : Int32) = nI 48 from rfl, pk_sub (by omega), show 10 * v + c - 48 = 10 * v + (c - 48) by omega]
def MX (I I' : MI) : Prop := (∀ j, j ≠ 87 → I' j = I j) ∧ ∀ m, m ≠ 9 → m ≠ 10 → m ≠ 12 → m ≠ 13 → I' 87 m = I 87 m
def JX (J J' : MJ) : Prop := (∀ j, j ≠ 87 → J' j = J j) ∧ ∀ m, m ≠ 11 → J' 87 m = J 87 m
theorem MX.rf {I : MI} : MX I I := ⟨fun _ _ => rfl, fun _ _ _ _ _ => rfl⟩
theorem JX.rf {J : MJ} : JX J J := ⟨fun _ _ => rfl, fun _ _ => rfl⟩
theorem MX.w {I I' : MI} {x : Int32} (h : MX I I') (k : Nat) (hk : k = 9 ∨ k = 10 ∨ k = 12 ∨ k = 13) : MX I (wI I' 87 k x) := ⟨fun j hj => (wI_row hj).trans (h.1 j hj), fun m h1 h2 h3 h4 => (wI_col (by omega)).trans (h.2 m h1 h2 h3 h4)⟩
theorem JX.w {J J' : MJ} {x : Int64} (h : JX J J') : JX J (wJ J' 87 11 x) := ⟨fun j hj => (wJ_row hj).trans (h.1 j hj), fun m h1 => (wJ_cl h1).trans (h.2 m h1)⟩
theorem m_nxt {T : Rw} {I : MI} {J : MJ} {e : Nat} (hT : rRw T (I 87 7) (I 91)) (wT : wfR T 160 0 255) (he : e ≤ T.1) (h9 : I 87 9 = nI e) {Q : MI → MJ → Prop} (q : ∀ (I' : MI) (J' : MJ), MX I I' → JX J J' → I' 87 10 = nI (skp T e) → I' 87 9 = nI (nx T e) → J' 87 11 = tkv T (skp T e) → (skp T e < T.1 → dg (T.2 (skp T e)) = true → I' 87 13 = nI (nv T.2 (skp T e) (nx T e - skp T e))) → Q I' J') : vc_X11_nextToken I J Q := by
  have n160 := wT.1
  have len : ∀ {I1 : MI}, MX I I1 → I1 87 7 = nI T.1 := fun k => (k.2 7 (by decide) (by decide) (by decide) (by decide)).trans hT.1
  have let_ : ∀ {I1 : MI} {x : Int32} {i : Nat}, MX I I1 → x = nI i → i < T.1 → I1 91 (Int32.toNatClampNeg x) = nI (T.2 i) := fun {I1 x i} k hx hi => by
    rw [hx, nI_clamp (by omega), k.1 91 (by decide)]; exact hT.2 i hi
  have v255 : ∀ {i : Nat}, i < T.1 → T.2 i ≤ 255 := fun hi => (wT.2 _ hi).2
  obtain ⟨s1, s2⟩ := skp_le T he
  have hnx : nx T e = tke T (skp T e) := rfl
  generalize hs : skp T e = s at s1 s2 q hnx
  have hle := tke_le T s2
  -- the letters of a word
  have ex : s < T.1 → sm (T.2 s) = true → ∀ i (I1 : MI) (J1 : MJ), s ≤ i → i ≤ T.1 → MX I I1 → JX J J1 → I1 87 10 = nI s → I1 87 9 = nI i → (J1 87 11 = if i - s ≤ 9 then lN (vl T.2 s (i - s)) else -4) → i = nx T e → vc_X11_nextToken_B191 Q I1 J1 := by
    intro z y i I1 J1 hi hi2 k kj h10 h9 h11 hr
    unfold vc_X11_nextToken_B191
    have ht : tkv T s = if i - s ≤ 9 then lN (vl T.2 s (i - s)) else -4 := by rw [tkv_s z y, ← hnx, ← hr]
    have nd : s < T.1 → dg (T.2 s) = true → I1 87 13 = nI (nv T.2 s (nx T e - s)) := fun _ x => by rw [sm_dg y] at x; cases x
    rw [h9, h10, pk_sub hi]
    refine pk_le (i - s) 9 (fun g => nm_e (q I1 _ k kj.w h10 (by rw [h9, hr]) ?_ nd)) (fun g => nm_e (q I1 _ k kj.w h10 (by rw [h9, hr]) ?_ nd))
    · rw [wJ_sm, ht, h11]
    · rw [wJ_sm, ht, if_neg (by omega)]
  have lw : s < T.1 → sm (T.2 s) = true → ∀ d i (I1 : MI) (J1 : MJ), i + d = T.1 → s ≤ i → MX I I1 → JX J J1 → I1 87 10 = nI s → I1 87 9 = nI i → (J1 87 11 = if i - s ≤ 9 then lN (vl T.2 s (i - s)) else -4) → runF sm T.2 d i = nx T e → vc_X11_nextToken_L101 Q (d + 1) I1 J1 := by
    intro z y d
    induction d with
    | zero =>
      intro i I1 J1 hi hsi k kj h10 h9 h11 hr
      show vc_X11_nextToken_L101s Q (vc_X11_nextToken_L101 Q 0) I1 J1
      unfold vc_X11_nextToken_L101s
      exact pk_le T.1 i (fun _ => ex z y i I1 J1 hsi (by omega) k kj h10 h9 h11 hr) (fun z => by omega) (len k) h9
    | succ d ih =>
      intro i I1 J1 hi hsi k kj h10 h9 h11 hr
      show vc_X11_nextToken_L101s Q (vc_X11_nextToken_L101 Q (d + 1)) I1 J1
      unfold vc_X11_nextToken_L101s
      refine pk_le T.1 i (fun z => by omega) (fun _ => ⟨pk_in i 160 (by omega) h9, ?_⟩) (len k) h9
      rw [let_ k h9 (by omega)]
      refine m_small (v255 (by omega)) (fun x => b1' ?_) (fun x => b0' ?_)
      · have hc := sm_i.mp x
        have e9 : wI I1 87 9 (I1 87 9 + 1) = wI I1 87 9 (nI (i + 1)) := by rw [h9, nI_1]
        rw [let_ k h9 (by omega)]
        rw [h9, h10, pk_sub hsi]
        refine pk_le 9 (i - s) (fun g => nm_e (nm_r e9 ?_)) (fun g => ⟨pk_in i 160 (by omega), nm_e (nm_r e9 ?_)⟩)
        · exact ih (i + 1) _ _ (by omega) (by omega) (k.w 9 (by omega)) kj.w ((wI_col (by decide)).trans h10) (wI_same _ _ _ _) (by rw [wJ_sm, if_neg (by omega)]) (by rw [← hr, runF_t x])
        · refine ih (i + 1) _ _ (by omega) (by omega) (k.w 9 (by omega)) kj.w ((wI_col (by decide)).trans h10) (wI_same _ _ _ _) ?_ (by rw [← hr, runF_t x])
          rw [wJ_sm, h11, if_pos (by omega), if_pos (by omega), vl_st (by omega) (by omega), show i + 1 - s = (i - s) + 1 by omega]
          show _ = lN (27 * vl T.2 s (i - s) + (T.2 (s + (i - s)) - 96))
          rw [show s + (i - s) = i by omega]
      · rw [runF_f x] at hr
        exact ex z y i I1 J1 hsi (by omega) k kj h10 h9 h11 hr
  -- the digits of a number
  have dx : s < T.1 → sm (T.2 s) = false → dg (T.2 s) = true → ∀ i (I1 : MI) (J1 : MJ), s ≤ i → i ≤ T.1 → MX I I1 → JX J J1 → I1 87 10 = nI s → I1 87 9 = nI i → I1 87 12 = nI (i - s) → I1 87 13 = nI (nv T.2 s (i - s)) → i = nx T e → vc_X11_nextToken_B333 Q I1 J1 := by
    intro z y0 y i I1 J1 hi hi2 k kj h10 h9 h12 h13 hr
    unfold vc_X11_nextToken_B333
    have ht : tkv T s = if i - s ≤ 2 then -1 else -4 := by rw [tkv_d z y y0, ← hnx, ← hr]
    refine pk_le (i - s) 2 (fun g => nm_e (q I1 _ k kj.w h10 (by rw [h9, hr]) ?_ (fun _ _ => by rw [h13, hr]))) (fun g => nm_e (q I1 _ k kj.w h10 (by rw [h9, hr]) ?_ (fun _ _ => by rw [h13, hr]))) h12
    · rw [wJ_sm, ht, if_pos g]
    · rw [wJ_sm, ht, if_neg (by omega)]
  have ld : s < T.1 → sm (T.2 s) = false → dg (T.2 s) = true → ∀ d i (I1 : MI) (J1 : MJ), i + d = T.1 → s ≤ i → MX I I1 → JX J J1 → I1 87 10 = nI s → I1 87 9 = nI i → I1 87 12 = nI (i - s) → I1 87 13 = nI (nv T.2 s (i - s)) → runF dg T.2 d i = nx T e → vc_X11_nextToken_L241 Q (d + 1) I1 J1 := by
    intro z y0 y d
    induction d with
    | zero =>
      intro i I1 J1 hi hsi k kj h10 h9 h12 h13 hr
      show vc_X11_nextToken_L241s Q (vc_X11_nextToken_L241 Q 0) I1 J1
      unfold vc_X11_nextToken_L241s
      exact pk_le T.1 i (fun _ => dx z y0 y i I1 J1 hsi (by omega) k kj h10 h9 h12 h13 hr) (fun z => by omega) (len k) h9
    | succ d ih =>
      intro i I1 J1 hi hsi k kj h10 h9 h12 h13 hr
      show vc_X11_nextToken_L241s Q (vc_X11_nextToken_L241 Q (d + 1)) I1 J1
      unfold vc_X11_nextToken_L241s
      refine pk_le T.1 i (fun z => by omega) (fun _ => ⟨pk_in i 160 (by omega) h9, ?_⟩) (len k) h9
      rw [let_ k h9 (by omega)]
      refine m_digit (v255 (by omega)) (fun x => b1' ?_) (fun x => b0' ?_)
      · have hc := dg_i.mp x
        have st : ∀ (x : Int32), x = nI (nv T.2 s (i + 1 - s)) → vc_X11_nextToken_B307 Q (vc_X11_nextToken_L241 Q (d + 1)) x I1 J1 := by
          intro x hx
          refine nm_e (nm_r (e' := wI (wI I1 87 13 x) 87 12 (nI (i + 1 - s))) ?_ (nm_r (e' := wI (wI (wI I1 87 13 x) 87 12 (nI (i + 1 - s))) 87 9 (nI (i + 1))) ?_ ?_))
          · rw [wI_col (by decide), h12, nI_1, show i - s + 1 = i + 1 - s by omega]
          · rw [wI_col (by decide), wI_col (by decide), h9, nI_1]
          · exact ih (i + 1) _ _ (by omega) (by omega) (((k.w 13 (by omega)).w 12 (by omega)).w 9 (by omega)) kj (by rw [wI_col (by decide), wI_col (by decide), wI_col (by decide)]; exact h10) (wI_same _ _ _ _) (by rw [wI_col (by decide), wI_same]) (by rw [wI_col (by decide), wI_col (by decide), wI_same, hx]) (by rw [← hr, runF_t ‹dg (T.2 i) = true›])
        rw [let_ k h9 (by omega)]
        refine pk_le 2 (i - s) (fun g => st _ ?_) (fun g => ⟨pk_in i 160 (by omega) h9, st _ ?_⟩) rfl h12
        · rw [h13]
          unfold nv
          rw [if_neg (by omega), if_neg (by omega), if_neg (by omega), if_neg (by omega)]
        · rw [h13, nv_st hc.1]
          unfold nv
          by_cases g0 : i - s = 0
          · rw [if_pos g0, if_neg (by omega), if_pos (by omega), show s = i by omega, show 10 * 0 + (T.2 i - 48) = T.2 i - 48 by omega]
          · rw [if_neg g0, if_pos (by omega), if_neg (by omega), if_neg (by omega), show s + 1 = i by omega]
      · rw [runF_f x] at hr
        exact dx z y0 y i I1 J1 hsi (by omega) k kj h10 h9 h12 h13 hr
  have tok : ∀ (I1 : MI), MX I I1 → I1 87 9 = nI s → vc_X11_nextToken_B38 Q I1 J := by
    intro I1 k h9
    refine nm_r (e' := wI I1 87 10 (nI s)) (by rw [h9]) (nm_e (nm_e ?_))
    have k2 : MX I (wI (wI (wI I1 87 10 (nI s)) 87 12 0) 87 13 0) := ((k.w 10 (by omega)).w 12 (by omega)).w 13 (by omega)
    have h10' : wI (wI (wI I1 87 10 (nI s)) 87 12 0) 87 13 0 87 10 = nI s := by rw [wI_col (by decide), wI_col (by decide), wI_same]
    have h9' : wI (wI (wI I1 87 10 (nI s)) 87 12 0) 87 13 0 87 9 = nI s := by rw [wI_col (by decide), wI_col (by decide), wI_col (by decide), h9]
    have h12' : wI (wI (wI I1 87 10 (nI s)) 87 12 0) 87 13 0 87 12 = nI (s - s) := by rw [wI_col (by decide), wI_same, Nat.sub_self]; rfl
    have h13' : wI (wI (wI I1 87 10 (nI s)) 87 12 0) 87 13 0 87 13 = nI (nv T.2 s (s - s)) := by rw [wI_same, Nat.sub_self]; rfl
    generalize wI (wI (wI I1 87 10 (nI s)) 87 12 0) 87 13 0 = I2 at k2 h10' h9' h12' h13' ⊢
    rw [len k2, h9', nI_eq (by omega) (by omega)]
    refine ⟨fun z => ⟨pk_in s 160 (by omega), ?_⟩, fun z => nm_e (q I2 _ k2 JX.rf.w h10' (by rw [h9', hnx, tke_e (by omega)]) (by rw [wJ_sm, tkv_e (by omega)]) (fun g => by omega))⟩
    have z : s < T.1 := by omega
    rw [let_ k2 rfl z]
    refine m_small (v255 z) (fun y => b1' ?_) (fun y => b0' ?_)
    · refine nm_e ⟨T.1 - s + 1, lw z y _ s I2 _ (by omega) (Nat.le_refl _) k2 JX.rf.w h10' h9' ?_ ?_⟩
      · rw [wJ_sm, Nat.sub_self]; rfl
      · rw [hnx, tke_s z y, show T.1 - s = T.1 - (s + 1) + 1 by omega, runF_t y]
    · rw [h9']
      refine ⟨pk_in s 160 (by omega), ?_⟩
      rw [let_ k2 rfl z]
      refine m_digit (v255 z) (fun x => b1' ?_) (fun x => b0' ?_)
      · refine ⟨T.1 - s + 1, ld z y x _ s I2 _ (by omega) (Nat.le_refl _) k2 JX.rf h10' h9' h12' h13' ?_⟩
        rw [hnx, tke_d z x y, show T.1 - s = T.1 - (s + 1) + 1 by omega, runF_t x]
      · rw [h9']
        refine ⟨pk_in s 160 (by omega), ?_⟩
        have vv := v255 z
        rw [let_ k2 rfl z, show (59 : Int32) = nI 59 from rfl, nI_eq (by omega) (by omega)]
        have e9 : wI I2 87 9 (I2 87 9 + 1) = wI I2 87 9 (nI (s + 1)) := by rw [h9', nI_1]
        have fin : ∀ x : Int64, x = tkv T s → vc_X11_nextToken_B381 Q x I2 J := fun x' hx => nm_e (nm_r e9 (q _ _ (k2.w 9 (by omega)) JX.rf.w ((wI_col (by decide)).trans h10') (by rw [wI_same, hnx, tke_o z x y]) (by rw [wJ_sm, hx]) (fun _ g => by rw [x] at g; cases g)))
        exact ⟨fun g => fin _ (by rw [tkv_o z x y, if_neg g]), fun g => fin _ (by rw [tkv_o z x y, if_pos g])⟩
  have sk : ∀ d i (I1 : MI), i + d = T.1 → MX I I1 → I1 87 9 = nI i → runF sp T.2 d i = s → vc_X11_nextToken_L0 Q (d + 1) I1 J := by
    intro d
    induction d with
    | zero =>
      intro i I1 hi k h9 hr
      show vc_X11_nextToken_L0s Q (vc_X11_nextToken_L0 Q 0) I1 J
      unfold vc_X11_nextToken_L0s
      exact pk_le T.1 i (fun _ => tok I1 k (h9.trans (congrArg nI hr))) (fun z => by omega) (len k) h9
    | succ d ih =>
      intro i I1 hi k h9 hr
      show vc_X11_nextToken_L0s Q (vc_X11_nextToken_L0 Q (d + 1)) I1 J
      unfold vc_X11_nextToken_L0s
      refine pk_le T.1 i (fun z => by omega) (fun _ => ⟨pk_in i 160 (by omega) h9, ?_⟩) (len k) h9
      have := v255 (i := i) (by omega)
      rw [let_ k h9 (by omega), show (32 : Int32) = nI 32 from rfl, nI_eq (by omega) (by omega)]
      refine ⟨fun z => ?_, fun z => ?_⟩
      · rw [runF_f (sp_f z)] at hr
        exact tok I1 k (h9.trans (congrArg nI hr))
      · exact nm_r (e' := wI I1 87 9 (nI (i + 1))) (by rw [h9, nI_1]) (ih (i + 1) _ (by omega) (k.w 9 (by omega)) (wI_same _ _ _ _) (by rw [← hr, runF_t (sp_i.mpr z)]))
  exact ⟨T.1 - e + 1, sk _ e I (by omega) MX.rf h9 hs⟩
