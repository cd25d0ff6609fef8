def psW (S : ST) (h l t : Nat) : Nat := opF (bj S.C.wm) h t 0 (if l < S.rw.1 then S.rw.2 l else 0)
theorem psW_le {S : ST} (hw : wf S) (h l t : Nat) : psW S h l t ≤ 99 := by
  unfold psW
  have h1 := opF_le (bj S.C.wm) h t 0 (if l < S.rw.1 then S.rw.2 l else 0)
  by_cases hl : l < S.rw.1
  · rw [if_pos hl] at h1 ⊢
    have := (hw.2.2.2.2.2.2.2 l hl).2
    omega
  · rw [if_neg hl] at h1 ⊢
    omega
theorem psW_eq {S : ST} {h l t : Nat} (hl : l < S.rw.1) : psW S h l t = opF (bj S.C.wm) h t 0 (S.rw.2 l) := by unfold psW; rw [if_pos hl]
def vq (P : Nat → Bool) (g : Nat → Nat) (j : Nat) : Nat := match bfq P g j with | none => 0 | some (v, _) => v
theorem vq_le {P : Nat → Bool} {g : Nat → Nat} {b : Nat} (hg : ∀ l, g l ≤ b) (j : Nat) : vq P g j ≤ b := by
  unfold vq
  rcases bfq_sp P g j with ⟨h1, -⟩ | ⟨v, l, h1, -, -, h4, -⟩
  · rw [h1]; exact Nat.zero_le _
  · rw [h1, ← h4]; exact hg l
theorem vq_f {P : Nat → Bool} {g : Nat → Nat} {j : Nat} (h : P j = false) : vq P g (j + 1) = vq P g j := by unfold vq; rw [bfq_f h]
theorem vq_t {P : Nat → Bool} {g : Nat → Nat} {j : Nat} (h : P j = true) : vq P g (j + 1) = if vq P g j < g j then g j else vq P g j := by
  unfold vq
  cases e : bfq P g j with
  | none =>
    rw [bfq_n h e]
    show g j = if 0 < g j then g j else 0
    by_cases z : 0 < g j
    · rw [if_pos z]
    · rw [if_neg z]; omega
  | some p =>
    obtain ⟨v, l⟩ := p
    rw [bfq_s h e]
    show _ = if v < g j then g j else v
    by_cases z : v < g j
    · rw [if_pos z, if_pos z]
    · rw [if_neg z, if_neg z]
theorem Bq_vq {n : Nat} {W : Nat → Nat → Nat} {r m : Nat} : (Bq n W (r + 1) m).1 = vq (clr m) (fun l => W l (pc5 m) + (Bq n W r (m + 2 ^ l)).1) n := by
  show (match bfq (clr m) (fun l => W l (pc5 m) + (Bq n W r (m + 2 ^ l)).1) n with | none => (0, []) | some (v, l) => (v, l :: (Bq n W r (m + 2 ^ l)).2)).1 = _
  unfold vq
  cases bfq (clr m) (fun l => W l (pc5 m) + (Bq n W r (m + 2 ^ l)).1) n with
  | none => rfl
  | some p => rfl
theorem nI_max {a b : Nat} (ha : a < 2 ^ 31) (hb : b < 2 ^ 31) : (if nI a < nI b then nI b else nI a) = nI (if a < b then b else a) := by
  by_cases h : a < b
  · rw [if_pos ((nI_ltI ha hb).mpr h), if_pos h]
  · rw [if_neg (fun z => h ((nI_ltI ha hb).mp z)), if_neg h]
section PassC
variable {S : ST} {I : MI} {J : MJ} {h : Nat}
theorem c_next {n m l b : Nat} {W : Nat → Nat → Nat} (hn : n ≤ 5) (hm : m < 2 ^ n) (hl : l < n) (hc : clr m l = true) (h22 : ∀ l t, l < n → t < n → I 22 (l * 5 + t) = nI (W l t)) (h23 : I 23 (m + 2 ^ l) = nI b) {Q : Int32 → MI → MJ → Prop} (q : Q (nI (W l (pc5 m) + b)) I J) : vc_X4_nextWith (nI m) (nI l) I J Q := by
  have hm32 := p2_lt hn hm
  have h1 := pf1 n (by omega) m hm32 l (by omega) hm hl hc
  have hp := p2_lt hn h1.1
  have hp2 := p2_5 (n := l) (by omega)
  have hp3 : 2 ^ l < 32 := p2_lt hn (Nat.pow_lt_pow_right (by decide) hl)
  refine s_bits5 hm32 ?_
  rw [sh5 l (by omega), pf6 m hm32 _ hp3, h1.2.2.1, show (5 : Int32) = nI 5 from rfl, pk_mul, nI_add, nI_clamp (by omega), nI_clamp (by omega), h22 l _ hl h1.2.2.2, h23, nI_add]
  exact ⟨vp_in_nI (by omega) (by omega), vp_in_nI hp (by omega), q⟩
theorem c_weigh (hw : wf S) (hc : Cp S I J) (hh : h ≤ 43) {Q : MI → MJ → Prop} (q : ∀ I' : MI, (∀ j, j ≠ 22 → j ≠ 23 → I' j = I j) → (∀ l t, l < S.rw.1 → t < S.rw.1 → I' 22 (l * 5 + t) = nI (psW S h l t)) → (∀ m, m < 2 ^ S.rw.1 → I' 23 m = nI (Bq S.rw.1 (psW S h) (S.rw.1 - pc5 m) m).1) → Q I' J) : vc_X4_weigh (J 5 11) (nI h) I J Q := by
  have n5 : S.rw.1 ≤ 5 := hw.2.2.2.2.2.2.1
  have hld := hw.2.2.2.2.2.2.2
  have hW := psW_le hw h
  obtain ⟨e1, e2⟩ := id hc.2.2.2.2.2.2
  have ew : J 5 11 = S.C.wm := hc.1.2.2.2.1
  obtain ⟨pn, pn1⟩ := p2_5 n5
  generalize hWe : psW S h = W at q hW
  generalize hn : S.rw.1 = n at *
  -- the sets, from the greatest down
  have l86 : ∀ k (I' : MI), k < 2 ^ n → (∀ j, j ≠ 22 → j ≠ 23 → I' j = I j) → (∀ l t, l < n → t < n → I' 22 (l * 5 + t) = nI (W l t)) → (∀ m, k ≤ m → m < 2 ^ n → I' 23 m = nI (Bq n W (n - pc5 m) m).1) → vc_X4_weigh_L86 Q (k + 1) (nI k - 1) I' J := by
    intro k
    induction k with
    | zero =>
      intro I' _ f1 f2 f3
      show vc_X4_weigh_L86s Q (vc_X4_weigh_L86 Q 0) _ I' J
      unfold vc_X4_weigh_L86s
      exact ⟨fun _ => q I' f1 f2 (fun m hm => f3 m (Nat.zero_le _) hm), fun z => absurd (by decide) z⟩
    | succ k ih =>
      intro I' hk f1 f2 f3
      have hk32 := p2_lt n5 hk
      have hkn : k < 2 ^ n := by omega
      have hpk : pc5 k < n := (pf5 n (by omega) k (by omega) hkn).2.2.2 hk
      show vc_X4_weigh_L86s Q (vc_X4_weigh_L86 Q (k + 1)) _ I' J
      unfold vc_X4_weigh_L86s
      rw [show nI (k + 1) - 1 = nI k from pk_sub (b := 1) (by omega)]
      refine ⟨fun z => absurd z (nI_pos (by omega)), fun _ => ⟨vp_in_nI (by omega) (by omega), nm_e ?_⟩⟩
      rw [nI_clamp (by omega)]
      obtain ⟨r, hr⟩ : ∃ r, n - pc5 k = r + 1 := ⟨n - pc5 k - 1, by omega⟩
      generalize hG : (fun l => W l (pc5 k) + (Bq n W r (k + 2 ^ l)).1) = G
      have hGl : ∀ l, G l ≤ 99 * 6 := fun l => by
        rw [← hG]
        have h1 := hW l (pc5 k)
        have h2 := Bq_le (n := n) hW r (k + 2 ^ l)
        show W l (pc5 k) + (Bq n W r (k + 2 ^ l)).1 ≤ _
        omega
      have l102 : ∀ d j (I' : MI), j + d = n → (∀ i, i ≠ 22 → i ≠ 23 → I' i = I i) → (∀ l t, l < n → t < n → I' 22 (l * 5 + t) = nI (W l t)) → (∀ m, k < m → m < 2 ^ n → I' 23 m = nI (Bq n W (n - pc5 m) m).1) → I' 23 k = nI (vq (clr k) G j) → vc_X4_weigh_L102 Q (vc_X4_weigh_L86 Q (k + 1)) (d + 1) (nI k) (nI j) I' J := by
        intro d
        induction d with
        | zero =>
          intro j I' hj f1 f2 f3 f4
          show vc_X4_weigh_L102s Q (vc_X4_weigh_L86 Q (k + 1)) (vc_X4_weigh_L102 Q (vc_X4_weigh_L86 Q (k + 1)) 0) _ _ I' J
          unfold vc_X4_weigh_L102s
          rw [f1 20 (by decide) (by decide), e1]
          refine pk_le n j (fun _ => nm_r (Int32.sub_eq_add_neg (nI k) 1).symm ?_) (fun z => by omega)
          refine ih I' hkn f1 f2 (fun m h1 h2 => ?_)
          by_cases hmk : m = k
          · subst hmk
            have ej : j = n := by omega
            rw [f4, hr, Bq_vq, ej, ← hG]
          · exact f3 m (by omega) h2
        | succ d ihd =>
          intro j I' hj f1 f2 f3 f4
          show vc_X4_weigh_L102s Q (vc_X4_weigh_L86 Q (k + 1)) (vc_X4_weigh_L102 Q (vc_X4_weigh_L86 Q (k + 1)) (d + 1)) _ _ I' J
          unfold vc_X4_weigh_L102s
          rw [f1 20 (by decide) (by decide), e1]
          refine pk_le n j (fun z => by omega) (fun _ => ?_)
          rcases pf7 k (by omega) j (by omega) with ⟨h1, h2⟩ | ⟨h1, h2⟩
          · have hp1 := pf1 n (by omega) k (by omega) j (by omega) hkn (by omega) h2
            have h2p := p2_5 (n := j) (by omega)
            refine ⟨fun z => absurd h1 z, fun _ => ⟨vp_in_nI (by omega) (by omega), c_next n5 hkn (by omega) h2 f2 (f3 _ (by omega) hp1.1) ⟨vp_in_nI (by omega) (by omega), nm_e (nm_r (nI_1 j) ?_)⟩⟩⟩
            rw [nI_clamp (by omega), f4]
            have eG : W j (pc5 k) + (Bq n W (n - pc5 (k + 2 ^ j)) (k + 2 ^ j)).1 = G j := by
              rw [← hG, hp1.2.1, show n - (pc5 k + 1) = r by omega]
            rw [eG, nI_max (by have := vq_le (P := clr k) hGl j; omega) (by have := hGl j; omega)]
            refine ihd (j + 1) _ (by omega) (fun i a b => by rw [wI_row b]; exact f1 i a b) (fun l t a b => by rw [wI_row (by decide)]; exact f2 l t a b) (fun m a b => by rw [wI_col (by omega)]; exact f3 m a b) ?_
            rw [wI_same, vq_t h2]
          · refine ⟨fun _ => nm_r (nI_1 j) (ihd (j + 1) I' (by omega) f1 f2 f3 (by rw [f4, vq_f h2])), fun z => absurd z h1⟩
      refine ⟨n + 1, l102 n 0 _ (by omega) (fun i a b => by rw [wI_row b]; exact f1 i a b) (fun l t a b => by rw [wI_row (by decide)]; exact f2 l t a b) (fun m a b => by rw [wI_col (by omega)]; exact f3 m (by omega) b) (wI_same _ _ _ _)⟩
  -- the weights
  have l3 : ∀ d v (I' : MI), v + d = n → (∀ j, j ≠ 22 → j ≠ 23 → I' j = I j) → (∀ l t, l < v → t < n → I' 22 (l * 5 + t) = nI (W l t)) → vc_X4_weigh_L3 Q (d + 1) (J 5 11) (nI h) (nI v) I' J := by
    intro d
    induction d with
    | zero =>
      intro v I' hv f1 f2
      have ev : v = n := by omega
      subst ev
      show vc_X4_weigh_L3s Q (vc_X4_weigh_L3 Q 0) _ _ _ I' J
      unfold vc_X4_weigh_L3s
      rw [f1 20 (by decide) (by decide), e1, sh5 v (by omega), show (1 : Int32) = nI 1 from rfl, pk_sub pn1]
      refine pk_le v v (fun _ => nm_e ⟨vp_in_nI (by omega) (by omega), nm_e (nm_e ⟨2 ^ v - 1 + 1, ?_⟩)⟩) (fun z => by omega)
      rw [nI_clamp (by omega)]
      refine l86 (2 ^ v - 1) _ (by omega) (fun j a b => by rw [wI_row b]; exact f1 j a b) (fun l t a b => by rw [wI_row (by decide)]; exact f2 l t a b) (fun m a b => ?_)
      have em : m = 2 ^ v - 1 := by omega
      rw [em, wI_same, pf4 v (by omega), Nat.sub_self]
      rfl
    | succ d ih =>
      intro v I' hv f1 f2
      show vc_X4_weigh_L3s Q (vc_X4_weigh_L3 Q (d + 1)) _ _ _ I' J
      unfold vc_X4_weigh_L3s
      rw [f1 20 (by decide) (by decide), e1]
      refine pk_le n v (fun z => by omega) (fun _ => ?_)
      have l15 : ∀ g u (I' : MI), u + g = n → (∀ j, j ≠ 22 → j ≠ 23 → I' j = I j) → (∀ l t, l < v → t < n → I' 22 (l * 5 + t) = nI (W l t)) → (∀ t, t < u → I' 22 (v * 5 + t) = nI (W v t)) → vc_X4_weigh_L15 Q (vc_X4_weigh_L3 Q (d + 1)) (g + 1) (J 5 11) (nI h) (nI v) (nI u) I' J := by
        intro g
        induction g with
        | zero =>
          intro u I' hu f1 f2 f3
          show vc_X4_weigh_L15s Q (vc_X4_weigh_L3 Q (d + 1)) (vc_X4_weigh_L15 Q (vc_X4_weigh_L3 Q (d + 1)) 0) _ _ _ _ I' J
          unfold vc_X4_weigh_L15s
          rw [f1 20 (by decide) (by decide), e1]
          refine pk_le n u (fun _ => nm_r (nI_1 v) (ih (v + 1) I' (by omega) f1 (fun l t a b => ?_))) (fun z => by omega)
          by_cases hl : l = v
          · subst hl; exact f3 t (by omega)
          · exact f2 l t (by omega) b
        | succ g ihg =>
          intro u I' hu f1 f2 f3
          show vc_X4_weigh_L15s Q (vc_X4_weigh_L3 Q (d + 1)) (vc_X4_weigh_L15 Q (vc_X4_weigh_L3 Q (d + 1)) (g + 1)) _ _ _ _ I' J
          unfold vc_X4_weigh_L15s
          rw [f1 20 (by decide) (by decide), e1, nI_clamp (by omega), f1 21 (by decide) (by decide), e2 v (by omega), ew]
          have hv2 := (hld v (by omega)).2
          refine pk_le n u (fun z => by omega) (fun _ => ⟨vp_in_nI (by omega) (by omega), c_open (by omega) hv2 ?_⟩)
          rw [show (5 : Int32) = nI 5 from rfl, pk_mul, nI_add, nI_clamp (by omega)]
          refine ⟨vp_in_nI (by omega) (by omega), nm_e (nm_r (nI_1 u) ?_)⟩
          have h3 := ihg (u + 1) (wI I' 22 (v * 5 + u) (nI (opF (bj S.C.wm) h u 0 (S.rw.2 v)))) (by omega) (fun j a b => by rw [wI_row a]; exact f1 j a b) (fun l t a b => by rw [wI_col (by omega)]; exact f2 l t a b) (fun t ht => ?_)
          · rw [ew] at h3; exact h3
          · by_cases ht2 : t = u
            · subst ht2
              rw [wI_same, ← hWe, psW_eq (by omega)]
            · rw [wI_col (by omega)]; exact f3 t (by omega)
      exact ⟨n + 1, l15 n 0 I' (by omega) f1 f2 (fun t ht => absurd ht (Nat.not_lt_zero t))⟩
  exact ⟨n + 1, l3 n 0 I (by omega) (fun _ _ _ => rfl) (fun l t hl => absurd hl (Nat.not_lt_zero l))⟩
theorem c_first {n m r v l : Nat} {W : Nat → Nat → Nat} (hn : n ≤ 5) (e1 : I 20 1 = nI n) (hW : ∀ l t, W l t ≤ 99) (hm : m < 2 ^ n) (hr : n - pc5 m = r + 1) (h22 : ∀ l t, l < n → t < n → I 22 (l * 5 + t) = nI (W l t)) (h23 : ∀ m, m < 2 ^ n → I 23 m = nI (Bq n W (n - pc5 m) m).1)
    (hb : bfq (clr m) (fun l => W l (pc5 m) + (Bq n W r (m + 2 ^ l)).1) n = some (v, l)) (hl : l < n) (hcl : clr m l = true) (hgl : W l (pc5 m) + (Bq n W r (m + 2 ^ l)).1 = v) (hlt : ∀ k, k < l → clr m k = true → W k (pc5 m) + (Bq n W r (m + 2 ^ k)).1 < v) {Q : Int32 → MI → MJ → Prop} (q : Q (nI l) I J) : vc_X4_firstBest (nI m) I J Q := by
  have hm32 := p2_lt hn hm
  have hB : (Bq n W (n - pc5 m) m).1 = v := by rw [hr, Bq_s hb]
  have hv : v ≤ 99 * (r + 1) := by rw [← hB, hr]; exact Bq_le hW (r + 1) m
  have eB : ∀ k, k < n → clr m k = true → m + 2 ^ k < 2 ^ n ∧ (Bq n W (n - pc5 (m + 2 ^ k)) (m + 2 ^ k)).1 = (Bq n W r (m + 2 ^ k)).1 := fun k hk hc => by
    have h1 := pf1 n (by omega) m hm32 k (by omega) hm hk hc
    rw [h1.2.1, show n - (pc5 m + 1) = r by omega]
    exact ⟨h1.1, rfl⟩
  have loop : ∀ d k, k + d = l → vc_X4_firstBest_L2 Q (d + 1) (nI m) (nI k) I J := by
    intro d
    induction d with
    | zero =>
      intro k hk
      have ek : k = l := by omega
      subst ek
      show vc_X4_firstBest_L2s Q (vc_X4_firstBest_L2 Q 0) _ _ I J
      unfold vc_X4_firstBest_L2s
      rw [e1]
      refine pk_le n k (fun z => by omega) (fun _ => ?_)
      have h3 := eB k hl hcl
      rcases pf7 m hm32 k (by omega) with ⟨h1, h2⟩ | ⟨h1, h2⟩
      · refine ⟨fun z => absurd h1 z, fun _ => c_next hn hm hl hcl h22 (h23 _ h3.1) ⟨vp_in_nI hm32 (by omega), ?_⟩⟩
        rw [nI_clamp (by omega), h23 m hm, h3.2, hgl, hB]
        exact ⟨fun z => absurd rfl z, fun _ => q⟩
      · rw [hcl] at h2; cases h2
    | succ d ih =>
      intro k hk
      show vc_X4_firstBest_L2s Q (vc_X4_firstBest_L2 Q (d + 1)) _ _ I J
      unfold vc_X4_firstBest_L2s
      rw [e1]
      refine pk_le n k (fun z => by omega) (fun _ => ?_)
      rcases pf7 m hm32 k (by omega) with ⟨h1, h2⟩ | ⟨h1, h2⟩
      · have h3 := eB k (by omega) h2
        have h4 := hlt k (by omega) h2
        refine ⟨fun z => absurd h1 z, fun _ => c_next hn hm (by omega) h2 h22 (h23 _ h3.1) ⟨vp_in_nI hm32 (by omega), ?_⟩⟩
        rw [nI_clamp (by omega), h23 m hm, h3.2, hB, nI_eq (by omega) (by omega)]
        exact ⟨fun _ => nm_r (nI_1 k) (ih (k + 1) (by omega)), fun z => by omega⟩
      · exact ⟨fun _ => nm_r (nI_1 k) (ih (k + 1) (by omega)), fun z => absurd z h1⟩
  exact ⟨l + 1, loop l 0 (by omega)⟩
theorem c_turn {n k : Nat} {W : Nat → Nat → Nat} (hn : n ≤ 5) (hk : k < n) (e1 : I 20 1 = nI n) (hW : ∀ l t, W l t ≤ 99) (h22 : ∀ l t, l < n → t < n → I 22 (l * 5 + t) = nI (W l t)) (h23 : ∀ m, m < 2 ^ n → I 23 m = nI (Bq n W (n - pc5 m) m).1) {Q : Int32 → MI → MJ → Prop} (q : Q (nI ((Bq n W n 0).2.getD k 0)) I J) : vc_X4_loadInTurn (nI k) I J Q := by
  have loop : ∀ d i m c, i + d = k + 1 → m < 2 ^ n → pc5 m = i → (d = 0 → Q c I J) → (0 < d → Q (nI ((Bq n W (n - i) m).2.getD (k - i) 0)) I J) → vc_X4_loadInTurn_L7 Q (d + 1) (nI k) (nI m) c (nI i) I J := by
    intro d
    induction d with
    | zero =>
      intro i m c hi hm hp q0 q1
      show vc_X4_loadInTurn_L7s Q (vc_X4_loadInTurn_L7 Q 0) _ _ _ _ I J
      unfold vc_X4_loadInTurn_L7s
      exact pk_lt k i (fun _ => q0 rfl) (fun z => by omega)
    | succ d ih =>
      intro i m c hi hm hp q0 q1
      have hm32 := p2_lt hn hm
      show vc_X4_loadInTurn_L7s Q (vc_X4_loadInTurn_L7 Q (d + 1)) _ _ _ _ I J
      unfold vc_X4_loadInTurn_L7s
      rw [e1]
      refine pk_lt k i (fun z => by omega) (fun _ => pk_le n i (fun z => by omega) (fun _ => ?_))
      obtain ⟨r, hr⟩ : ∃ r, n - pc5 m = r + 1 := ⟨n - pc5 m - 1, by omega⟩
      obtain ⟨v, l, b1, b2, b3, b4, b5, b6⟩ := bfq_ex hn hm (by omega) (fun l => W l (pc5 m) + (Bq n W r (m + 2 ^ l)).1)
      refine c_first hn e1 hW hm hr h22 h23 b1 b2 b3 b4 b5 ⟨fun _ => ?_, fun z => absurd z (nI_ne_m1 (by omega))⟩
      have h1 := pf1 n (by omega) m hm32 l (by omega) hm b2 b3
      have hp3 : 2 ^ l < 32 := p2_lt hn (Nat.pow_lt_pow_right (by decide) b2)
      rw [sh5 l (by omega), pf6 m hm32 _ hp3, h1.2.2.1]
      have q1 := q1 (by omega)
      rw [← hp, hr, Bq_s b1] at q1
      refine nm_e (nm_r (nI_1 i) (ih (i + 1) (m + 2 ^ l) (nI l) (by omega) h1.1 (by omega) (fun hd => ?_) (fun hd => ?_)))
      · rw [show k - pc5 m = 0 by omega] at q1
        exact q1
      · rw [show k - pc5 m = (k - (i + 1)) + 1 by omega] at q1
        have e : r = n - (i + 1) := by omega
        rw [e] at q1
        exact q1
  exact ⟨k + 1 + 1, loop (k + 1) 0 0 (-1) (by omega) (Nat.pow_pos (by decide)) rfl (fun z => by omega) (fun _ => by rw [Nat.sub_zero, Nat.sub_zero]; exact q)⟩
end PassC
