set_option maxRecDepth 100000 in
theorem wl_1 : Cond.classLink RL 7 RX10 ∈ wsL_law ∧ Cond.instantiable RX10 9 ∈ wsL_law ∧ Cond.initialized RX10 ∈ wsL_law ∧ Cond.methodLink RL 9 yX10_init ∈ wsL_law ∧ Cond.instanceMethod yX10_init ∈ wsL_law := by decide +kernel
set_option maxRecDepth 100000 in
theorem wl_2 : Cond.classLink RL 10 RX11 ∈ wsL_law ∧ Cond.instantiable RX11 39 ∈ wsL_law ∧ Cond.initialized RX11 ∈ wsL_law ∧ Cond.methodLink RL 12 yX11_init ∈ wsL_law ∧ Cond.instanceMethod yX11_init ∈ wsL_law := by decide +kernel
theorem df_X10 : ∀ j, j < 9 → defaultValue (tyX10 j) = vp_V [.null, .null, .null, .null, .null, .null, .null, .null, .null] j := by
  intro j hj
  rcases (show j = 0 ∨ j = 1 ∨ j = 2 ∨ j = 3 ∨ j = 4 ∨ j = 5 ∨ j = 6 ∨ j = 7 ∨ j = 8 by omega) with rfl | rfl | rfl | rfl | rfl | rfl | rfl | rfl | rfl <;> rfl
theorem df_X11 : ∀ j, j < 39 → defaultValue (tyX11 j) = vp_V [.int 0, .null, .int 0, .null, .int 0, .null, .long 0, .int 0, .null, .int 0, .int 0, .long 0, .int 0, .int 0, .int 0, .int 0, .int 0, .int 0, .int 0, .null, .null, .null, .null, .null, .int 0, .null, .int 0, .null, .int 0, .null, .null, .null, .null, .null, .null, .null, .null, .null, .null] j := by
  intro j hj
  match j, hj with
  | 0, _ => rfl
  | 1, _ => rfl
  | 2, _ => rfl
  | 3, _ => rfl
  | 4, _ => rfl
  | 5, _ => rfl
  | 6, _ => rfl
  | 7, _ => rfl
  | 8, _ => rfl
  | 9, _ => rfl
  | 10, _ => rfl
  | 11, _ => rfl
  | 12, _ => rfl
  | 13, _ => rfl
  | 14, _ => rfl
  | 15, _ => rfl
  | 16, _ => rfl
  | 17, _ => rfl
  | 18, _ => rfl
  | 19, _ => rfl
  | 20, _ => rfl
  | 21, _ => rfl
  | 22, _ => rfl
  | 23, _ => rfl
  | 24, _ => rfl
  | 25, _ => rfl
  | 26, _ => rfl
  | 27, _ => rfl
  | 28, _ => rfl
  | 29, _ => rfl
  | 30, _ => rfl
  | 31, _ => rfl
  | 32, _ => rfl
  | 33, _ => rfl
  | 34, _ => rfl
  | 35, _ => rfl
  | 36, _ => rfl
  | 37, _ => rfl
  | 38, _ => rfl
  | j + 39, hj => exact absurd hj (by omega)
set_option maxRecDepth 100000 in
set_option maxHeartbeats 4000000 in
/-- the law from its entry, given that both sides answer alike -/
theorem law_start {p : Program} {e : Env} {s : State} {m : MethodId} {below : List Frame} {meth : Method} {c : Code} (l : Launch) {b L : Nat} {xs : Nat → Int32} (hL : L ≤ 320) (C0 : lw_At p s m meth c b L xs) {Inv : MI → MJ → Prop} (hb0 : vc_X11_begin I00 J00 Inv) (P0 : ∀ (I : MI) (J : MJ), Inv I J → ∀ (x1 : Int32), vc_X10_write x1 I J (fun (r : Int32) (I1 : MI) (J1 : MJ) => vc_X11_write x1 I1 J1 (fun (q : Int32) (I2 : MI) (J2 : MJ) => r = q ∧ Inv I2 J2))) (P1 : ∀ (I : MI) (J : MJ), Inv I J → vc_X10_erase I J (fun (r : Int32) (I1 : MI) (J1 : MJ) => vc_X11_erase I1 J1 (fun (q : Int32) (I2 : MI) (J2 : MJ) => r = q ∧ Inv I2 J2))) (P2 : ∀ (I : MI) (J : MJ), Inv I J → vc_X10_fault I J (fun (r : Int32) (I1 : MI) (J1 : MJ) => vc_X11_fault I1 J1 (fun (q : Int32) (I2 : MI) (J2 : MJ) => r = q ∧ Inv I2 J2))) (P3 : ∀ (I : MI) (J : MJ), Inv I J → vc_X10_land I J (fun (r : Int32) (I1 : MI) (J1 : MJ) => vc_X11_land I1 J1 (fun (q : Int32) (I2 : MI) (J2 : MJ) => r = q ∧ Inv I2 J2))) (P4 : ∀ (I : MI) (J : MJ), Inv I J → ∀ (x1 : Int32) (x2 : Int32), vc_X10_place x1 x2 I J (fun (r : Int32) (I1 : MI) (J1 : MJ) => vc_X11_place x1 x2 I1 J1 (fun (q : Int32) (I2 : MI) (J2 : MJ) => r = q ∧ Inv I2 J2))) (P5 : ∀ (I : MI) (J : MJ), Inv I J → ∀ (x1 : Int32) (x2 : Int32), vc_X10_road x1 x2 I J (fun (r : Int32) (I1 : MI) (J1 : MJ) => vc_X11_road x1 x2 I1 J1 (fun (q : Int32) (I2 : MI) (J2 : MJ) => r = q ∧ Inv I2 J2))) (P6 : ∀ (I : MI) (J : MJ), Inv I J → ∀ (x1 : Int32) (x2 : Int32), vc_X10_cart x1 x2 I J (fun (r : Int32) (I1 : MI) (J1 : MJ) => vc_X11_cart x1 x2 I1 J1 (fun (q : Int32) (I2 : MI) (J2 : MJ) => r = q ∧ Inv I2 J2))) (P7 : ∀ (I : MI) (J : MJ), Inv I J → ∀ (x1 : Int32) (x2 : Int32), vc_X10_as x1 x2 I J (fun (r : Int32) (I1 : MI) (J1 : MJ) => vc_X11_as x1 x2 I1 J1 (fun (q : Int32) (I2 : MI) (J2 : MJ) => r = q ∧ Inv I2 J2))) (P8 : ∀ (I : MI) (J : MJ), Inv I J → ∀ (x1 : Int32) (x2 : Int32), vc_X10_roadAs x1 x2 I J (fun (r : Int32) (I1 : MI) (J1 : MJ) => vc_X11_roadAs x1 x2 I1 J1 (fun (q : Int32) (I2 : MI) (J2 : MJ) => r = q ∧ Inv I2 J2))) (P9 : ∀ (I : MI) (J : MJ), Inv I J → ∀ (x1 : Int32), vc_X10_price x1 I J (fun (r : Int32) (I1 : MI) (J1 : MJ) => vc_X11_price x1 I1 J1 (fun (q : Int32) (I2 : MI) (J2 : MJ) => r = q ∧ Inv I2 J2))) (P10 : ∀ (I : MI) (J : MJ), Inv I J → ∀ (x1 : Int32) (x2 : Int32), vc_X10_fill x1 x2 I J (fun (r : Int32) (I1 : MI) (J1 : MJ) => vc_X11_fill x1 x2 I1 J1 (fun (q : Int32) (I2 : MI) (J2 : MJ) => r = q ∧ Inv I2 J2))) (P11 : ∀ (I : MI) (J : MJ), Inv I J → ∀ (x1 : Int32) (x2 : Int32), vc_X10_go x1 x2 I J (fun (r : Int32) (I1 : MI) (J1 : MJ) => vc_X11_go x1 x2 I1 J1 (fun (q : Int32) (I2 : MI) (J2 : MJ) => r = q ∧ Inv I2 J2))) (P12 : ∀ (I : MI) (J : MJ), Inv I J → ∀ (x1 : Int32) (x2 : Int32), vc_X10_rest x1 x2 I J (fun (r : Int32) (I1 : MI) (J1 : MJ) => vc_X11_rest x1 x2 I1 J1 (fun (q : Int32) (I2 : MI) (J2 : MJ) => r = q ∧ Inv I2 J2))) (P13 : ∀ (I : MI) (J : MJ), Inv I J → ∀ (x1 : Int32) (x2 : Int32), vc_X10_join x1 x2 I J (fun (r : Int32) (I1 : MI) (J1 : MJ) => vc_X11_join x1 x2 I1 J1 (fun (q : Int32) (I2 : MI) (J2 : MJ) => r = q ∧ Inv I2 J2))) (P14 : ∀ (I : MI) (J : MJ), Inv I J → ∀ (x1 : Int32), vc_X10_store x1 I J (fun (r : Int32) (I1 : MI) (J1 : MJ) => vc_X11_store x1 I1 J1 (fun (q : Int32) (I2 : MI) (J2 : MJ) => r = q ∧ Inv I2 J2))) (P15 : ∀ (I : MI) (J : MJ), Inv I J → ∀ (x1 : Int32) (x2 : Int32), vc_X10_take x1 x2 I J (fun (r : Int32) (I1 : MI) (J1 : MJ) => vc_X11_take x1 x2 I1 J1 (fun (q : Int32) (I2 : MI) (J2 : MJ) => r = q ∧ Inv I2 J2))) (P16 : ∀ (I : MI) (J : MJ), Inv I J → ∀ (x1 : Int32), vc_X10_sell x1 I J (fun (r : Int32) (I1 : MI) (J1 : MJ) => vc_X11_sell x1 I1 J1 (fun (q : Int32) (I2 : MI) (J2 : MJ) => r = q ∧ Inv I2 J2))) (P17 : ∀ (I : MI) (J : MJ), Inv I J → vc_X10_undo I J (fun (r : Int32) (I1 : MI) (J1 : MJ) => vc_X11_undo I1 J1 (fun (q : Int32) (I2 : MI) (J2 : MJ) => r = q ∧ Inv I2 J2))) (P18 : ∀ (I : MI) (J : MJ), Inv I J → ∀ (x1 : Int32), vc_X10_keep x1 I J (fun (r : Int32) (I1 : MI) (J1 : MJ) => vc_X11_keep x1 I1 J1 (fun (q : Int32) (I2 : MI) (J2 : MJ) => r = q ∧ Inv I2 J2))) (P19 : ∀ (I : MI) (J : MJ), Inv I J → ∀ (x1 : Int32), vc_X10_back x1 I J (fun (r : Int32) (I1 : MI) (J1 : MJ) => vc_X11_back x1 I1 J1 (fun (q : Int32) (I2 : MI) (J2 : MJ) => r = q ∧ Inv I2 J2))) (P20 : ∀ (I : MI) (J : MJ), Inv I J → ∀ (x1 : Int32) (x2 : Int32) (x3 : Int32), vc_X10_comes x1 x2 x3 I J (fun (r : Int32) (I1 : MI) (J1 : MJ) => vc_X11_comes x1 x2 x3 I1 J1 (fun (q : Int32) (I2 : MI) (J2 : MJ) => r = q ∧ Inv I2 J2))) (P21 : ∀ (I : MI) (J : MJ), Inv I J → ∀ (x1 : Int32) (x2 : Int32) (x3 : Int32) (x4 : Int32), vc_X10_straw x1 x2 x3 x4 I J (fun (r : Int32) (I1 : MI) (J1 : MJ) => vc_X11_straw x1 x2 x3 x4 I1 J1 (fun (q : Int32) (I2 : MI) (J2 : MJ) => r = q ∧ Inv I2 J2))) (P22 : ∀ (I : MI) (J : MJ), Inv I J → ∀ (x1 : Int32) (x2 : Int32) (x3 : Int32) (x4 : Int32), vc_X10_meet x1 x2 x3 x4 I J (fun (r : Int32) (I1 : MI) (J1 : MJ) => vc_X11_meet x1 x2 x3 x4 I1 J1 (fun (q : Int32) (I2 : MI) (J2 : MJ) => r = q ∧ Inv I2 J2))) (P23 : ∀ (I : MI) (J : MJ), Inv I J → ∀ (x1 : Int32), vc_X10_taker x1 I J (fun (r : Int32) (I1 : MI) (J1 : MJ) => vc_X11_taker x1 I1 J1 (fun (q : Int32) (I2 : MI) (J2 : MJ) => r = q ∧ Inv I2 J2))) (P24 : ∀ (I : MI) (J : MJ), Inv I J → vc_X10_dismiss I J (fun (r : Int32) (I1 : MI) (J1 : MJ) => vc_X11_dismiss I1 J1 (fun (q : Int32) (I2 : MI) (J2 : MJ) => r = q ∧ Inv I2 J2))) (P25 : ∀ (I : MI) (J : MJ), Inv I J → ∀ (x1 : Int32) (x2 : Int32) (x3 : Int32), vc_X10_left x1 x2 x3 I J (fun (r : Int32) (I1 : MI) (J1 : MJ) => vc_X11_left x1 x2 x3 I1 J1 (fun (q : Int32) (I2 : MI) (J2 : MJ) => r = q ∧ Inv I2 J2))) (P26 : ∀ (I : MI) (J : MJ), Inv I J → ∀ (x1 : Int32) (x2 : Int32) (x3 : Int32), vc_X10_drip x1 x2 x3 I J (fun (r : Int32) (I1 : MI) (J1 : MJ) => vc_X11_drip x1 x2 x3 I1 J1 (fun (q : Int32) (I2 : MI) (J2 : MJ) => r = q ∧ Inv I2 J2))) (P27 : ∀ (I : MI) (J : MJ), Inv I J → ∀ (x1 : Int32) (x2 : Int32) (x3 : Int32) (x4 : Int32), vc_X10_seal x1 x2 x3 x4 I J (fun (r : Int64) (I1 : MI) (J1 : MJ) => vc_X11_seal x1 x2 x3 x4 I1 J1 (fun (q : Int64) (I2 : MI) (J2 : MJ) => r = q ∧ Inv I2 J2))) (P28 : ∀ (I : MI) (J : MJ), Inv I J → ∀ (x1 : Int32) (x2 : Int32) (x3 : Int32), vc_X10_rent x1 x2 x3 I J (fun (r : Int32) (I1 : MI) (J1 : MJ) => vc_X11_rent x1 x2 x3 I1 J1 (fun (q : Int32) (I2 : MI) (J2 : MJ) => r = q ∧ Inv I2 J2))) (P29 : ∀ (I : MI) (J : MJ), Inv I J → ∀ (x1 : Int32) (x2 : Int32) (x3 : Int32), vc_X10_around x1 x2 x3 I J (fun (r : Int32) (I1 : MI) (J1 : MJ) => vc_X11_around x1 x2 x3 I1 J1 (fun (q : Int32) (I2 : MI) (J2 : MJ) => r = q ∧ Inv I2 J2))) (P30 : ∀ (I : MI) (J : MJ), Inv I J → ∀ (x1 : Int32), vc_X10_put x1 I J (fun (r : Int32) (I1 : MI) (J1 : MJ) => vc_X11_put x1 I1 J1 (fun (q : Int32) (I2 : MI) (J2 : MJ) => r = q ∧ Inv I2 J2))) (P31 : ∀ (I : MI) (J : MJ), Inv I J → vc_X10_wipe I J (fun (r : Int32) (I1 : MI) (J1 : MJ) => vc_X11_wipe I1 J1 (fun (q : Int32) (I2 : MI) (J2 : MJ) => r = q ∧ Inv I2 J2))) (P32 : ∀ (I : MI) (J : MJ), Inv I J → ∀ (x1 : Int32) (x2 : Int32), vc_X10_pass x1 x2 I J (fun (r : Int32) (I1 : MI) (J1 : MJ) => vc_X11_pass x1 x2 I1 J1 (fun (q : Int32) (I2 : MI) (J2 : MJ) => r = q ∧ Inv I2 J2))) (P33 : ∀ (I : MI) (J : MJ), Inv I J → ∀ (x1 : Int32) (x2 : Int32) (x3 : Int32) (x4 : Int32), vc_X10_winds x1 x2 x3 x4 I J (fun (r : Int32) (I1 : MI) (J1 : MJ) => vc_X11_winds x1 x2 x3 x4 I1 J1 (fun (q : Int32) (I2 : MI) (J2 : MJ) => r = q ∧ Inv I2 J2))) (P34 : ∀ (I : MI) (J : MJ), Inv I J → ∀ (x1 : Int32), vc_X10_count x1 I J (fun (r : Int32) (I1 : MI) (J1 : MJ) => vc_X11_count x1 I1 J1 (fun (q : Int32) (I2 : MI) (J2 : MJ) => r = q ∧ Inv I2 J2))) : W p l e room_1 s m #[Value.ref b] below meth c s.heap [] 0 0 (lw_Z below #[Value.ref b] s) (entryFrame m ([Value.ref b] : List Value).toArray 4) := by
  obtain ⟨hx, hb, hr, hml, hown, hts0, hX, hbl, hlocks, hgv⟩ := id C0
  obtain ⟨hNS, E, hSx⟩ := start_Sx hts0 hgv
  have hts : ∀ w ∈ wsL_law, w.before #[Value.ref b] s = true := fun w h => hts0 w (wsL_law_in w h)
  have hA : ∀ q : Nat, s.heap.size ≤ q → (fun q : Nat => s.heap.size ≤ q) q := fun _ h => h
  have hbA : ¬ (fun q : Nat => s.heap.size ≤ q) b := Nat.not_le.mpr hbl
  have hS : va_S (fun q : Nat => s.heap.size ≤ q) s.heap s.heap [] := va_S.rf
  have hK := hSx.1
  have hP : va_P (eD E) vwCl [] s.heap := fun k q h => by simp at h
  have hD : va_D (fun q : Nat => s.heap.size ≤ q) [] := ⟨fun i j p q h => by simp at h, fun k q h => by simp at h⟩
  have hl := lv_entry ([.ref b]) (n := 4) (Nat.le_of_ble_eq_true rfl)
  rw [lg_entry_eq]
  generalize (lg_sl ([.ref b]) ++ List.replicate (4 - (lg_sl ([.ref b])).length) Slot.unset).toArray = ls at hl ⊢
  have hl : lv_has ls 4 [(0, .ref b)] := hl
  refine va_new (ci := 8) (fs := [.null, .null, .null, .null, .null, .null, .null, .null, .null]) (C := RX10) (T := TX10) (N := 9) hx hb hts inlX10 tyX10 tyX10_ok hown (hts _ wl_1.1) (hts _ wl_1.2.1) (hts _ wl_1.2.2.1) hK hP hD hS hA rfl df_X10 (Nat.le_of_ble_eq_true rfl) (Nat.le_of_ble_eq_true rfl) dL_law_0 (fun h0 H hP hD hS => ?_)
  refine lv_dup hx hb dL_law_3 rfl ?_
  have hFc : ∀ q, va_A ([] ++ [(h0, e0_X10)]) H.size q → s.heap.size ≤ q := fun q h => h.elim (fun ⟨k, e, h⟩ => hD.2 k (q, e) h) (fun h => Nat.le_trans hS.1 h)
  refine va_callv (va_runI (As := []) (rest := [.ref h0]) ⟨hx, hb, hml, hown, hts⟩ (c_X10_init l E [] h0 H.size) (cwI 0 hts gL_law_X10_init rfl rfl rfl (hts _ wl_1.2.2.1) (hts _ wl_1.2.2.2.1) (hts _ wl_1.2.2.2.2) rfl yo_X10_init ⟨Nat.le_of_ble_eq_true rfl, Nat.le_of_ble_eq_true rfl⟩) ⟨preN_blind, fun U hU hW => ⟨rfl, by rw [hU], by rw [hU]; exact hP, va_K.moved hW.alike hK, hD.weaken (fun _ _ _ _ => trivial), hNS.warm hW⟩⟩ rfl rfl hl.1 rfl (lv_room (Nat.le_of_ble_eq_true rfl)) dL_law_4 ⟨Nat.le_of_ble_eq_true rfl, Nat.le_of_ble_eq_true rfl⟩) hS (fun q _ h => hFc q h) hFc (fun u t H1 locs ht hvm hu hB hz1 hk1 hS => ?_)
  obtain ⟨hP1, hD1⟩ := hB
  rw [ht] at hP1
  have hP : va_P (eD E) vwCl (po_X10 E h0 u) H1 := hP1
  have hD : va_D (fun q : Nat => s.heap.size ≤ q) (po_X10 E h0 u) := hD1.weaken (fun _ q _ h => hFc q.1 h)
  clear hP1 hD1 hk1
  generalize H1 = H2 at hP hS ht hz1 ⊢
  refine lv_astore_n (lv' := [(1, .ref h0), (0, .ref b)]) hx hb dL_law_7 rfl hl (by decide) rfl (fun ls hl => ?_)
  refine va_new (ci := 9) (fs := [.int 0, .null, .int 0, .null, .int 0, .null, .long 0, .int 0, .null, .int 0, .int 0, .long 0, .int 0, .int 0, .int 0, .int 0, .int 0, .int 0, .int 0, .null, .null, .null, .null, .null, .int 0, .null, .int 0, .null, .int 0, .null, .null, .null, .null, .null, .null, .null, .null, .null, .null]) (C := RX11) (T := TX11) (N := 39) hx hb hts inlX11 tyX11 tyX11_ok hown (hts _ wl_2.1) (hts _ wl_2.2.1) (hts _ wl_2.2.2.1) hK hP hD hS hA rfl df_X11 (Nat.le_of_ble_eq_true rfl) (Nat.le_of_ble_eq_true rfl) dL_law_8 (fun hm H hP hD hS => ?_)
  refine lv_dup hx hb dL_law_11 rfl ?_
  have hFc2 : ∀ q, va_A (po_X10 E h0 u ++ [(hm, e0_X11)]) H.size q → s.heap.size ≤ q := fun q h => h.elim (fun ⟨k, e, h⟩ => hD.2 k (q, e) h) (fun h => Nat.le_trans hS.1 h)
  refine va_callv (va_runI (As := []) (rest := [.ref hm]) ⟨hx, hb, hml, hown, hts⟩ (c_X11_init l E h0 u hm hb0 H.size) (cwI 0 hts gL_law_X11_init rfl rfl rfl (hts _ wl_2.2.2.1) (hts _ wl_2.2.2.2.1) (hts _ wl_2.2.2.2.2) rfl yo_X11_init ⟨Nat.le_of_ble_eq_true rfl, Nat.le_of_ble_eq_true rfl⟩) ⟨preM_blind, fun U hU hW => ⟨rfl, by rw [hU], by rw [hU]; exact hP, hD.weaken (fun _ _ _ _ => trivial), hNS.warm hW, by rw [hU]; exact hSx.warm hW hS.2.1 hFc2⟩⟩ rfl rfl hl.1 rfl (lv_room (Nat.le_of_ble_eq_true rfl)) dL_law_12 ⟨Nat.le_of_ble_eq_true rfl, Nat.le_of_ble_eq_true rfl⟩) hS (fun q _ h => hFc2 q h) hFc2 (fun w t H1 locs ht hvm hw hB hz1 hk1 hS => ?_)
  obtain ⟨v, I, J⟩ := w
  obtain ⟨hP1, hinj, hAi⟩ := hB
  rw [ht] at hP1
  refine lv_astore_n (lv' := [(2, .ref hm), (1, .ref h0), (0, .ref b)]) hx hb dL_law_15 rfl hl (by decide) rfl (fun ls hl => ?_)
  refine lv_iconst (v := 0) hx hb dL_law_16 (by decide) ?_
  refine lv_istore_n (lv' := [(3, .int 0), (2, .ref hm), (1, .ref h0), (0, .ref b)]) hx hb dL_law_17 rfl hl (by decide) rfl (fun ls hl => ?_)
  have X : Cx ((p, l, e, room_1, s), (m, #[Value.ref b], below, meth, c), (lw_Z below #[Value.ref b] s, fun q : Nat => s.heap.size ≤ q, mkE E h0 u hm v, 109, 5485)) code 4 RL wsL_law room_1 (some .boolean) :=
    ⟨hx, hb, hml, hown, hts, hlocks, hr, rfl, hSx, hinj, fun i hi => hFc2 _ (hAi i hi), hA, Nat.le_of_ble_eq_true rfl, Nat.le_of_ble_eq_true rfl⟩
  refine law_loop X P0 P1 P2 P3 P4 P5 P6 P7 P8 P9 P10 P11 P12 P13 P14 P15 P16 P17 P18 P19 P20 P21 P22 P23 P24 P25 P26 P27 P28 P29 P30 P31 P32 P33 P34 hL hX hbl hbA (fun I J i hI => ?_) 2001 0 I J (by omega) hw (by omega) H1 locs ls hP1 hS (lv_sub hl [3, 2, 1, 0] rfl)
  refine g_iconst X (v := 1) dL_law_1270 (by decide) ?_
  intro H locs ls hP hS hl
  refine va_forget (fun q hq => hS.2.2 q hq) ?_
  exact W.widen (k := 600000) (n := 7302250) (Nat.le_of_ble_eq_true rfl) (Nat.le_of_ble_eq_true rfl) (lw_ret hx hb hr hlocks dL_law_1271)
