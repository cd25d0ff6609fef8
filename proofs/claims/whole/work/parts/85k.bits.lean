/-! ===== how many bits are set ===== -/
def uN (x : Int64) : Nat := x.toBitVec.toNat
theorem uN_lt (x : Int64) : uN x < 2 ^ 64 := x.toBitVec.isLt
theorem uN_and (x y : Int64) : uN (x &&& y) = uN x &&& uN y := by unfold uN; rw [Int64.toBitVec_and, BitVec.toNat_and]
theorem uN_add (x y : Int64) : uN (x + y) = (uN x + uN y) % 2 ^ 64 := by unfold uN; rw [Int64.toBitVec_add, BitVec.toNat_add]
theorem uN_sub {x y : Int64} (h : uN y ≤ uN x) : uN (x - y) = uN x - uN y := by
  have h1 := uN_lt x
  have h2 := uN_lt y
  unfold uN at h h1 h2 ⊢
  rw [Int64.toBitVec_sub, BitVec.toNat_sub]
  omega
theorem uN_shr (x : Int64) (c : UInt64) (k : Nat) (hc : c.toNat % 64 = k) : uN ((Int64.toUInt64 x >>> c).toInt64) = uN x / 2 ^ k := by
  show (Int64.toUInt64 x >>> c).toNat = _
  rw [UInt64.toNat_shiftRight, hc, Nat.shiftRight_eq_div_pow]
  rfl
theorem andR (X m M : Nat) (hm : m < 256) : X &&& (m + 256 * M) = (X % 256 &&& m) + 256 * ((X / 256) &&& M) := by
  have h1 := Nat.mod_add_div (X &&& (m + 256 * M)) 256
  have h2 : (X &&& (m + 256 * M)) % 2 ^ 8 = (X % 2 ^ 8) &&& ((m + 256 * M) % 2 ^ 8) := Nat.and_mod_two_pow
  have h3 : (X &&& (m + 256 * M)) / 2 ^ 8 = (X / 2 ^ 8) &&& ((m + 256 * M) / 2 ^ 8) := Nat.and_div_two_pow
  have e1 : (m + 256 * M) % 2 ^ 8 = m := by omega
  have e2 : (m + 256 * M) / 2 ^ 8 = M := by omega
  rw [e1] at h2
  rw [e2] at h3
  have h2' : (X &&& (m + 256 * M)) % 256 = (X % 256) &&& m := h2
  have h3' : (X &&& (m + 256 * M)) / 256 = (X / 256) &&& M := h3
  rw [h2', h3'] at h1
  exact h1.symm
theorem bf1 : ∀ d, d < 256 → ∀ e, e < 2 → (d / 2 + 128 * e) &&& 0x55 = (d / 2) &&& 0x55 := by decide +kernel
theorem bf2 : ∀ d, d < 256 → ∀ e, e < 4 → (d / 4 + 64 * e) &&& 0x33 = (d / 4) &&& 0x33 := by decide +kernel
theorem bf3 : ∀ d, d < 100 → ∀ e, e < 8 → (d + d / 16 + 16 * e) &&& 0x0f = (d + d / 16) &&& 0x0f := by decide +kernel
def by1 (d : Nat) : Nat := d - ((d / 2) &&& 0x55)
def by2 (d : Nat) : Nat := (by1 d &&& 0x33) + ((by1 d / 4) &&& 0x33)
def by3 (d : Nat) : Nat := (by2 d + by2 d / 16) &&& 0x0f
def cntN (n : Nat) : Nat → Nat
  | 0 => 0
  | k + 1 => cntN n k + n / 2 ^ k % 2
theorem bf4 : ∀ d, d < 256 → ((d / 2) &&& 0x55) ≤ d ∧ by1 d < 256 ∧ by2 d < 100 ∧ by2 d % 16 < 8 ∧ by3 d ≤ 8 ∧ by3 d = cntN d 8 := by decide +kernel
theorem st1 {d R M : Nat} (hd : d < 256) : ((d + 256 * R) / 2) &&& (0x55 + 256 * M) = ((d / 2) &&& 0x55) + 256 * ((R / 2) &&& M) := by
  rw [andR _ _ _ (by decide), show (d + 256 * R) / 2 % 256 = d / 2 + 128 * (R % 2) by omega, show (d + 256 * R) / 2 / 256 = R / 2 by omega, bf1 d hd _ (Nat.mod_lt _ (by decide))]
theorem st2 {d R M : Nat} (hd : d < 256) : ((d + 256 * R) / 4) &&& (0x33 + 256 * M) = ((d / 4) &&& 0x33) + 256 * ((R / 4) &&& M) := by
  rw [andR _ _ _ (by decide), show (d + 256 * R) / 4 % 256 = d / 4 + 64 * (R % 4) by omega, show (d + 256 * R) / 4 / 256 = R / 4 by omega, bf2 d hd _ (Nat.mod_lt _ (by decide))]
theorem st2' {d R M : Nat} (hd : d < 256) : (d + 256 * R) &&& (0x33 + 256 * M) = (d &&& 0x33) + 256 * (R &&& M) := by
  rw [andR _ _ _ (by decide), show (d + 256 * R) % 256 = d by omega, show (d + 256 * R) / 256 = R by omega]
theorem st3 {d R M : Nat} (hd : d < 100) (hR : R % 16 < 8) : ((d + 256 * R) + (d + 256 * R) / 16) &&& (0x0f + 256 * M) = ((d + d / 16) &&& 0x0f) + 256 * ((R + R / 16) &&& M) := by
  rw [andR _ _ _ (by decide), show ((d + 256 * R) + (d + 256 * R) / 16) % 256 = d + d / 16 + 16 * (R % 16) by omega, show ((d + 256 * R) + (d + 256 * R) / 16) / 256 = R + R / 16 by omega, bf3 d hd _ hR]
/-- a number by its bytes -/
def ofB : List Nat → Nat
  | [] => 0
  | d :: ds => d + 256 * ofB ds
def mkB (m : Nat) : Nat → Nat
  | 0 => 0
  | k + 1 => m + 256 * mkB m k
theorem dg1 : ∀ ds : List Nat, (∀ d ∈ ds, d < 256) → (ofB ds / 2) &&& mkB 0x55 ds.length = ofB (ds.map (fun d => (d / 2) &&& 0x55))
  | [], _ => by decide
  | d :: ds, h => by
    show ((d + 256 * ofB ds) / 2) &&& (0x55 + 256 * mkB 0x55 ds.length) = _
    rw [st1 (h d List.mem_cons_self), dg1 ds (fun x hx => h x (List.mem_cons_of_mem _ hx))]
    rfl
theorem dg1s : ∀ ds : List Nat, (∀ d ∈ ds, d < 256) → ofB (ds.map (fun d => (d / 2) &&& 0x55)) ≤ ofB ds ∧ ofB ds - ofB (ds.map (fun d => (d / 2) &&& 0x55)) = ofB (ds.map by1)
  | [], _ => by decide
  | d :: ds, h => by
    have h1 := dg1s ds (fun x hx => h x (List.mem_cons_of_mem _ hx))
    have h2 := (bf4 d (h d List.mem_cons_self)).1
    show ((d / 2) &&& 0x55) + 256 * ofB (ds.map (fun d => (d / 2) &&& 0x55)) ≤ d + 256 * ofB ds ∧ (d + 256 * ofB ds) - (((d / 2) &&& 0x55) + 256 * ofB (ds.map (fun d => (d / 2) &&& 0x55))) = (d - ((d / 2) &&& 0x55)) + 256 * ofB (ds.map by1)
    rw [← h1.2]
    omega
theorem dg2 : ∀ ds : List Nat, (∀ d ∈ ds, d < 256) → (ofB (ds.map by1) &&& mkB 0x33 ds.length) + ((ofB (ds.map by1) / 4) &&& mkB 0x33 ds.length) = ofB (ds.map by2)
  | [], _ => by decide
  | d :: ds, h => by
    have h1 := dg2 ds (fun x hx => h x (List.mem_cons_of_mem _ hx))
    have h2 := (bf4 d (h d List.mem_cons_self)).2.1
    show ((by1 d + 256 * ofB (ds.map by1)) &&& (0x33 + 256 * mkB 0x33 ds.length)) + (((by1 d + 256 * ofB (ds.map by1)) / 4) &&& (0x33 + 256 * mkB 0x33 ds.length)) = by2 d + 256 * ofB (ds.map by2)
    rw [st2 h2, st2' h2, ← h1]
    show _ = (by1 d &&& 0x33) + ((by1 d / 4) &&& 0x33) + _
    omega
theorem dg3 : ∀ ds : List Nat, (∀ d ∈ ds, d < 256) → ((ofB (ds.map by2) + ofB (ds.map by2) / 16) &&& mkB 0x0f ds.length) = ofB (ds.map by3)
  | [], _ => by decide
  | d :: ds, h => by
    have h1 := dg3 ds (fun x hx => h x (List.mem_cons_of_mem _ hx))
    have h2 := bf4 d (h d List.mem_cons_self)
    have h3 : ofB (ds.map by2) % 16 < 8 := by
      cases ds with
      | nil => decide
      | cons e es =>
        have h4 := (bf4 e (h e (by simp))).2.2.2.1
        show (by2 e + 256 * ofB (es.map by2)) % 16 < 8
        omega
    show ((by2 d + 256 * ofB (ds.map by2)) + (by2 d + 256 * ofB (ds.map by2)) / 16) &&& (0x0f + 256 * mkB 0x0f ds.length) = by3 d + 256 * ofB (ds.map by3)
    rw [st3 h2.2.2.1 h3, h1, by3]
theorem cnt8 {d R : Nat} (hd : d < 256) : cntN (d + 256 * R) 8 = cntN d 8 := by
  show 0 + (d + 256 * R) / 2 ^ 0 % 2 + (d + 256 * R) / 2 ^ 1 % 2 + (d + 256 * R) / 2 ^ 2 % 2 + (d + 256 * R) / 2 ^ 3 % 2 + (d + 256 * R) / 2 ^ 4 % 2 + (d + 256 * R) / 2 ^ 5 % 2 + (d + 256 * R) / 2 ^ 6 % 2 + (d + 256 * R) / 2 ^ 7 % 2 = 0 + d / 2 ^ 0 % 2 + d / 2 ^ 1 % 2 + d / 2 ^ 2 % 2 + d / 2 ^ 3 % 2 + d / 2 ^ 4 % 2 + d / 2 ^ 5 % 2 + d / 2 ^ 6 % 2 + d / 2 ^ 7 % 2
  omega
theorem cntS {d R : Nat} (hd : d < 256) : ∀ k, cntN (d + 256 * R) (8 + k) = cntN d 8 + cntN R k
  | 0 => cnt8 hd
  | k + 1 => by
    show cntN (d + 256 * R) (8 + k) + (d + 256 * R) / 2 ^ (8 + k) % 2 = cntN d 8 + (cntN R k + R / 2 ^ k % 2)
    rw [cntS hd k, Nat.pow_add, ← Nat.div_div_eq_div_mul, show (d + 256 * R) / 2 ^ 8 = R by omega]
    omega
def smL : List Nat → Nat
  | [] => 0
  | d :: ds => d + smL ds
theorem cntB_ : ∀ ds : List Nat, (∀ d ∈ ds, d < 256) → cntN (ofB ds) (8 * ds.length) = smL (ds.map by3)
  | [], _ => rfl
  | d :: ds, h => by
    have hd := h d List.mem_cons_self
    show cntN (d + 256 * ofB ds) (8 * (ds.length + 1)) = by3 d + smL (ds.map by3)
    rw [show 8 * (ds.length + 1) = 8 + 8 * ds.length by omega, cntS hd, cntB_ ds (fun x hx => h x (List.mem_cons_of_mem _ hx)), (bf4 d hd).2.2.2.2.2]
theorem bitsR : ∀ k n : Nat, n < 256 ^ k → ∃ ds : List Nat, ds.length = k ∧ (∀ d ∈ ds, d < 256) ∧ n = ofB ds
  | 0, n, h => ⟨[], rfl, fun d hd => absurd hd List.not_mem_nil, by have : n < 1 := h; show n = 0; omega⟩
  | k + 1, n, h => by
    obtain ⟨ds, h1, h2, h3⟩ := bitsR k (n / 256) (by rw [Nat.pow_succ] at h; exact Nat.div_lt_of_lt_mul (by rw [Nat.mul_comm]; exact h))
    refine ⟨n % 256 :: ds, by rw [List.length_cons, h1], fun d hd => ?_, ?_⟩
    · rcases List.mem_cons.mp hd with e | e
      · subst e; exact Nat.mod_lt _ (by decide)
      · exact h2 d e
    · show n = n % 256 + 256 * ofB ds
      rw [← h3]; omega
theorem bitsN {n : Nat} (hn : n < 2 ^ 64) : ∃ ds : List Nat, ds.length = 8 ∧ (∀ d ∈ ds, d < 256) ∧ n = ofB ds := bitsR 8 n hn
theorem dvl {a b m : Nat} (h : a < m) : (a + m * b) / m = b := by
  rw [Nat.add_mul_div_left _ _ (by omega), Nat.div_eq_of_lt h, Nat.zero_add]
def cntB (x : Int64) : Nat → Nat
  | 0 => 0
  | k + 1 => cntB x k + (if bj x k then 1 else 0)
theorem cntB_N (x : Int64) : ∀ k, cntB x k = cntN (uN x) k
  | 0 => rfl
  | k + 1 => by
    show cntB x k + (if bj x k then 1 else 0) = cntN (uN x) k + uN x / 2 ^ k % 2
    rw [cntB_N x k]
    congr 1
    show (if (uN x).testBit k then 1 else 0) = _
    rw [Nat.testBit_eq_decide_div_mod_eq]
    have := Nat.mod_lt (uN x / 2 ^ k) (show 0 < 2 by decide)
    by_cases h : uN x / 2 ^ k % 2 = 1
    · rw [if_pos (by simpa using h), h]
    · rw [if_neg (by simpa using h)]; omega
theorem cntB_le (x : Int64) : ∀ k, cntB x k ≤ k
  | 0 => Nat.le_refl 0
  | k + 1 => by
    show cntB x k + (if bj x k then 1 else 0) ≤ k + 1
    have := cntB_le x k
    split <;> omega
theorem cntB_cut {x : Int64} {n : Nat} (h : ∀ k, n ≤ k → bj x k = false) : ∀ d, cntB x (n + d) = cntB x n
  | 0 => rfl
  | d + 1 => by
    show cntB x (n + d) + (if bj x (n + d) then 1 else 0) = _
    rw [h (n + d) (by omega), cntB_cut h d]
    rfl
/-- the low bits of a long, as an int -/
theorem lowI (x : Int64) : (Int64.toInt32 x) &&& 127 = nI (uN x % 128) := by
  apply Int32.toBitVec_inj.mp
  apply BitVec.eq_of_toNat_eq
  rw [Int32.toBitVec_and, BitVec.toNat_and]
  have h1 : (Int64.toInt32 x).toBitVec.toNat = uN x % 2 ^ 32 := by
    show (x.toBitVec.signExtend 32).toNat = _
    rw [BitVec.signExtend_eq_setWidth_of_le _ (by decide), BitVec.toNat_setWidth]
    rfl
  have h2 : (127 : Int32).toBitVec.toNat = 2 ^ 7 - 1 := by decide
  have h3 : (nI (uN x % 128)).toBitVec.toNat = uN x % 128 := by
    show (BitVec.ofNat 32 (uN x % 128)).toNat = _
    rw [BitVec.toNat_ofNat]
    omega
  rw [h1, h2, h3, Nat.and_two_pow_sub_one_eq_mod]
  omega
theorem dv128 : 128 ∣ 2 ^ 64 := Nat.dvd_of_mod_eq_zero (by decide +kernel)
theorem of8 (a b c d e f g i : Nat) : ofB [a, b, c, d, e, f, g, i] = a + 256 * (b + 256 * (c + 256 * (d + 256 * (e + 256 * (f + 256 * (g + 256 * i)))))) := by
  simp only [ofB, Nat.mul_zero, Nat.add_zero]
theorem sm8 (a b c d e f g i : Nat) : smL [a, b, c, d, e, f, g, i] = a + (b + (c + (d + (e + (f + (g + (i + 0))))))) := by
  simp only [smL]
theorem mp8 (F : Nat → Nat) (a b c d e f g i : Nat) : List.map F [a, b, c, d, e, f, g, i] = [F a, F b, F c, F d, F e, F f, F g, F i] := by
  simp only [List.map]
theorem lin64 {a b c d e f g i : Nat} (h1 : a < 100) (h2 : b < 100) (h3 : c < 100) (h4 : d < 100) (h5 : e < 100) (h6 : f < 100) (h7 : g < 100) (h8 : i < 100) : a + 256 * (b + 256 * (c + 256 * (d + 256 * (e + 256 * (f + 256 * (g + 256 * i)))))) < 2 ^ 64 := by omega
theorem lin63 {a b c d e f g i : Nat} (h1 : a < 100) (h2 : b < 100) (h3 : c < 100) (h4 : d < 100) (h5 : e < 100) (h6 : f < 100) (h7 : g < 100) (h8 : i < 100) : a + 256 * (b + 256 * (c + 256 * (d + 256 * (e + 256 * (f + 256 * (g + 256 * i)))))) < 2 ^ 63 := by omega
/-- the last steps: sums of bytes -/
theorem sumB {A B C D E F G H X4 X5 : Nat} (b0 : A ≤ 8) (b1 : B ≤ 8) (b2 : C ≤ 8) (b3 : D ≤ 8) (b4 : E ≤ 8) (b5 : F ≤ 8) (b6 : G ≤ 8) (b7 : H ≤ 8)
    (e4 : X4 = ((A + 256 * (B + 256 * (C + 256 * (D + 256 * (E + 256 * (F + 256 * (G + 256 * H))))))) + (A + 256 * (B + 256 * (C + 256 * (D + 256 * (E + 256 * (F + 256 * (G + 256 * H))))))) / 2 ^ 8) % 2 ^ 64)
    (e5 : X5 = (X4 + X4 / 2 ^ 16) % 2 ^ 64) : (X5 + X5 / 2 ^ 32) % 2 ^ 64 % 128 = A + (B + (C + (D + (E + (F + (G + (H + 0))))))) := by
  have h4 : X4 = (A + B + 256 * (B + C)) + 65536 * ((C + D) + 256 * ((D + E) + 256 * ((E + F) + 256 * ((F + G) + 256 * ((G + H) + 256 * H))))) := by
    rw [e4, show (2 : Nat) ^ 8 = 256 from rfl, dvl (by omega), Nat.mod_eq_of_lt (by omega)]
    omega
  clear e4
  have h5 : X5 = ((A + B + C + D) + 256 * ((B + C + D + E) + 256 * ((C + D + E + F) + 256 * (D + E + F + G)))) + 4294967296 * ((E + F + G + H) + 256 * ((F + G + H) + 256 * ((G + H) + 256 * H))) := by
    rw [e5, h4, show (2 : Nat) ^ 16 = 65536 from rfl, dvl (by omega), Nat.mod_eq_of_lt (by omega)]
    omega
  clear e5 h4
  rw [h5, show (2 : Nat) ^ 32 = 4294967296 from rfl, dvl (by omega), Nat.mod_mod_of_dvd _ dv128]
  clear h5
  have e : ((A + B + C + D) + 256 * ((B + C + D + E) + 256 * ((C + D + E + F) + 256 * (D + E + F + G)))) + 4294967296 * ((E + F + G + H) + 256 * ((F + G + H) + 256 * ((G + H) + 256 * H))) + ((E + F + G + H) + 256 * ((F + G + H) + 256 * ((G + H) + 256 * H))) = (A + B + C + D + E + F + G + H) + 128 * (2 * (((B + C + D + E) + 256 * ((C + D + E + F) + 256 * (D + E + F + G))) + 16777216 * ((E + F + G + H) + 256 * ((F + G + H) + 256 * ((G + H) + 256 * H))) + ((F + G + H) + 256 * ((G + H) + 256 * H)))) := by omega
  rw [e, Nat.add_mul_mod_self_left, Nat.mod_eq_of_lt (by omega)]
  omega
theorem s_bits {x : Int64} {I : MI} {J : MJ} {Q : Int32 → MI → MJ → Prop} (q : Q (nI (cntB x 64)) I J) : vc_J13_bitCount_95d88 x I J Q := by
  obtain ⟨ds, hl, hd, hn⟩ := bitsN (uN_lt x)
  have k1 : (((Int32.toInt64 1).toUInt64 &&& Int64.toUInt64 63).toNat % 64) = 1 := by decide +kernel
  have k2 : (((Int32.toInt64 2).toUInt64 &&& Int64.toUInt64 63).toNat % 64) = 2 := by decide +kernel
  have k4 : (((Int32.toInt64 4).toUInt64 &&& Int64.toUInt64 63).toNat % 64) = 4 := by decide +kernel
  have k8 : (((Int32.toInt64 8).toUInt64 &&& Int64.toUInt64 63).toNat % 64) = 8 := by decide +kernel
  have k16 : (((Int32.toInt64 16).toUInt64 &&& Int64.toUInt64 63).toNat % 64) = 16 := by decide +kernel
  have k32 : (((Int32.toInt64 32).toUInt64 &&& Int64.toUInt64 63).toNat % 64) = 32 := by decide +kernel
  have m1 : uN 6148914691236517205 = mkB 0x55 8 := by decide +kernel
  have m2 : uN 3689348814741910323 = mkB 0x33 8 := by decide +kernel
  have m3 : uN 1085102592571150095 = mkB 0x0f 8 := by decide +kernel
  unfold vc_J13_bitCount_95d88
  intro x1 e1 x2 e2 x3 e3 x4 e4 x5 e5 x6 e6
  have h1 : uN x1 = ofB (ds.map by1) := by
    have e : uN (((Int64.toUInt64 x >>> ((Int32.toInt64 1).toUInt64 &&& Int64.toUInt64 63)).toInt64) &&& 6148914691236517205) = ofB (ds.map (fun d => (d / 2) &&& 0x55)) := by
      rw [uN_and, uN_shr _ _ 1 k1, m1, hn, ← dg1 ds hd, hl]
    have h := dg1s ds hd
    rw [e1, uN_sub (by rw [e, hn]; exact h.1), e, hn, h.2]
  have h2 : uN x2 = ofB (ds.map by2) := by
    have h := dg2 ds hd
    rw [hl] at h
    have e : uN (x1 &&& 3689348814741910323) + uN (((Int64.toUInt64 x1 >>> ((Int32.toInt64 2).toUInt64 &&& Int64.toUInt64 63)).toInt64) &&& 3689348814741910323) = ofB (ds.map by2) := by
      rw [uN_and, uN_and, uN_shr _ _ 2 k2, m2, h1]
      exact h
    have hb : ofB (ds.map by2) < 2 ^ 64 := by
      match ds, hl, hd with
      | [a, b, c, d, e, f, g, i], _, hd =>
        have h1 := (bf4 a (hd a (by simp))).2.2.1
        have h2 := (bf4 b (hd b (by simp))).2.2.1
        have h3 := (bf4 c (hd c (by simp))).2.2.1
        have h4 := (bf4 d (hd d (by simp))).2.2.1
        have h5 := (bf4 e (hd e (by simp))).2.2.1
        have h6 := (bf4 f (hd f (by simp))).2.2.1
        have h7 := (bf4 g (hd g (by simp))).2.2.1
        have h8 := (bf4 i (hd i (by simp))).2.2.1
        rw [mp8, of8]
        exact lin64 h1 h2 h3 h4 h5 h6 h7 h8
    rw [e2, uN_add, e, Nat.mod_eq_of_lt hb]
  match ds, hl, hd with
  | [a, b, c, d, e, f, g, i], hl, hd =>
    have fa := bf4 a (hd a (by simp))
    have fb := bf4 b (hd b (by simp))
    have fc := bf4 c (hd c (by simp))
    have fd := bf4 d (hd d (by simp))
    have fe := bf4 e (hd e (by simp))
    have ff := bf4 f (hd f (by simp))
    have fg := bf4 g (hd g (by simp))
    have fi := bf4 i (hd i (by simp))
    have h3 : uN x3 = by3 a + 256 * (by3 b + 256 * (by3 c + 256 * (by3 d + 256 * (by3 e + 256 * (by3 f + 256 * (by3 g + 256 * by3 i)))))) := by
      have h := dg3 _ hd
      rw [← h2, hl, mp8, of8] at h
      have hb : uN x2 + uN x2 / 2 ^ 4 < 2 ^ 64 := by
        have hb2 : uN x2 < 2 ^ 63 := by
          rw [h2, mp8, of8]
          exact lin63 fa.2.2.1 fb.2.2.1 fc.2.2.1 fd.2.2.1 fe.2.2.1 ff.2.2.1 fg.2.2.1 fi.2.2.1
        have h9 := Nat.div_le_self (uN x2) (2 ^ 4)
        clear h
        omega
      rw [e3, uN_and, uN_add, uN_shr _ _ 4 k4, Nat.mod_eq_of_lt hb, m3, show (2 : Nat) ^ 4 = 16 from rfl]
      exact h
    have ca := cntB_ _ hd
    rw [← hn, hl, mp8, sm8, show 8 * 8 = 64 from rfl] at ca
    rw [cntB_N, ca] at q
    have h6 := sumB fa.2.2.2.2.1 fb.2.2.2.2.1 fc.2.2.2.2.1 fd.2.2.2.2.1 fe.2.2.2.2.1 ff.2.2.2.2.1 fg.2.2.2.2.1 fi.2.2.2.2.1 (X4 := uN x4) (X5 := uN x5) (by rw [e4, uN_add, uN_shr _ _ 8 k8, h3]) (by rw [e5, uN_add, uN_shr _ _ 16 k16])
    rw [← uN_shr x5 _ 32 k32, ← uN_add, ← e6] at h6
    rw [lowI, h6]
    exact q
