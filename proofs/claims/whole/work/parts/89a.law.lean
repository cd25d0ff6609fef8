/-! ===== the law ===== -/
section GWX
variable {Z : RT} {cc : ByteArray} {nL : Nat} {own : String} {Ts : List Cond} {rm : Room} {rt : Option FieldType} {I : MI} {J : MJ} {pc : Nat} {lv : List (Nat × Value)} {rest : List Value}
theorem g_sld (X : Cx Z cc nL own Ts rm rt) {b L : Nat} {xs : Nat → Int32} (hX : va_X b L xs (zs Z) (zs Z).heap) (hbl : b < (zs Z).heap.size) (hbA : ¬ zA Z b) {i : Int32} (hin : vp_in i L) (d : decode cc pc = .ok (.iaload, 1)) (k : GW Z nL I J (pc + 1) lv (.int (xs i.toNatClampNeg) :: rest)) : GW Z nL I J pc lv (.int i :: .ref b :: rest) :=
  fun H locs ls hP hS hl => va_sld (cx_hx X) (cx_hb X) hX hbl hbA hS hin d (k H locs ls hP hS hl)
theorem g_slenL (X : Cx Z cc nL own Ts rm rt) {b L : Nat} {xs : Nat → Int32} (hX : va_X b L xs (zs Z) (zs Z).heap) (hbl : b < (zs Z).heap.size) (hbA : ¬ zA Z b) (d : decode cc pc = .ok (.arraylength, 1)) (k : GW Z nL I J (pc + 1) lv (.int (nI L) :: rest)) : GW Z nL I J pc lv (.ref b :: rest) :=
  fun H locs ls hP hS hl => va_slen (cx_hx X) (cx_hb X) hX hbl hbA hS d (k H locs ls hP hS hl)
end GWX
set_option maxRecDepth 100000 in
set_option maxHeartbeats 4000000 in
theorem law_0 {Z : RT} (X : Cx Z code 4 RL wsL_law room_1 (some .boolean)) {Inv : MI → MJ → Prop} (P0 : ∀ (I : MI) (J : MJ), Inv I J → ∀ (x1 : Int32), vc_X10_write x1 I J (fun (r : Int32) (I1 : MI) (J1 : MJ) => vc_X11_write x1 I1 J1 (fun (q : Int32) (I2 : MI) (J2 : MJ) => r = q ∧ Inv I2 J2))) {b L i : Nat} {xs : Nat → Int32} (hX : va_X b L xs (zs Z) (zs Z).heap) (hbl : b < (zs Z).heap.size) (hbA : ¬ zA Z b) (b1 : vp_in (nI i + 1) L) (b2 : vp_in (nI i + 2) L) (b3 : vp_in (nI i + 3) L) (b4 : vp_in (nI i + 4) L) (hk : ∀ I J, Inv I J → GW Z 4 I J 1264 [(0, .ref b), (1, .ref (ea (zE Z) 0)), (2, .ref (ea (zE Z) 87)), (3, .int (nI i))] []) (I : MI) (J : MJ) (hI : Inv I J) : GW Z 4 I J 188 [(0, .ref b), (1, .ref (ea (zE Z) 0)), (2, .ref (ea (zE Z) 87)), (3, .int (nI i))] [] := by
  have h := P0 I J hI (xs (Int32.toNatClampNeg (nI i + 1)))
  refine g_aload_n X dL_law_188 rfl 1 rfl ?_
  refine g_aload_n X dL_law_189 rfl 0 rfl ?_
  refine g_iload_n X dL_law_190 rfl 3 rfl ?_
  refine g_iconst X (v := 1) dL_law_191 (by decide) ?_
  refine g_iadd X dL_law_192 ?_
  refine g_sld X hX hbl hbA b1 dL_law_193 ?_
  refine g_callVI X (b := 0) (As := [.int (xs (Int32.toNatClampNeg (nI i + 1)))]) (rest := []) (T := TX10) (N := 9) (c_X10_write (zl Z) (zE Z) (xs (Int32.toNatClampNeg (nI i + 1)))) gL_law_X10_write yo_X10_write rfl ⟨Nat.le_of_ble_eq_true rfl, Nat.le_of_ble_eq_true rfl⟩ (Nat.le_of_ble_eq_true rfl) rfl rfl rfl dL_law_194 h (fun r I1 J1 h => ?_)
  refine g_aload_n X dL_law_197 rfl 2 rfl ?_
  refine g_aload_n X dL_law_198 rfl 0 rfl ?_
  refine g_iload_n X dL_law_199 rfl 3 rfl ?_
  refine g_iconst X (v := 1) dL_law_200 (by decide) ?_
  refine g_iadd X dL_law_201 ?_
  refine g_sld X hX hbl hbA b1 dL_law_202 ?_
  refine g_callVI X (b := 87) (As := [.int (xs (Int32.toNatClampNeg (nI i + 1)))]) (rest := [.int r]) (T := TX11) (N := 39) (c_X11_write (zl Z) (zE Z) (xs (Int32.toNatClampNeg (nI i + 1)))) gL_law_X11_write yo_X11_write rfl ⟨Nat.le_of_ble_eq_true rfl, Nat.le_of_ble_eq_true rfl⟩ (Nat.le_of_ble_eq_true rfl) rfl rfl rfl dL_law_203 h (fun q I2 J2 h => ?_)
  obtain ⟨rfl, hI⟩ := h
  refine g_icmp_eq X (tgt := 1264) dL_law_206 (by decide) (fun _ => hk I2 J2 hI) (fun z => absurd rfl z)
set_option maxRecDepth 100000 in
set_option maxHeartbeats 4000000 in
theorem law_1 {Z : RT} (X : Cx Z code 4 RL wsL_law room_1 (some .boolean)) {Inv : MI → MJ → Prop} (P1 : ∀ (I : MI) (J : MJ), Inv I J → vc_X10_erase I J (fun (r : Int32) (I1 : MI) (J1 : MJ) => vc_X11_erase I1 J1 (fun (q : Int32) (I2 : MI) (J2 : MJ) => r = q ∧ Inv I2 J2))) {b L i : Nat} {xs : Nat → Int32} (hX : va_X b L xs (zs Z) (zs Z).heap) (hbl : b < (zs Z).heap.size) (hbA : ¬ zA Z b) (b1 : vp_in (nI i + 1) L) (b2 : vp_in (nI i + 2) L) (b3 : vp_in (nI i + 3) L) (b4 : vp_in (nI i + 4) L) (hk : ∀ I J, Inv I J → GW Z 4 I J 1264 [(0, .ref b), (1, .ref (ea (zE Z) 0)), (2, .ref (ea (zE Z) 87)), (3, .int (nI i))] []) (I : MI) (J : MJ) (hI : Inv I J) : GW Z 4 I J 211 [(0, .ref b), (1, .ref (ea (zE Z) 0)), (2, .ref (ea (zE Z) 87)), (3, .int (nI i))] [] := by
  have h := P1 I J hI
  refine g_aload_n X dL_law_211 rfl 1 rfl ?_
  refine g_callVI X (b := 0) (As := []) (rest := []) (T := TX10) (N := 9) (c_X10_erase (zl Z) (zE Z) ) gL_law_X10_erase yo_X10_erase rfl ⟨Nat.le_of_ble_eq_true rfl, Nat.le_of_ble_eq_true rfl⟩ (Nat.le_of_ble_eq_true rfl) rfl rfl rfl dL_law_212 h (fun r I1 J1 h => ?_)
  refine g_aload_n X dL_law_215 rfl 2 rfl ?_
  refine g_callVI X (b := 87) (As := []) (rest := [.int r]) (T := TX11) (N := 39) (c_X11_erase (zl Z) (zE Z) ) gL_law_X11_erase yo_X11_erase rfl ⟨Nat.le_of_ble_eq_true rfl, Nat.le_of_ble_eq_true rfl⟩ (Nat.le_of_ble_eq_true rfl) rfl rfl rfl dL_law_216 h (fun q I2 J2 h => ?_)
  obtain ⟨rfl, hI⟩ := h
  refine g_icmp_eq X (tgt := 1264) dL_law_219 (by decide) (fun _ => hk I2 J2 hI) (fun z => absurd rfl z)
set_option maxRecDepth 100000 in
set_option maxHeartbeats 4000000 in
theorem law_2 {Z : RT} (X : Cx Z code 4 RL wsL_law room_1 (some .boolean)) {Inv : MI → MJ → Prop} (P2 : ∀ (I : MI) (J : MJ), Inv I J → vc_X10_fault I J (fun (r : Int32) (I1 : MI) (J1 : MJ) => vc_X11_fault I1 J1 (fun (q : Int32) (I2 : MI) (J2 : MJ) => r = q ∧ Inv I2 J2))) {b L i : Nat} {xs : Nat → Int32} (hX : va_X b L xs (zs Z) (zs Z).heap) (hbl : b < (zs Z).heap.size) (hbA : ¬ zA Z b) (b1 : vp_in (nI i + 1) L) (b2 : vp_in (nI i + 2) L) (b3 : vp_in (nI i + 3) L) (b4 : vp_in (nI i + 4) L) (hk : ∀ I J, Inv I J → GW Z 4 I J 1264 [(0, .ref b), (1, .ref (ea (zE Z) 0)), (2, .ref (ea (zE Z) 87)), (3, .int (nI i))] []) (I : MI) (J : MJ) (hI : Inv I J) : GW Z 4 I J 224 [(0, .ref b), (1, .ref (ea (zE Z) 0)), (2, .ref (ea (zE Z) 87)), (3, .int (nI i))] [] := by
  have h := P2 I J hI
  refine g_aload_n X dL_law_224 rfl 1 rfl ?_
  refine g_callVI X (b := 0) (As := []) (rest := []) (T := TX10) (N := 9) (c_X10_fault (zl Z) (zE Z) ) gL_law_X10_fault yo_X10_fault rfl ⟨Nat.le_of_ble_eq_true rfl, Nat.le_of_ble_eq_true rfl⟩ (Nat.le_of_ble_eq_true rfl) rfl rfl rfl dL_law_225 h (fun r I1 J1 h => ?_)
  refine g_aload_n X dL_law_228 rfl 2 rfl ?_
  refine g_callVI X (b := 87) (As := []) (rest := [.int r]) (T := TX11) (N := 39) (c_X11_fault (zl Z) (zE Z) ) gL_law_X11_fault yo_X11_fault rfl ⟨Nat.le_of_ble_eq_true rfl, Nat.le_of_ble_eq_true rfl⟩ (Nat.le_of_ble_eq_true rfl) rfl rfl rfl dL_law_229 h (fun q I2 J2 h => ?_)
  obtain ⟨rfl, hI⟩ := h
  refine g_icmp_eq X (tgt := 1264) dL_law_232 (by decide) (fun _ => hk I2 J2 hI) (fun z => absurd rfl z)
set_option maxRecDepth 100000 in
set_option maxHeartbeats 4000000 in
theorem law_3 {Z : RT} (X : Cx Z code 4 RL wsL_law room_1 (some .boolean)) {Inv : MI → MJ → Prop} (P3 : ∀ (I : MI) (J : MJ), Inv I J → vc_X10_land I J (fun (r : Int32) (I1 : MI) (J1 : MJ) => vc_X11_land I1 J1 (fun (q : Int32) (I2 : MI) (J2 : MJ) => r = q ∧ Inv I2 J2))) {b L i : Nat} {xs : Nat → Int32} (hX : va_X b L xs (zs Z) (zs Z).heap) (hbl : b < (zs Z).heap.size) (hbA : ¬ zA Z b) (b1 : vp_in (nI i + 1) L) (b2 : vp_in (nI i + 2) L) (b3 : vp_in (nI i + 3) L) (b4 : vp_in (nI i + 4) L) (hk : ∀ I J, Inv I J → GW Z 4 I J 1264 [(0, .ref b), (1, .ref (ea (zE Z) 0)), (2, .ref (ea (zE Z) 87)), (3, .int (nI i))] []) (I : MI) (J : MJ) (hI : Inv I J) : GW Z 4 I J 237 [(0, .ref b), (1, .ref (ea (zE Z) 0)), (2, .ref (ea (zE Z) 87)), (3, .int (nI i))] [] := by
  have h := P3 I J hI
  refine g_aload_n X dL_law_237 rfl 1 rfl ?_
  refine g_callVI X (b := 0) (As := []) (rest := []) (T := TX10) (N := 9) (c_X10_land (zl Z) (zE Z) ) gL_law_X10_land yo_X10_land rfl ⟨Nat.le_of_ble_eq_true rfl, Nat.le_of_ble_eq_true rfl⟩ (Nat.le_of_ble_eq_true rfl) rfl rfl rfl dL_law_238 h (fun r I1 J1 h => ?_)
  refine g_aload_n X dL_law_241 rfl 2 rfl ?_
  refine g_callVI X (b := 87) (As := []) (rest := [.int r]) (T := TX11) (N := 39) (c_X11_land (zl Z) (zE Z) ) gL_law_X11_land yo_X11_land rfl ⟨Nat.le_of_ble_eq_true rfl, Nat.le_of_ble_eq_true rfl⟩ (Nat.le_of_ble_eq_true rfl) rfl rfl rfl dL_law_242 h (fun q I2 J2 h => ?_)
  obtain ⟨rfl, hI⟩ := h
  refine g_icmp_eq X (tgt := 1264) dL_law_245 (by decide) (fun _ => hk I2 J2 hI) (fun z => absurd rfl z)
set_option maxRecDepth 100000 in
set_option maxHeartbeats 4000000 in
theorem law_4 {Z : RT} (X : Cx Z code 4 RL wsL_law room_1 (some .boolean)) {Inv : MI → MJ → Prop} (P4 : ∀ (I : MI) (J : MJ), Inv I J → ∀ (x1 : Int32) (x2 : Int32), vc_X10_place x1 x2 I J (fun (r : Int32) (I1 : MI) (J1 : MJ) => vc_X11_place x1 x2 I1 J1 (fun (q : Int32) (I2 : MI) (J2 : MJ) => r = q ∧ Inv I2 J2))) {b L i : Nat} {xs : Nat → Int32} (hX : va_X b L xs (zs Z) (zs Z).heap) (hbl : b < (zs Z).heap.size) (hbA : ¬ zA Z b) (b1 : vp_in (nI i + 1) L) (b2 : vp_in (nI i + 2) L) (b3 : vp_in (nI i + 3) L) (b4 : vp_in (nI i + 4) L) (hk : ∀ I J, Inv I J → GW Z 4 I J 1264 [(0, .ref b), (1, .ref (ea (zE Z) 0)), (2, .ref (ea (zE Z) 87)), (3, .int (nI i))] []) (I : MI) (J : MJ) (hI : Inv I J) : GW Z 4 I J 250 [(0, .ref b), (1, .ref (ea (zE Z) 0)), (2, .ref (ea (zE Z) 87)), (3, .int (nI i))] [] := by
  have h := P4 I J hI (xs (Int32.toNatClampNeg (nI i + 1))) (xs (Int32.toNatClampNeg (nI i + 2)))
  refine g_aload_n X dL_law_250 rfl 1 rfl ?_
  refine g_aload_n X dL_law_251 rfl 0 rfl ?_
  refine g_iload_n X dL_law_252 rfl 3 rfl ?_
  refine g_iconst X (v := 1) dL_law_253 (by decide) ?_
  refine g_iadd X dL_law_254 ?_
  refine g_sld X hX hbl hbA b1 dL_law_255 ?_
  refine g_aload_n X dL_law_256 rfl 0 rfl ?_
  refine g_iload_n X dL_law_257 rfl 3 rfl ?_
  refine g_iconst X (v := 2) dL_law_258 (by decide) ?_
  refine g_iadd X dL_law_259 ?_
  refine g_sld X hX hbl hbA b2 dL_law_260 ?_
  refine g_callVI X (b := 0) (As := [.int (xs (Int32.toNatClampNeg (nI i + 1))), .int (xs (Int32.toNatClampNeg (nI i + 2)))]) (rest := []) (T := TX10) (N := 9) (c_X10_place (zl Z) (zE Z) (xs (Int32.toNatClampNeg (nI i + 1))) (xs (Int32.toNatClampNeg (nI i + 2)))) gL_law_X10_place yo_X10_place rfl ⟨Nat.le_of_ble_eq_true rfl, Nat.le_of_ble_eq_true rfl⟩ (Nat.le_of_ble_eq_true rfl) rfl rfl rfl dL_law_261 h (fun r I1 J1 h => ?_)
  refine g_aload_n X dL_law_264 rfl 2 rfl ?_
  refine g_aload_n X dL_law_265 rfl 0 rfl ?_
  refine g_iload_n X dL_law_266 rfl 3 rfl ?_
  refine g_iconst X (v := 1) dL_law_267 (by decide) ?_
  refine g_iadd X dL_law_268 ?_
  refine g_sld X hX hbl hbA b1 dL_law_269 ?_
  refine g_aload_n X dL_law_270 rfl 0 rfl ?_
  refine g_iload_n X dL_law_271 rfl 3 rfl ?_
  refine g_iconst X (v := 2) dL_law_272 (by decide) ?_
  refine g_iadd X dL_law_273 ?_
  refine g_sld X hX hbl hbA b2 dL_law_274 ?_
  refine g_callVI X (b := 87) (As := [.int (xs (Int32.toNatClampNeg (nI i + 1))), .int (xs (Int32.toNatClampNeg (nI i + 2)))]) (rest := [.int r]) (T := TX11) (N := 39) (c_X11_place (zl Z) (zE Z) (xs (Int32.toNatClampNeg (nI i + 1))) (xs (Int32.toNatClampNeg (nI i + 2)))) gL_law_X11_place yo_X11_place rfl ⟨Nat.le_of_ble_eq_true rfl, Nat.le_of_ble_eq_true rfl⟩ (Nat.le_of_ble_eq_true rfl) rfl rfl rfl dL_law_275 h (fun q I2 J2 h => ?_)
  obtain ⟨rfl, hI⟩ := h
  refine g_icmp_eq X (tgt := 1264) dL_law_278 (by decide) (fun _ => hk I2 J2 hI) (fun z => absurd rfl z)
set_option maxRecDepth 100000 in
set_option maxHeartbeats 4000000 in
theorem law_5 {Z : RT} (X : Cx Z code 4 RL wsL_law room_1 (some .boolean)) {Inv : MI → MJ → Prop} (P5 : ∀ (I : MI) (J : MJ), Inv I J → ∀ (x1 : Int32) (x2 : Int32), vc_X10_road x1 x2 I J (fun (r : Int32) (I1 : MI) (J1 : MJ) => vc_X11_road x1 x2 I1 J1 (fun (q : Int32) (I2 : MI) (J2 : MJ) => r = q ∧ Inv I2 J2))) {b L i : Nat} {xs : Nat → Int32} (hX : va_X b L xs (zs Z) (zs Z).heap) (hbl : b < (zs Z).heap.size) (hbA : ¬ zA Z b) (b1 : vp_in (nI i + 1) L) (b2 : vp_in (nI i + 2) L) (b3 : vp_in (nI i + 3) L) (b4 : vp_in (nI i + 4) L) (hk : ∀ I J, Inv I J → GW Z 4 I J 1264 [(0, .ref b), (1, .ref (ea (zE Z) 0)), (2, .ref (ea (zE Z) 87)), (3, .int (nI i))] []) (I : MI) (J : MJ) (hI : Inv I J) : GW Z 4 I J 283 [(0, .ref b), (1, .ref (ea (zE Z) 0)), (2, .ref (ea (zE Z) 87)), (3, .int (nI i))] [] := by
  have h := P5 I J hI (xs (Int32.toNatClampNeg (nI i + 1))) (xs (Int32.toNatClampNeg (nI i + 2)))
  refine g_aload_n X dL_law_283 rfl 1 rfl ?_
  refine g_aload_n X dL_law_284 rfl 0 rfl ?_
  refine g_iload_n X dL_law_285 rfl 3 rfl ?_
  refine g_iconst X (v := 1) dL_law_286 (by decide) ?_
  refine g_iadd X dL_law_287 ?_
  refine g_sld X hX hbl hbA b1 dL_law_288 ?_
  refine g_aload_n X dL_law_289 rfl 0 rfl ?_
  refine g_iload_n X dL_law_290 rfl 3 rfl ?_
  refine g_iconst X (v := 2) dL_law_291 (by decide) ?_
  refine g_iadd X dL_law_292 ?_
  refine g_sld X hX hbl hbA b2 dL_law_293 ?_
  refine g_callVI X (b := 0) (As := [.int (xs (Int32.toNatClampNeg (nI i + 1))), .int (xs (Int32.toNatClampNeg (nI i + 2)))]) (rest := []) (T := TX10) (N := 9) (c_X10_road (zl Z) (zE Z) (xs (Int32.toNatClampNeg (nI i + 1))) (xs (Int32.toNatClampNeg (nI i + 2)))) gL_law_X10_road yo_X10_road rfl ⟨Nat.le_of_ble_eq_true rfl, Nat.le_of_ble_eq_true rfl⟩ (Nat.le_of_ble_eq_true rfl) rfl rfl rfl dL_law_294 h (fun r I1 J1 h => ?_)
  refine g_aload_n X dL_law_297 rfl 2 rfl ?_
  refine g_aload_n X dL_law_298 rfl 0 rfl ?_
  refine g_iload_n X dL_law_299 rfl 3 rfl ?_
  refine g_iconst X (v := 1) dL_law_300 (by decide) ?_
  refine g_iadd X dL_law_301 ?_
  refine g_sld X hX hbl hbA b1 dL_law_302 ?_
  refine g_aload_n X dL_law_303 rfl 0 rfl ?_
  refine g_iload_n X dL_law_304 rfl 3 rfl ?_
  refine g_iconst X (v := 2) dL_law_305 (by decide) ?_
  refine g_iadd X dL_law_306 ?_
  refine g_sld X hX hbl hbA b2 dL_law_307 ?_
  refine g_callVI X (b := 87) (As := [.int (xs (Int32.toNatClampNeg (nI i + 1))), .int (xs (Int32.toNatClampNeg (nI i + 2)))]) (rest := [.int r]) (T := TX11) (N := 39) (c_X11_road (zl Z) (zE Z) (xs (Int32.toNatClampNeg (nI i + 1))) (xs (Int32.toNatClampNeg (nI i + 2)))) gL_law_X11_road yo_X11_road rfl ⟨Nat.le_of_ble_eq_true rfl, Nat.le_of_ble_eq_true rfl⟩ (Nat.le_of_ble_eq_true rfl) rfl rfl rfl dL_law_308 h (fun q I2 J2 h => ?_)
  obtain ⟨rfl, hI⟩ := h
  refine g_icmp_eq X (tgt := 1264) dL_law_311 (by decide) (fun _ => hk I2 J2 hI) (fun z => absurd rfl z)
set_option maxRecDepth 100000 in
set_option maxHeartbeats 4000000 in
theorem law_6 {Z : RT} (X : Cx Z code 4 RL wsL_law room_1 (some .boolean)) {Inv : MI → MJ → Prop} (P6 : ∀ (I : MI) (J : MJ), Inv I J → ∀ (x1 : Int32) (x2 : Int32), vc_X10_cart x1 x2 I J (fun (r : Int32) (I1 : MI) (J1 : MJ) => vc_X11_cart x1 x2 I1 J1 (fun (q : Int32) (I2 : MI) (J2 : MJ) => r = q ∧ Inv I2 J2))) {b L i : Nat} {xs : Nat → Int32} (hX : va_X b L xs (zs Z) (zs Z).heap) (hbl : b < (zs Z).heap.size) (hbA : ¬ zA Z b) (b1 : vp_in (nI i + 1) L) (b2 : vp_in (nI i + 2) L) (b3 : vp_in (nI i + 3) L) (b4 : vp_in (nI i + 4) L) (hk : ∀ I J, Inv I J → GW Z 4 I J 1264 [(0, .ref b), (1, .ref (ea (zE Z) 0)), (2, .ref (ea (zE Z) 87)), (3, .int (nI i))] []) (I : MI) (J : MJ) (hI : Inv I J) : GW Z 4 I J 316 [(0, .ref b), (1, .ref (ea (zE Z) 0)), (2, .ref (ea (zE Z) 87)), (3, .int (nI i))] [] := by
  have h := P6 I J hI (xs (Int32.toNatClampNeg (nI i + 1))) (xs (Int32.toNatClampNeg (nI i + 2)))
  refine g_aload_n X dL_law_316 rfl 1 rfl ?_
  refine g_aload_n X dL_law_317 rfl 0 rfl ?_
  refine g_iload_n X dL_law_318 rfl 3 rfl ?_
  refine g_iconst X (v := 1) dL_law_319 (by decide) ?_
  refine g_iadd X dL_law_320 ?_
  refine g_sld X hX hbl hbA b1 dL_law_321 ?_
  refine g_aload_n X dL_law_322 rfl 0 rfl ?_
  refine g_iload_n X dL_law_323 rfl 3 rfl ?_
  refine g_iconst X (v := 2) dL_law_324 (by decide) ?_
  refine g_iadd X dL_law_325 ?_
  refine g_sld X hX hbl hbA b2 dL_law_326 ?_
  refine g_callVI X (b := 0) (As := [.int (xs (Int32.toNatClampNeg (nI i + 1))), .int (xs (Int32.toNatClampNeg (nI i + 2)))]) (rest := []) (T := TX10) (N := 9) (c_X10_cart (zl Z) (zE Z) (xs (Int32.toNatClampNeg (nI i + 1))) (xs (Int32.toNatClampNeg (nI i + 2)))) gL_law_X10_cart yo_X10_cart rfl ⟨Nat.le_of_ble_eq_true rfl, Nat.le_of_ble_eq_true rfl⟩ (Nat.le_of_ble_eq_true rfl) rfl rfl rfl dL_law_327 h (fun r I1 J1 h => ?_)
  refine g_aload_n X dL_law_330 rfl 2 rfl ?_
  refine g_aload_n X dL_law_331 rfl 0 rfl ?_
  refine g_iload_n X dL_law_332 rfl 3 rfl ?_
  refine g_iconst X (v := 1) dL_law_333 (by decide) ?_
  refine g_iadd X dL_law_334 ?_
  refine g_sld X hX hbl hbA b1 dL_law_335 ?_
  refine g_aload_n X dL_law_336 rfl 0 rfl ?_
  refine g_iload_n X dL_law_337 rfl 3 rfl ?_
  refine g_iconst X (v := 2) dL_law_338 (by decide) ?_
  refine g_iadd X dL_law_339 ?_
  refine g_sld X hX hbl hbA b2 dL_law_340 ?_
  refine g_callVI X (b := 87) (As := [.int (xs (Int32.toNatClampNeg (nI i + 1))), .int (xs (Int32.toNatClampNeg (nI i + 2)))]) (rest := [.int r]) (T := TX11) (N := 39) (c_X11_cart (zl Z) (zE Z) (xs (Int32.toNatClampNeg (nI i + 1))) (xs (Int32.toNatClampNeg (nI i + 2)))) gL_law_X11_cart yo_X11_cart rfl ⟨Nat.le_of_ble_eq_true rfl, Nat.le_of_ble_eq_true rfl⟩ (Nat.le_of_ble_eq_true rfl) rfl rfl rfl dL_law_341 h (fun q I2 J2 h => ?_)
  obtain ⟨rfl, hI⟩ := h
  refine g_icmp_eq X (tgt := 1264) dL_law_344 (by decide) (fun _ => hk I2 J2 hI) (fun z => absurd rfl z)
set_option maxRecDepth 100000 in
set_option maxHeartbeats 4000000 in
theorem law_7 {Z : RT} (X : Cx Z code 4 RL wsL_law room_1 (some .boolean)) {Inv : MI → MJ → Prop} (P7 : ∀ (I : MI) (J : MJ), Inv I J → ∀ (x1 : Int32) (x2 : Int32), vc_X10_as x1 x2 I J (fun (r : Int32) (I1 : MI) (J1 : MJ) => vc_X11_as x1 x2 I1 J1 (fun (q : Int32) (I2 : MI) (J2 : MJ) => r = q ∧ Inv I2 J2))) {b L i : Nat} {xs : Nat → Int32} (hX : va_X b L xs (zs Z) (zs Z).heap) (hbl : b < (zs Z).heap.size) (hbA : ¬ zA Z b) (b1 : vp_in (nI i + 1) L) (b2 : vp_in (nI i + 2) L) (b3 : vp_in (nI i + 3) L) (b4 : vp_in (nI i + 4) L) (hk : ∀ I J, Inv I J → GW Z 4 I J 1264 [(0, .ref b), (1, .ref (ea (zE Z) 0)), (2, .ref (ea (zE Z) 87)), (3, .int (nI i))] []) (I : MI) (J : MJ) (hI : Inv I J) : GW Z 4 I J 349 [(0, .ref b), (1, .ref (ea (zE Z) 0)), (2, .ref (ea (zE Z) 87)), (3, .int (nI i))] [] := by
  have h := P7 I J hI (xs (Int32.toNatClampNeg (nI i + 1))) (xs (Int32.toNatClampNeg (nI i + 2)))
  refine g_aload_n X dL_law_349 rfl 1 rfl ?_
  refine g_aload_n X dL_law_350 rfl 0 rfl ?_
  refine g_iload_n X dL_law_351 rfl 3 rfl ?_
  refine g_iconst X (v := 1) dL_law_352 (by decide) ?_
  refine g_iadd X dL_law_353 ?_
  refine g_sld X hX hbl hbA b1 dL_law_354 ?_
  refine g_aload_n X dL_law_355 rfl 0 rfl ?_
  refine g_iload_n X dL_law_356 rfl 3 rfl ?_
  refine g_iconst X (v := 2) dL_law_357 (by decide) ?_
  refine g_iadd X dL_law_358 ?_
  refine g_sld X hX hbl hbA b2 dL_law_359 ?_
  refine g_callVI X (b := 0) (As := [.int (xs (Int32.toNatClampNeg (nI i + 1))), .int (xs (Int32.toNatClampNeg (nI i + 2)))]) (rest := []) (T := TX10) (N := 9) (c_X10_as (zl Z) (zE Z) (xs (Int32.toNatClampNeg (nI i + 1))) (xs (Int32.toNatClampNeg (nI i + 2)))) gL_law_X10_as yo_X10_as rfl ⟨Nat.le_of_ble_eq_true rfl, Nat.le_of_ble_eq_true rfl⟩ (Nat.le_of_ble_eq_true rfl) rfl rfl rfl dL_law_360 h (fun r I1 J1 h => ?_)
  refine g_aload_n X dL_law_363 rfl 2 rfl ?_
  refine g_aload_n X dL_law_364 rfl 0 rfl ?_
  refine g_iload_n X dL_law_365 rfl 3 rfl ?_
  refine g_iconst X (v := 1) dL_law_366 (by decide) ?_
  refine g_iadd X dL_law_367 ?_
  refine g_sld X hX hbl hbA b1 dL_law_368 ?_
  refine g_aload_n X dL_law_369 rfl 0 rfl ?_
  refine g_iload_n X dL_law_370 rfl 3 rfl ?_
  refine g_iconst X (v := 2) dL_law_371 (by decide) ?_
  refine g_iadd X dL_law_372 ?_
  refine g_sld X hX hbl hbA b2 dL_law_373 ?_
  refine g_callVI X (b := 87) (As := [.int (xs (Int32.toNatClampNeg (nI i + 1))), .int (xs (Int32.toNatClampNeg (nI i + 2)))]) (rest := [.int r]) (T := TX11) (N := 39) (c_X11_as (zl Z) (zE Z) (xs (Int32.toNatClampNeg (nI i + 1))) (xs (Int32.toNatClampNeg (nI i + 2)))) gL_law_X11_as yo_X11_as rfl ⟨Nat.le_of_ble_eq_true rfl, Nat.le_of_ble_eq_true rfl⟩ (Nat.le_of_ble_eq_true rfl) rfl rfl rfl dL_law_374 h (fun q I2 J2 h => ?_)
  obtain ⟨rfl, hI⟩ := h
  refine g_icmp_eq X (tgt := 1264) dL_law_377 (by decide) (fun _ => hk I2 J2 hI) (fun z => absurd rfl z)
set_option maxRecDepth 100000 in
set_option maxHeartbeats 4000000 in
theorem law_8 {Z : RT} (X : Cx Z code 4 RL wsL_law room_1 (some .boolean)) {Inv : MI → MJ → Prop} (P8 : ∀ (I : MI) (J : MJ), Inv I J → ∀ (x1 : Int32) (x2 : Int32), vc_X10_roadAs x1 x2 I J (fun (r : Int32) (I1 : MI) (J1 : MJ) => vc_X11_roadAs x1 x2 I1 J1 (fun (q : Int32) (I2 : MI) (J2 : MJ) => r = q ∧ Inv I2 J2))) {b L i : Nat} {xs : Nat → Int32} (hX : va_X b L xs (zs Z) (zs Z).heap) (hbl : b < (zs Z).heap.size) (hbA : ¬ zA Z b) (b1 : vp_in (nI i + 1) L) (b2 : vp_in (nI i + 2) L) (b3 : vp_in (nI i + 3) L) (b4 : vp_in (nI i + 4) L) (hk : ∀ I J, Inv I J → GW Z 4 I J 1264 [(0, .ref b), (1, .ref (ea (zE Z) 0)), (2, .ref (ea (zE Z) 87)), (3, .int (nI i))] []) (I : MI) (J : MJ) (hI : Inv I J) : GW Z 4 I J 382 [(0, .ref b), (1, .ref (ea (zE Z) 0)), (2, .ref (ea (zE Z) 87)), (3, .int (nI i))] [] := by
  have h := P8 I J hI (xs (Int32.toNatClampNeg (nI i + 1))) (xs (Int32.toNatClampNeg (nI i + 2)))
  refine g_aload_n X dL_law_382 rfl 1 rfl ?_
  refine g_aload_n X dL_law_383 rfl 0 rfl ?_
  refine g_iload_n X dL_law_384 rfl 3 rfl ?_
  refine g_iconst X (v := 1) dL_law_385 (by decide) ?_
  refine g_iadd X dL_law_386 ?_
  refine g_sld X hX hbl hbA b1 dL_law_387 ?_
  refine g_aload_n X dL_law_388 rfl 0 rfl ?_
  refine g_iload_n X dL_law_389 rfl 3 rfl ?_
  refine g_iconst X (v := 2) dL_law_390 (by decide) ?_
  refine g_iadd X dL_law_391 ?_
  refine g_sld X hX hbl hbA b2 dL_law_392 ?_
  refine g_callVI X (b := 0) (As := [.int (xs (Int32.toNatClampNeg (nI i + 1))), .int (xs (Int32.toNatClampNeg (nI i + 2)))]) (rest := []) (T := TX10) (N := 9) (c_X10_roadAs (zl Z) (zE Z) (xs (Int32.toNatClampNeg (nI i + 1))) (xs (Int32.toNatClampNeg (nI i + 2)))) gL_law_X10_roadAs yo_X10_roadAs rfl ⟨Nat.le_of_ble_eq_true rfl, Nat.le_of_ble_eq_true rfl⟩ (Nat.le_of_ble_eq_true rfl) rfl rfl rfl dL_law_393 h (fun r I1 J1 h => ?_)
  refine g_aload_n X dL_law_396 rfl 2 rfl ?_
  refine g_aload_n X dL_law_397 rfl 0 rfl ?_
  refine g_iload_n X dL_law_398 rfl 3 rfl ?_
  refine g_iconst X (v := 1) dL_law_399 (by decide) ?_
  refine g_iadd X dL_law_400 ?_
  refine g_sld X hX hbl hbA b1 dL_law_401 ?_
  refine g_aload_n X dL_law_402 rfl 0 rfl ?_
  refine g_iload_n X dL_law_403 rfl 3 rfl ?_
  refine g_iconst X (v := 2) dL_law_404 (by decide) ?_
  refine g_iadd X dL_law_405 ?_
  refine g_sld X hX hbl hbA b2 dL_law_406 ?_
  refine g_callVI X (b := 87) (As := [.int (xs (Int32.toNatClampNeg (nI i + 1))), .int (xs (Int32.toNatClampNeg (nI i + 2)))]) (rest := [.int r]) (T := TX11) (N := 39) (c_X11_roadAs (zl Z) (zE Z) (xs (Int32.toNatClampNeg (nI i + 1))) (xs (Int32.toNatClampNeg (nI i + 2)))) gL_law_X11_roadAs yo_X11_roadAs rfl ⟨Nat.le_of_ble_eq_true rfl, Nat.le_of_ble_eq_true rfl⟩ (Nat.le_of_ble_eq_true rfl) rfl rfl rfl dL_law_407 h (fun q I2 J2 h => ?_)
  obtain ⟨rfl, hI⟩ := h
  refine g_icmp_eq X (tgt := 1264) dL_law_410 (by decide) (fun _ => hk I2 J2 hI) (fun z => absurd rfl z)
set_option maxRecDepth 100000 in
set_option maxHeartbeats 4000000 in
theorem law_9 {Z : RT} (X : Cx Z code 4 RL wsL_law room_1 (some .boolean)) {Inv : MI → MJ → Prop} (P9 : ∀ (I : MI) (J : MJ), Inv I J → ∀ (x1 : Int32), vc_X10_price x1 I J (fun (r : Int32) (I1 : MI) (J1 : MJ) => vc_X11_price x1 I1 J1 (fun (q : Int32) (I2 : MI) (J2 : MJ) => r = q ∧ Inv I2 J2))) {b L i : Nat} {xs : Nat → Int32} (hX : va_X b L xs (zs Z) (zs Z).heap) (hbl : b < (zs Z).heap.size) (hbA : ¬ zA Z b) (b1 : vp_in (nI i + 1) L) (b2 : vp_in (nI i + 2) L) (b3 : vp_in (nI i + 3) L) (b4 : vp_in (nI i + 4) L) (hk : ∀ I J, Inv I J → GW Z 4 I J 1264 [(0, .ref b), (1, .ref (ea (zE Z) 0)), (2, .ref (ea (zE Z) 87)), (3, .int (nI i))] []) (I : MI) (J : MJ) (hI : Inv I J) : GW Z 4 I J 415 [(0, .ref b), (1, .ref (ea (zE Z) 0)), (2, .ref (ea (zE Z) 87)), (3, .int (nI i))] [] := by
  have h := P9 I J hI (xs (Int32.toNatClampNeg (nI i + 1)))
  refine g_aload_n X dL_law_415 rfl 1 rfl ?_
  refine g_aload_n X dL_law_416 rfl 0 rfl ?_
  refine g_iload_n X dL_law_417 rfl 3 rfl ?_
  refine g_iconst X (v := 1) dL_law_418 (by decide) ?_
  refine g_iadd X dL_law_419 ?_
  refine g_sld X hX hbl hbA b1 dL_law_420 ?_
  refine g_callVI X (b := 0) (As := [.int (xs (Int32.toNatClampNeg (nI i + 1)))]) (rest := []) (T := TX10) (N := 9) (c_X10_price (zl Z) (zE Z) (xs (Int32.toNatClampNeg (nI i + 1)))) gL_law_X10_price yo_X10_price rfl ⟨Nat.le_of_ble_eq_true rfl, Nat.le_of_ble_eq_true rfl⟩ (Nat.le_of_ble_eq_true rfl) rfl rfl rfl dL_law_421 h (fun r I1 J1 h => ?_)
  refine g_aload_n X dL_law_424 rfl 2 rfl ?_
  refine g_aload_n X dL_law_425 rfl 0 rfl ?_
  refine g_iload_n X dL_law_426 rfl 3 rfl ?_
  refine g_iconst X (v := 1) dL_law_427 (by decide) ?_
  refine g_iadd X dL_law_428 ?_
  refine g_sld X hX hbl hbA b1 dL_law_429 ?_
  refine g_callVI X (b := 87) (As := [.int (xs (Int32.toNatClampNeg (nI i + 1)))]) (rest := [.int r]) (T := TX11) (N := 39) (c_X11_price (zl Z) (zE Z) (xs (Int32.toNatClampNeg (nI i + 1)))) gL_law_X11_price yo_X11_price rfl ⟨Nat.le_of_ble_eq_true rfl, Nat.le_of_ble_eq_true rfl⟩ (Nat.le_of_ble_eq_true rfl) rfl rfl rfl dL_law_430 h (fun q I2 J2 h => ?_)
  obtain ⟨rfl, hI⟩ := h
  refine g_icmp_eq X (tgt := 1264) dL_law_433 (by decide) (fun _ => hk I2 J2 hI) (fun z => absurd rfl z)
set_option maxRecDepth 100000 in
set_option maxHeartbeats 4000000 in
theorem law_10 {Z : RT} (X : Cx Z code 4 RL wsL_law room_1 (some .boolean)) {Inv : MI → MJ → Prop} (P10 : ∀ (I : MI) (J : MJ), Inv I J → ∀ (x1 : Int32) (x2 : Int32), vc_X10_fill x1 x2 I J (fun (r : Int32) (I1 : MI) (J1 : MJ) => vc_X11_fill x1 x2 I1 J1 (fun (q : Int32) (I2 : MI) (J2 : MJ) => r = q ∧ Inv I2 J2))) {b L i : Nat} {xs : Nat → Int32} (hX : va_X b L xs (zs Z) (zs Z).heap) (hbl : b < (zs Z).heap.size) (hbA : ¬ zA Z b) (b1 : vp_in (nI i + 1) L) (b2 : vp_in (nI i + 2) L) (b3 : vp_in (nI i + 3) L) (b4 : vp_in (nI i + 4) L) (hk : ∀ I J, Inv I J → GW Z 4 I J 1264 [(0, .ref b), (1, .ref (ea (zE Z) 0)), (2, .ref (ea (zE Z) 87)), (3, .int (nI i))] []) (I : MI) (J : MJ) (hI : Inv I J) : GW Z 4 I J 438 [(0, .ref b), (1, .ref (ea (zE Z) 0)), (2, .ref (ea (zE Z) 87)), (3, .int (nI i))] [] := by
  have h := P10 I J hI (xs (Int32.toNatClampNeg (nI i + 1))) (xs (Int32.toNatClampNeg (nI i + 2)))
  refine g_aload_n X dL_law_438 rfl 1 rfl ?_
  refine g_aload_n X dL_law_439 rfl 0 rfl ?_
  refine g_iload_n X dL_law_440 rfl 3 rfl ?_
  refine g_iconst X (v := 1) dL_law_441 (by decide) ?_
  refine g_iadd X dL_law_442 ?_
  refine g_sld X hX hbl hbA b1 dL_law_443 ?_
  refine g_aload_n X dL_law_444 rfl 0 rfl ?_
  refine g_iload_n X dL_law_445 rfl 3 rfl ?_
  refine g_iconst X (v := 2) dL_law_446 (by decide) ?_
  refine g_iadd X dL_law_447 ?_
  refine g_sld X hX hbl hbA b2 dL_law_448 ?_
  refine g_callVI X (b := 0) (As := [.int (xs (Int32.toNatClampNeg (nI i + 1))), .int (xs (Int32.toNatClampNeg (nI i + 2)))]) (rest := []) (T := TX10) (N := 9) (c_X10_fill (zl Z) (zE Z) (xs (Int32.toNatClampNeg (nI i + 1))) (xs (Int32.toNatClampNeg (nI i + 2)))) gL_law_X10_fill yo_X10_fill rfl ⟨Nat.le_of_ble_eq_true rfl, Nat.le_of_ble_eq_true rfl⟩ (Nat.le_of_ble_eq_true rfl) rfl rfl rfl dL_law_449 h (fun r I1 J1 h => ?_)
  refine g_aload_n X dL_law_452 rfl 2 rfl ?_
  refine g_aload_n X dL_law_453 rfl 0 rfl ?_
  refine g_iload_n X dL_law_454 rfl 3 rfl ?_
  refine g_iconst X (v := 1) dL_law_455 (by decide) ?_
  refine g_iadd X dL_law_456 ?_
  refine g_sld X hX hbl hbA b1 dL_law_457 ?_
  refine g_aload_n X dL_law_458 rfl 0 rfl ?_
  refine g_iload_n X dL_law_459 rfl 3 rfl ?_
  refine g_iconst X (v := 2) dL_law_460 (by decide) ?_
  refine g_iadd X dL_law_461 ?_
  refine g_sld X hX hbl hbA b2 dL_law_462 ?_
  refine g_callVI X (b := 87) (As := [.int (xs (Int32.toNatClampNeg (nI i + 1))), .int (xs (Int32.toNatClampNeg (nI i + 2)))]) (rest := [.int r]) (T := TX11) (N := 39) (c_X11_fill (zl Z) (zE Z) (xs (Int32.toNatClampNeg (nI i + 1))) (xs (Int32.toNatClampNeg (nI i + 2)))) gL_law_X11_fill yo_X11_fill rfl ⟨Nat.le_of_ble_eq_true rfl, Nat.le_of_ble_eq_true rfl⟩ (Nat.le_of_ble_eq_true rfl) rfl rfl rfl dL_law_463 h (fun q I2 J2 h => ?_)
  obtain ⟨rfl, hI⟩ := h
  refine g_icmp_eq X (tgt := 1264) dL_law_466 (by decide) (fun _ => hk I2 J2 hI) (fun z => absurd rfl z)
set_option maxRecDepth 100000 in
set_option maxHeartbeats 4000000 in
theorem law_11 {Z : RT} (X : Cx Z code 4 RL wsL_law room_1 (some .boolean)) {Inv : MI → MJ → Prop} (P11 : ∀ (I : MI) (J : MJ), Inv I J → ∀ (x1 : Int32) (x2 : Int32), vc_X10_go x1 x2 I J (fun (r : Int32) (I1 : MI) (J1 : MJ) => vc_X11_go x1 x2 I1 J1 (fun (q : Int32) (I2 : MI) (J2 : MJ) => r = q ∧ Inv I2 J2))) {b L i : Nat} {xs : Nat → Int32} (hX : va_X b L xs (zs Z) (zs Z).heap) (hbl : b < (zs Z).heap.size) (hbA : ¬ zA Z b) (b1 : vp_in (nI i + 1) L) (b2 : vp_in (nI i + 2) L) (b3 : vp_in (nI i + 3) L) (b4 : vp_in (nI i + 4) L) (hk : ∀ I J, Inv I J → GW Z 4 I J 1264 [(0, .ref b), (1, .ref (ea (zE Z) 0)), (2, .ref (ea (zE Z) 87)), (3, .int (nI i))] []) (I : MI) (J : MJ) (hI : Inv I J) : GW Z 4 I J 471 [(0, .ref b), (1, .ref (ea (zE Z) 0)), (2, .ref (ea (zE Z) 87)), (3, .int (nI i))] [] := by
  have h := P11 I J hI (xs (Int32.toNatClampNeg (nI i + 1))) (xs (Int32.toNatClampNeg (nI i + 2)))
  refine g_aload_n X dL_law_471 rfl 1 rfl ?_
  refine g_aload_n X dL_law_472 rfl 0 rfl ?_
  refine g_iload_n X dL_law_473 rfl 3 rfl ?_
  refine g_iconst X (v := 1) dL_law_474 (by decide) ?_
  refine g_iadd X dL_law_475 ?_
  refine g_sld X hX hbl hbA b1 dL_law_476 ?_
  refine g_aload_n X dL_law_477 rfl 0 rfl ?_
  refine g_iload_n X dL_law_478 rfl 3 rfl ?_
  refine g_iconst X (v := 2) dL_law_479 (by decide) ?_
  refine g_iadd X dL_law_480 ?_
  refine g_sld X hX hbl hbA b2 dL_law_481 ?_
  refine g_callVI X (b := 0) (As := [.int (xs (Int32.toNatClampNeg (nI i + 1))), .int (xs (Int32.toNatClampNeg (nI i + 2)))]) (rest := []) (T := TX10) (N := 9) (c_X10_go (zl Z) (zE Z) (xs (Int32.toNatClampNeg (nI i + 1))) (xs (Int32.toNatClampNeg (nI i + 2)))) gL_law_X10_go yo_X10_go rfl ⟨Nat.le_of_ble_eq_true rfl, Nat.le_of_ble_eq_true rfl⟩ (Nat.le_of_ble_eq_true rfl) rfl rfl rfl dL_law_482 h (fun r I1 J1 h => ?_)
  refine g_aload_n X dL_law_485 rfl 2 rfl ?_
  refine g_aload_n X dL_law_486 rfl 0 rfl ?_
  refine g_iload_n X dL_law_487 rfl 3 rfl ?_
  refine g_iconst X (v := 1) dL_law_488 (by decide) ?_
  refine g_iadd X dL_law_489 ?_
  refine g_sld X hX hbl hbA b1 dL_law_490 ?_
  refine g_aload_n X dL_law_491 rfl 0 rfl ?_
  refine g_iload_n X dL_law_492 rfl 3 rfl ?_
  refine g_iconst X (v := 2) dL_law_493 (by decide) ?_
  refine g_iadd X dL_law_494 ?_
  refine g_sld X hX hbl hbA b2 dL_law_495 ?_
  refine g_callVI X (b := 87) (As := [.int (xs (Int32.toNatClampNeg (nI i + 1))), .int (xs (Int32.toNatClampNeg (nI i + 2)))]) (rest := [.int r]) (T := TX11) (N := 39) (c_X11_go (zl Z) (zE Z) (xs (Int32.toNatClampNeg (nI i + 1))) (xs (Int32.toNatClampNeg (nI i + 2)))) gL_law_X11_go yo_X11_go rfl ⟨Nat.le_of_ble_eq_true rfl, Nat.le_of_ble_eq_true rfl⟩ (Nat.le_of_ble_eq_true rfl) rfl rfl rfl dL_law_496 h (fun q I2 J2 h => ?_)
  obtain ⟨rfl, hI⟩ := h
  refine g_icmp_eq X (tgt := 1264) dL_law_499 (by decide) (fun _ => hk I2 J2 hI) (fun z => absurd rfl z)
set_option maxRecDepth 100000 in
set_option maxHeartbeats 4000000 in
theorem law_12 {Z : RT} (X : Cx Z code 4 RL wsL_law room_1 (some .boolean)) {Inv : MI → MJ → Prop} (P12 : ∀ (I : MI) (J : MJ), Inv I J → ∀ (x1 : Int32) (x2 : Int32), vc_X10_rest x1 x2 I J (fun (r : Int32) (I1 : MI) (J1 : MJ) => vc_X11_rest x1 x2 I1 J1 (fun (q : Int32) (I2 : MI) (J2 : MJ) => r = q ∧ Inv I2 J2))) {b L i : Nat} {xs : Nat → Int32} (hX : va_X b L xs (zs Z) (zs Z).heap) (hbl : b < (zs Z).heap.size) (hbA : ¬ zA Z b) (b1 : vp_in (nI i + 1) L) (b2 : vp_in (nI i + 2) L) (b3 : vp_in (nI i + 3) L) (b4 : vp_in (nI i + 4) L) (hk : ∀ I J, Inv I J → GW Z 4 I J 1264 [(0, .ref b), (1, .ref (ea (zE Z) 0)), (2, .ref (ea (zE Z) 87)), (3, .int (nI i))] []) (I : MI) (J : MJ) (hI : Inv I J) : GW Z 4 I J 504 [(0, .ref b), (1, .ref (ea (zE Z) 0)), (2, .ref (ea (zE Z) 87)), (3, .int (nI i))] [] := by
  have h := P12 I J hI (xs (Int32.toNatClampNeg (nI i + 1))) (xs (Int32.toNatClampNeg (nI i + 2)))
  refine g_aload_n X dL_law_504 rfl 1 rfl ?_
  refine g_aload_n X dL_law_505 rfl 0 rfl ?_
  refine g_iload_n X dL_law_506 rfl 3 rfl ?_
  refine g_iconst X (v := 1) dL_law_507 (by decide) ?_
  refine g_iadd X dL_law_508 ?_
  refine g_sld X hX hbl hbA b1 dL_law_509 ?_
  refine g_aload_n X dL_law_510 rfl 0 rfl ?_
  refine g_iload_n X dL_law_511 rfl 3 rfl ?_
  refine g_iconst X (v := 2) dL_law_512 (by decide) ?_
  refine g_iadd X dL_law_513 ?_
  refine g_sld X hX hbl hbA b2 dL_law_514 ?_
  refine g_callVI X (b := 0) (As := [.int (xs (Int32.toNatClampNeg (nI i + 1))), .int (xs (Int32.toNatClampNeg (nI i + 2)))]) (rest := []) (T := TX10) (N := 9) (c_X10_rest (zl Z) (zE Z) (xs (Int32.toNatClampNeg (nI i + 1))) (xs (Int32.toNatClampNeg (nI i + 2)))) gL_law_X10_rest yo_X10_rest rfl ⟨Nat.le_of_ble_eq_true rfl, Nat.le_of_ble_eq_true rfl⟩ (Nat.le_of_ble_eq_true rfl) rfl rfl rfl dL_law_515 h (fun r I1 J1 h => ?_)
  refine g_aload_n X dL_law_518 rfl 2 rfl ?_
  refine g_aload_n X dL_law_519 rfl 0 rfl ?_
  refine g_iload_n X dL_law_520 rfl 3 rfl ?_
  refine g_iconst X (v := 1) dL_law_521 (by decide) ?_
  refine g_iadd X dL_law_522 ?_
  refine g_sld X hX hbl hbA b1 dL_law_523 ?_
  refine g_aload_n X dL_law_524 rfl 0 rfl ?_
  refine g_iload_n X dL_law_525 rfl 3 rfl ?_
  refine g_iconst X (v := 2) dL_law_526 (by decide) ?_
  refine g_iadd X dL_law_527 ?_
  refine g_sld X hX hbl hbA b2 dL_law_528 ?_
  refine g_callVI X (b := 87) (As := [.int (xs (Int32.toNatClampNeg (nI i + 1))), .int (xs (Int32.toNatClampNeg (nI i + 2)))]) (rest := [.int r]) (T := TX11) (N := 39) (c_X11_rest (zl Z) (zE Z) (xs (Int32.toNatClampNeg (nI i + 1))) (xs (Int32.toNatClampNeg (nI i + 2)))) gL_law_X11_rest yo_X11_rest rfl ⟨Nat.le_of_ble_eq_true rfl, Nat.le_of_ble_eq_true rfl⟩ (Nat.le_of_ble_eq_true rfl) rfl rfl rfl dL_law_529 h (fun q I2 J2 h => ?_)
  obtain ⟨rfl, hI⟩ := h
  refine g_icmp_eq X (tgt := 1264) dL_law_532 (by decide) (fun _ => hk I2 J2 hI) (fun z => absurd rfl z)
set_option maxRecDepth 100000 in
set_option maxHeartbeats 4000000 in
theorem law_13 {Z : RT} (X : Cx Z code 4 RL wsL_law room_1 (some .boolean)) {Inv : MI → MJ → Prop} (P13 : ∀ (I : MI) (J : MJ), Inv I J → ∀ (x1 : Int32) (x2 : Int32), vc_X10_join x1 x2 I J (fun (r : Int32) (I1 : MI) (J1 : MJ) => vc_X11_join x1 x2 I1 J1 (fun (q : Int32) (I2 : MI) (J2 : MJ) => r = q ∧ Inv I2 J2))) {b L i : Nat} {xs : Nat → Int32} (hX : va_X b L xs (zs Z) (zs Z).heap) (hbl : b < (zs Z).heap.size) (hbA : ¬ zA Z b) (b1 : vp_in (nI i + 1) L) (b2 : vp_in (nI i + 2) L) (b3 : vp_in (nI i + 3) L) (b4 : vp_in (nI i + 4) L) (hk : ∀ I J, Inv I J → GW Z 4 I J 1264 [(0, .ref b), (1, .ref (ea (zE Z) 0)), (2, .ref (ea (zE Z) 87)), (3, .int (nI i))] []) (I : MI) (J : MJ) (hI : Inv I J) : GW Z 4 I J 537 [(0, .ref b), (1, .ref (ea (zE Z) 0)), (2, .ref (ea (zE Z) 87)), (3, .int (nI i))] [] := by
  have h := P13 I J hI (xs (Int32.toNatClampNeg (nI i + 1))) (xs (Int32.toNatClampNeg (nI i + 2)))
  refine g_aload_n X dL_law_537 rfl 1 rfl ?_
  refine g_aload_n X dL_law_538 rfl 0 rfl ?_
  refine g_iload_n X dL_law_539 rfl 3 rfl ?_
  refine g_iconst X (v := 1) dL_law_540 (by decide) ?_
  refine g_iadd X dL_law_541 ?_
  refine g_sld X hX hbl hbA b1 dL_law_542 ?_
  refine g_aload_n X dL_law_543 rfl 0 rfl ?_
  refine g_iload_n X dL_law_544 rfl 3 rfl ?_
  refine g_iconst X (v := 2) dL_law_545 (by decide) ?_
  refine g_iadd X dL_law_546 ?_
  refine g_sld X hX hbl hbA b2 dL_law_547 ?_
  refine g_callVI X (b := 0) (As := [.int (xs (Int32.toNatClampNeg (nI i + 1))), .int (xs (Int32.toNatClampNeg (nI i + 2)))]) (rest := []) (T := TX10) (N := 9) (c_X10_join (zl Z) (zE Z) (xs (Int32.toNatClampNeg (nI i + 1))) (xs (Int32.toNatClampNeg (nI i + 2)))) gL_law_X10_join yo_X10_join rfl ⟨Nat.le_of_ble_eq_true rfl, Nat.le_of_ble_eq_true rfl⟩ (Nat.le_of_ble_eq_true rfl) rfl rfl rfl dL_law_548 h (fun r I1 J1 h => ?_)
  refine g_aload_n X dL_law_551 rfl 2 rfl ?_
  refine g_aload_n X dL_law_552 rfl 0 rfl ?_
  refine g_iload_n X dL_law_553 rfl 3 rfl ?_
  refine g_iconst X (v := 1) dL_law_554 (by decide) ?_
  refine g_iadd X dL_law_555 ?_
  refine g_sld X hX hbl hbA b1 dL_law_556 ?_
  refine g_aload_n X dL_law_557 rfl 0 rfl ?_
  refine g_iload_n X dL_law_558 rfl 3 rfl ?_
  refine g_iconst X (v := 2) dL_law_559 (by decide) ?_
  refine g_iadd X dL_law_560 ?_
  refine g_sld X hX hbl hbA b2 dL_law_561 ?_
  refine g_callVI X (b := 87) (As := [.int (xs (Int32.toNatClampNeg (nI i + 1))), .int (xs (Int32.toNatClampNeg (nI i + 2)))]) (rest := [.int r]) (T := TX11) (N := 39) (c_X11_join (zl Z) (zE Z) (xs (Int32.toNatClampNeg (nI i + 1))) (xs (Int32.toNatClampNeg (nI i + 2)))) gL_law_X11_join yo_X11_join rfl ⟨Nat.le_of_ble_eq_true rfl, Nat.le_of_ble_eq_true rfl⟩ (Nat.le_of_ble_eq_true rfl) rfl rfl rfl dL_law_562 h (fun q I2 J2 h => ?_)
  obtain ⟨rfl, hI⟩ := h
  refine g_icmp_eq X (tgt := 1264) dL_law_565 (by decide) (fun _ => hk I2 J2 hI) (fun z => absurd rfl z)
set_option maxRecDepth 100000 in
set_option maxHeartbeats 4000000 in
theorem law_14 {Z : RT} (X : Cx Z code 4 RL wsL_law room_1 (some .boolean)) {Inv : MI → MJ → Prop} (P14 : ∀ (I : MI) (J : MJ), Inv I J → ∀ (x1 : Int32), vc_X10_store x1 I J (fun (r : Int32) (I1 : MI) (J1 : MJ) => vc_X11_store x1 I1 J1 (fun (q : Int32) (I2 : MI) (J2 : MJ) => r = q ∧ Inv I2 J2))) {b L i : Nat} {xs : Nat → Int32} (hX : va_X b L xs (zs Z) (zs Z).heap) (hbl : b < (zs Z).heap.size) (hbA : ¬ zA Z b) (b1 : vp_in (nI i + 1) L) (b2 : vp_in (nI i + 2) L) (b3 : vp_in (nI i + 3) L) (b4 : vp_in (nI i + 4) L) (hk : ∀ I J, Inv I J → GW Z 4 I J 1264 [(0, .ref b), (1, .ref (ea (zE Z) 0)), (2, .ref (ea (zE Z) 87)), (3, .int (nI i))] []) (I : MI) (J : MJ) (hI : Inv I J) : GW Z 4 I J 570 [(0, .ref b), (1, .ref (ea (zE Z) 0)), (2, .ref (ea (zE Z) 87)), (3, .int (nI i))] [] := by
  have h := P14 I J hI (xs (Int32.toNatClampNeg (nI i + 1)))
  refine g_aload_n X dL_law_570 rfl 1 rfl ?_
  refine g_aload_n X dL_law_571 rfl 0 rfl ?_
  refine g_iload_n X dL_law_572 rfl 3 rfl ?_
  refine g_iconst X (v := 1) dL_law_573 (by decide) ?_
  refine g_iadd X dL_law_574 ?_
  refine g_sld X hX hbl hbA b1 dL_law_575 ?_
  refine g_callVI X (b := 0) (As := [.int (xs (Int32.toNatClampNeg (nI i + 1)))]) (rest := []) (T := TX10) (N := 9) (c_X10_store (zl Z) (zE Z) (xs (Int32.toNatClampNeg (nI i + 1)))) gL_law_X10_store yo_X10_store rfl ⟨Nat.le_of_ble_eq_true rfl, Nat.le_of_ble_eq_true rfl⟩ (Nat.le_of_ble_eq_true rfl) rfl rfl rfl dL_law_576 h (fun r I1 J1 h => ?_)
  refine g_aload_n X dL_law_579 rfl 2 rfl ?_
  refine g_aload_n X dL_law_580 rfl 0 rfl ?_
  refine g_iload_n X dL_law_581 rfl 3 rfl ?_
  refine g_iconst X (v := 1) dL_law_582 (by decide) ?_
  refine g_iadd X dL_law_583 ?_
  refine g_sld X hX hbl hbA b1 dL_law_584 ?_
  refine g_callVI X (b := 87) (As := [.int (xs (Int32.toNatClampNeg (nI i + 1)))]) (rest := [.int r]) (T := TX11) (N := 39) (c_X11_store (zl Z) (zE Z) (xs (Int32.toNatClampNeg (nI i + 1)))) gL_law_X11_store yo_X11_store rfl ⟨Nat.le_of_ble_eq_true rfl, Nat.le_of_ble_eq_true rfl⟩ (Nat.le_of_ble_eq_true rfl) rfl rfl rfl dL_law_585 h (fun q I2 J2 h => ?_)
  obtain ⟨rfl, hI⟩ := h
  refine g_icmp_eq X (tgt := 1264) dL_law_588 (by decide) (fun _ => hk I2 J2 hI) (fun z => absurd rfl z)
set_option maxRecDepth 100000 in
set_option maxHeartbeats 4000000 in
theorem law_15 {Z : RT} (X : Cx Z code 4 RL wsL_law room_1 (some .boolean)) {Inv : MI → MJ → Prop} (P15 : ∀ (I : MI) (J : MJ), Inv I J → ∀ (x1 : Int32) (x2 : Int32), vc_X10_take x1 x2 I J (fun (r : Int32) (I1 : MI) (J1 : MJ) => vc_X11_take x1 x2 I1 J1 (fun (q : Int32) (I2 : MI) (J2 : MJ) => r = q ∧ Inv I2 J2))) {b L i : Nat} {xs : Nat → Int32} (hX : va_X b L xs (zs Z) (zs Z).heap) (hbl : b < (zs Z).heap.size) (hbA : ¬ zA Z b) (b1 : vp_in (nI i + 1) L) (b2 : vp_in (nI i + 2) L) (b3 : vp_in (nI i + 3) L) (b4 : vp_in (nI i + 4) L) (hk : ∀ I J, Inv I J → GW Z 4 I J 1264 [(0, .ref b), (1, .ref (ea (zE Z) 0)), (2, .ref (ea (zE Z) 87)), (3, .int (nI i))] []) (I : MI) (J : MJ) (hI : Inv I J) : GW Z 4 I J 593 [(0, .ref b), (1, .ref (ea (zE Z) 0)), (2, .ref (ea (zE Z) 87)), (3, .int (nI i))] [] := by
  have h := P15 I J hI (xs (Int32.toNatClampNeg (nI i + 1))) (xs (Int32.toNatClampNeg (nI i + 2)))
  refine g_aload_n X dL_law_593 rfl 1 rfl ?_
  refine g_aload_n X dL_law_594 rfl 0 rfl ?_
  refine g_iload_n X dL_law_595 rfl 3 rfl ?_
  refine g_iconst X (v := 1) dL_law_596 (by decide) ?_
  refine g_iadd X dL_law_597 ?_
  refine g_sld X hX hbl hbA b1 dL_law_598 ?_
  refine g_aload_n X dL_law_599 rfl 0 rfl ?_
  refine g_iload_n X dL_law_600 rfl 3 rfl ?_
  refine g_iconst X (v := 2) dL_law_601 (by decide) ?_
  refine g_iadd X dL_law_602 ?_
  refine g_sld X hX hbl hbA b2 dL_law_603 ?_
  refine g_callVI X (b := 0) (As := [.int (xs (Int32.toNatClampNeg (nI i + 1))), .int (xs (Int32.toNatClampNeg (nI i + 2)))]) (rest := []) (T := TX10) (N := 9) (c_X10_take (zl Z) (zE Z) (xs (Int32.toNatClampNeg (nI i + 1))) (xs (Int32.toNatClampNeg (nI i + 2)))) gL_law_X10_take yo_X10_take rfl ⟨Nat.le_of_ble_eq_true rfl, Nat.le_of_ble_eq_true rfl⟩ (Nat.le_of_ble_eq_true rfl) rfl rfl rfl dL_law_604 h (fun r I1 J1 h => ?_)
  refine g_aload_n X dL_law_607 rfl 2 rfl ?_
  refine g_aload_n X dL_law_608 rfl 0 rfl ?_
  refine g_iload_n X dL_law_609 rfl 3 rfl ?_
  refine g_iconst X (v := 1) dL_law_610 (by decide) ?_
  refine g_iadd X dL_law_611 ?_
  refine g_sld X hX hbl hbA b1 dL_law_612 ?_
  refine g_aload_n X dL_law_613 rfl 0 rfl ?_
  refine g_iload_n X dL_law_614 rfl 3 rfl ?_
  refine g_iconst X (v := 2) dL_law_615 (by decide) ?_
  refine g_iadd X dL_law_616 ?_
  refine g_sld X hX hbl hbA b2 dL_law_617 ?_
  refine g_callVI X (b := 87) (As := [.int (xs (Int32.toNatClampNeg (nI i + 1))), .int (xs (Int32.toNatClampNeg (nI i + 2)))]) (rest := [.int r]) (T := TX11) (N := 39) (c_X11_take (zl Z) (zE Z) (xs (Int32.toNatClampNeg (nI i + 1))) (xs (Int32.toNatClampNeg (nI i + 2)))) gL_law_X11_take yo_X11_take rfl ⟨Nat.le_of_ble_eq_true rfl, Nat.le_of_ble_eq_true rfl⟩ (Nat.le_of_ble_eq_true rfl) rfl rfl rfl dL_law_618 h (fun q I2 J2 h => ?_)
  obtain ⟨rfl, hI⟩ := h
  refine g_icmp_eq X (tgt := 1264) dL_law_621 (by decide) (fun _ => hk I2 J2 hI) (fun z => absurd rfl z)
set_option maxRecDepth 100000 in
set_option maxHeartbeats 4000000 in
theorem law_16 {Z : RT} (X : Cx Z code 4 RL wsL_law room_1 (some .boolean)) {Inv : MI → MJ → Prop} (P16 : ∀ (I : MI) (J : MJ), Inv I J → ∀ (x1 : Int32), vc_X10_sell x1 I J (fun (r : Int32) (I1 : MI) (J1 : MJ) => vc_X11_sell x1 I1 J1 (fun (q : Int32) (I2 : MI) (J2 : MJ) => r = q ∧ Inv I2 J2))) {b L i : Nat} {xs : Nat → Int32} (hX : va_X b L xs (zs Z) (zs Z).heap) (hbl : b < (zs Z).heap.size) (hbA : ¬ zA Z b) (b1 : vp_in (nI i + 1) L) (b2 : vp_in (nI i + 2) L) (b3 : vp_in (nI i + 3) L) (b4 : vp_in (nI i + 4) L) (hk : ∀ I J, Inv I J → GW Z 4 I J 1264 [(0, .ref b), (1, .ref (ea (zE Z) 0)), (2, .ref (ea (zE Z) 87)), (3, .int (nI i))] []) (I : MI) (J : MJ) (hI : Inv I J) : GW Z 4 I J 626 [(0, .ref b), (1, .ref (ea (zE Z) 0)), (2, .ref (ea (zE Z) 87)), (3, .int (nI i))] [] := by
  have h := P16 I J hI (xs (Int32.toNatClampNeg (nI i + 1)))
  refine g_aload_n X dL_law_626 rfl 1 rfl ?_
  refine g_aload_n X dL_law_627 rfl 0 rfl ?_
  refine g_iload_n X dL_law_628 rfl 3 rfl ?_
  refine g_iconst X (v := 1) dL_law_629 (by decide) ?_
  refine g_iadd X dL_law_630 ?_
  refine g_sld X hX hbl hbA b1 dL_law_631 ?_
  refine g_callVI X (b := 0) (As := [.int (xs (Int32.toNatClampNeg (nI i + 1)))]) (rest := []) (T := TX10) (N := 9) (c_X10_sell (zl Z) (zE Z) (xs (Int32.toNatClampNeg (nI i + 1)))) gL_law_X10_sell yo_X10_sell rfl ⟨Nat.le_of_ble_eq_true rfl, Nat.le_of_ble_eq_true rfl⟩ (Nat.le_of_ble_eq_true rfl) rfl rfl rfl dL_law_632 h (fun r I1 J1 h => ?_)
  refine g_aload_n X dL_law_635 rfl 2 rfl ?_
  refine g_aload_n X dL_law_636 rfl 0 rfl ?_
  refine g_iload_n X dL_law_637 rfl 3 rfl ?_
  refine g_iconst X (v := 1) dL_law_638 (by decide) ?_
  refine g_iadd X dL_law_639 ?_
  refine g_sld X hX hbl hbA b1 dL_law_640 ?_
  refine g_callVI X (b := 87) (As := [.int (xs (Int32.toNatClampNeg (nI i + 1)))]) (rest := [.int r]) (T := TX11) (N := 39) (c_X11_sell (zl Z) (zE Z) (xs (Int32.toNatClampNeg (nI i + 1)))) gL_law_X11_sell yo_X11_sell rfl ⟨Nat.le_of_ble_eq_true rfl, Nat.le_of_ble_eq_true rfl⟩ (Nat.le_of_ble_eq_true rfl) rfl rfl rfl dL_law_641 h (fun q I2 J2 h => ?_)
  obtain ⟨rfl, hI⟩ := h
  refine g_icmp_eq X (tgt := 1264) dL_law_644 (by decide) (fun _ => hk I2 J2 hI) (fun z => absurd rfl z)
set_option maxRecDepth 100000 in
set_option maxHeartbeats 4000000 in
theorem law_17 {Z : RT} (X : Cx Z code 4 RL wsL_law room_1 (some .boolean)) {Inv : MI → MJ → Prop} (P17 : ∀ (I : MI) (J : MJ), Inv I J → vc_X10_undo I J (fun (r : Int32) (I1 : MI) (J1 : MJ) => vc_X11_undo I1 J1 (fun (q : Int32) (I2 : MI) (J2 : MJ) => r = q ∧ Inv I2 J2))) {b L i : Nat} {xs : Nat → Int32} (hX : va_X b L xs (zs Z) (zs Z).heap) (hbl : b < (zs Z).heap.size) (hbA : ¬ zA Z b) (b1 : vp_in (nI i + 1) L) (b2 : vp_in (nI i + 2) L) (b3 : vp_in (nI i + 3) L) (b4 : vp_in (nI i + 4) L) (hk : ∀ I J, Inv I J → GW Z 4 I J 1264 [(0, .ref b), (1, .ref (ea (zE Z) 0)), (2, .ref (ea (zE Z) 87)), (3, .int (nI i))] []) (I : MI) (J : MJ) (hI : Inv I J) : GW Z 4 I J 649 [(0, .ref b), (1, .ref (ea (zE Z) 0)), (2, .ref (ea (zE Z) 87)), (3, .int (nI i))] [] := by
  have h := P17 I J hI
  refine g_aload_n X dL_law_649 rfl 1 rfl ?_
  refine g_callVI X (b := 0) (As := []) (rest := []) (T := TX10) (N := 9) (c_X10_undo (zl Z) (zE Z) ) gL_law_X10_undo yo_X10_undo rfl ⟨Nat.le_of_ble_eq_true rfl, Nat.le_of_ble_eq_true rfl⟩ (Nat.le_of_ble_eq_true rfl) rfl rfl rfl dL_law_650 h (fun r I1 J1 h => ?_)
  refine g_aload_n X dL_law_653 rfl 2 rfl ?_
  refine g_callVI X (b := 87) (As := []) (rest := [.int r]) (T := TX11) (N := 39) (c_X11_undo (zl Z) (zE Z) ) gL_law_X11_undo yo_X11_undo rfl ⟨Nat.le_of_ble_eq_true rfl, Nat.le_of_ble_eq_true rfl⟩ (Nat.le_of_ble_eq_true rfl) rfl rfl rfl dL_law_654 h (fun q I2 J2 h => ?_)
  obtain ⟨rfl, hI⟩ := h
  refine g_icmp_eq X (tgt := 1264) dL_law_657 (by decide) (fun _ => hk I2 J2 hI) (fun z => absurd rfl z)
set_option maxRecDepth 100000 in
set_option maxHeartbeats 4000000 in
theorem law_18 {Z : RT} (X : Cx Z code 4 RL wsL_law room_1 (some .boolean)) {Inv : MI → MJ → Prop} (P18 : ∀ (I : MI) (J : MJ), Inv I J → ∀ (x1 : Int32), vc_X10_keep x1 I J (fun (r : Int32) (I1 : MI) (J1 : MJ) => vc_X11_keep x1 I1 J1 (fun (q : Int32) (I2 : MI) (J2 : MJ) => r = q ∧ Inv I2 J2))) {b L i : Nat} {xs : Nat → Int32} (hX : va_X b L xs (zs Z) (zs Z).heap) (hbl : b < (zs Z).heap.size) (hbA : ¬ zA Z b) (b1 : vp_in (nI i + 1) L) (b2 : vp_in (nI i + 2) L) (b3 : vp_in (nI i + 3) L) (b4 : vp_in (nI i + 4) L) (hk : ∀ I J, Inv I J → GW Z 4 I J 1264 [(0, .ref b), (1, .ref (ea (zE Z) 0)), (2, .ref (ea (zE Z) 87)), (3, .int (nI i))] []) (I : MI) (J : MJ) (hI : Inv I J) : GW Z 4 I J 662 [(0, .ref b), (1, .ref (ea (zE Z) 0)), (2, .ref (ea (zE Z) 87)), (3, .int (nI i))] [] := by
  have h := P18 I J hI (xs (Int32.toNatClampNeg (nI i + 1)))
  refine g_aload_n X dL_law_662 rfl 1 rfl ?_
  refine g_aload_n X dL_law_663 rfl 0 rfl ?_
  refine g_iload_n X dL_law_664 rfl 3 rfl ?_
  refine g_iconst X (v := 1) dL_law_665 (by decide) ?_
  refine g_iadd X dL_law_666 ?_
  refine g_sld X hX hbl hbA b1 dL_law_667 ?_
  refine g_callVI X (b := 0) (As := [.int (xs (Int32.toNatClampNeg (nI i + 1)))]) (rest := []) (T := TX10) (N := 9) (c_X10_keep (zl Z) (zE Z) (xs (Int32.toNatClampNeg (nI i + 1)))) gL_law_X10_keep yo_X10_keep rfl ⟨Nat.le_of_ble_eq_true rfl, Nat.le_of_ble_eq_true rfl⟩ (Nat.le_of_ble_eq_true rfl) rfl rfl rfl dL_law_668 h (fun r I1 J1 h => ?_)
  refine g_aload_n X dL_law_671 rfl 2 rfl ?_
  refine g_aload_n X dL_law_672 rfl 0 rfl ?_
  refine g_iload_n X dL_law_673 rfl 3 rfl ?_
  refine g_iconst X (v := 1) dL_law_674 (by decide) ?_
  refine g_iadd X dL_law_675 ?_
  refine g_sld X hX hbl hbA b1 dL_law_676 ?_
  refine g_callVI X (b := 87) (As := [.int (xs (Int32.toNatClampNeg (nI i + 1)))]) (rest := [.int r]) (T := TX11) (N := 39) (c_X11_keep (zl Z) (zE Z) (xs (Int32.toNatClampNeg (nI i + 1)))) gL_law_X11_keep yo_X11_keep rfl ⟨Nat.le_of_ble_eq_true rfl, Nat.le_of_ble_eq_true rfl⟩ (Nat.le_of_ble_eq_true rfl) rfl rfl rfl dL_law_677 h (fun q I2 J2 h => ?_)
  obtain ⟨rfl, hI⟩ := h
  refine g_icmp_eq X (tgt := 1264) dL_law_680 (by decide) (fun _ => hk I2 J2 hI) (fun z => absurd rfl z)
set_option maxRecDepth 100000 in
set_option maxHeartbeats 4000000 in
theorem law_19 {Z : RT} (X : Cx Z code 4 RL wsL_law room_1 (some .boolean)) {Inv : MI → MJ → Prop} (P19 : ∀ (I : MI) (J : MJ), Inv I J → ∀ (x1 : Int32), vc_X10_back x1 I J (fun (r : Int32) (I1 : MI) (J1 : MJ) => vc_X11_back x1 I1 J1 (fun (q : Int32) (I2 : MI) (J2 : MJ) => r = q ∧ Inv I2 J2))) {b L i : Nat} {xs : Nat → Int32} (hX : va_X b L xs (zs Z) (zs Z).heap) (hbl : b < (zs Z).heap.size) (hbA : ¬ zA Z b) (b1 : vp_in (nI i + 1) L) (b2 : vp_in (nI i + 2) L) (b3 : vp_in (nI i + 3) L) (b4 : vp_in (nI i + 4) L) (hk : ∀ I J, Inv I J → GW Z 4 I J 1264 [(0, .ref b), (1, .ref (ea (zE Z) 0)), (2, .ref (ea (zE Z) 87)), (3, .int (nI i))] []) (I : MI) (J : MJ) (hI : Inv I J) : GW Z 4 I J 685 [(0, .ref b), (1, .ref (ea (zE Z) 0)), (2, .ref (ea (zE Z) 87)), (3, .int (nI i))] [] := by
  have h := P19 I J hI (xs (Int32.toNatClampNeg (nI i + 1)))
  refine g_aload_n X dL_law_685 rfl 1 rfl ?_
  refine g_aload_n X dL_law_686 rfl 0 rfl ?_
  refine g_iload_n X dL_law_687 rfl 3 rfl ?_
  refine g_iconst X (v := 1) dL_law_688 (by decide) ?_
  refine g_iadd X dL_law_689 ?_
  refine g_sld X hX hbl hbA b1 dL_law_690 ?_
  refine g_callVI X (b := 0) (As := [.int (xs (Int32.toNatClampNeg (nI i + 1)))]) (rest := []) (T := TX10) (N := 9) (c_X10_back (zl Z) (zE Z) (xs (Int32.toNatClampNeg (nI i + 1)))) gL_law_X10_back yo_X10_back rfl ⟨Nat.le_of_ble_eq_true rfl, Nat.le_of_ble_eq_true rfl⟩ (Nat.le_of_ble_eq_true rfl) rfl rfl rfl dL_law_691 h (fun r I1 J1 h => ?_)
  refine g_aload_n X dL_law_694 rfl 2 rfl ?_
  refine g_aload_n X dL_law_695 rfl 0 rfl ?_
  refine g_iload_n X dL_law_696 rfl 3 rfl ?_
  refine g_iconst X (v := 1) dL_law_697 (by decide) ?_
  refine g_iadd X dL_law_698 ?_
  refine g_sld X hX hbl hbA b1 dL_law_699 ?_
  refine g_callVI X (b := 87) (As := [.int (xs (Int32.toNatClampNeg (nI i + 1)))]) (rest := [.int r]) (T := TX11) (N := 39) (c_X11_back (zl Z) (zE Z) (xs (Int32.toNatClampNeg (nI i + 1)))) gL_law_X11_back yo_X11_back rfl ⟨Nat.le_of_ble_eq_true rfl, Nat.le_of_ble_eq_true rfl⟩ (Nat.le_of_ble_eq_true rfl) rfl rfl rfl dL_law_700 h (fun q I2 J2 h => ?_)
  obtain ⟨rfl, hI⟩ := h
  refine g_icmp_eq X (tgt := 1264) dL_law_703 (by decide) (fun _ => hk I2 J2 hI) (fun z => absurd rfl z)
set_option maxRecDepth 100000 in
set_option maxHeartbeats 4000000 in
theorem law_20 {Z : RT} (X : Cx Z code 4 RL wsL_law room_1 (some .boolean)) {Inv : MI → MJ → Prop} (P20 : ∀ (I : MI) (J : MJ), Inv I J → ∀ (x1 : Int32) (x2 : Int32) (x3 : Int32), vc_X10_comes x1 x2 x3 I J (fun (r : Int32) (I1 : MI) (J1 : MJ) => vc_X11_comes x1 x2 x3 I1 J1 (fun (q : Int32) (I2 : MI) (J2 : MJ) => r = q ∧ Inv I2 J2))) {b L i : Nat} {xs : Nat → Int32} (hX : va_X b L xs (zs Z) (zs Z).heap) (hbl : b < (zs Z).heap.size) (hbA : ¬ zA Z b) (b1 : vp_in (nI i + 1) L) (b2 : vp_in (nI i + 2) L) (b3 : vp_in (nI i + 3) L) (b4 : vp_in (nI i + 4) L) (hk : ∀ I J, Inv I J → GW Z 4 I J 1264 [(0, .ref b), (1, .ref (ea (zE Z) 0)), (2, .ref (ea (zE Z) 87)), (3, .int (nI i))] []) (I : MI) (J : MJ) (hI : Inv I J) : GW Z 4 I J 708 [(0, .ref b), (1, .ref (ea (zE Z) 0)), (2, .ref (ea (zE Z) 87)), (3, .int (nI i))] [] := by
  have h := P20 I J hI (xs (Int32.toNatClampNeg (nI i + 1))) (xs (Int32.toNatClampNeg (nI i + 2))) (xs (Int32.toNatClampNeg (nI i + 3)))
  refine g_aload_n X dL_law_708 rfl 1 rfl ?_
  refine g_aload_n X dL_law_709 rfl 0 rfl ?_
  refine g_iload_n X dL_law_710 rfl 3 rfl ?_
  refine g_iconst X (v := 1) dL_law_711 (by decide) ?_
  refine g_iadd X dL_law_712 ?_
  refine g_sld X hX hbl hbA b1 dL_law_713 ?_
  refine g_aload_n X dL_law_714 rfl 0 rfl ?_
  refine g_iload_n X dL_law_715 rfl 3 rfl ?_
  refine g_iconst X (v := 2) dL_law_716 (by decide) ?_
  refine g_iadd X dL_law_717 ?_
  refine g_sld X hX hbl hbA b2 dL_law_718 ?_
  refine g_aload_n X dL_law_719 rfl 0 rfl ?_
  refine g_iload_n X dL_law_720 rfl 3 rfl ?_
  refine g_iconst X (v := 3) dL_law_721 (by decide) ?_
  refine g_iadd X dL_law_722 ?_
  refine g_sld X hX hbl hbA b3 dL_law_723 ?_
  refine g_callVI X (b := 0) (As := [.int (xs (Int32.toNatClampNeg (nI i + 1))), .int (xs (Int32.toNatClampNeg (nI i + 2))), .int (xs (Int32.toNatClampNeg (nI i + 3)))]) (rest := []) (T := TX10) (N := 9) (c_X10_comes (zl Z) (zE Z) (xs (Int32.toNatClampNeg (nI i + 1))) (xs (Int32.toNatClampNeg (nI i + 2))) (xs (Int32.toNatClampNeg (nI i + 3)))) gL_law_X10_comes yo_X10_comes rfl ⟨Nat.le_of_ble_eq_true rfl, Nat.le_of_ble_eq_true rfl⟩ (Nat.le_of_ble_eq_true rfl) rfl rfl rfl dL_law_724 h (fun r I1 J1 h => ?_)
  refine g_aload_n X dL_law_727 rfl 2 rfl ?_
  refine g_aload_n X dL_law_728 rfl 0 rfl ?_
  refine g_iload_n X dL_law_729 rfl 3 rfl ?_
  refine g_iconst X (v := 1) dL_law_730 (by decide) ?_
  refine g_iadd X dL_law_731 ?_
  refine g_sld X hX hbl hbA b1 dL_law_732 ?_
  refine g_aload_n X dL_law_733 rfl 0 rfl ?_
  refine g_iload_n X dL_law_734 rfl 3 rfl ?_
  refine g_iconst X (v := 2) dL_law_735 (by decide) ?_
  refine g_iadd X dL_law_736 ?_
  refine g_sld X hX hbl hbA b2 dL_law_737 ?_
  refine g_aload_n X dL_law_738 rfl 0 rfl ?_
  refine g_iload_n X dL_law_739 rfl 3 rfl ?_
  refine g_iconst X (v := 3) dL_law_740 (by decide) ?_
  refine g_iadd X dL_law_741 ?_
  refine g_sld X hX hbl hbA b3 dL_law_742 ?_
  refine g_callVI X (b := 87) (As := [.int (xs (Int32.toNatClampNeg (nI i + 1))), .int (xs (Int32.toNatClampNeg (nI i + 2))), .int (xs (Int32.toNatClampNeg (nI i + 3)))]) (rest := [.int r]) (T := TX11) (N := 39) (c_X11_comes (zl Z) (zE Z) (xs (Int32.toNatClampNeg (nI i + 1))) (xs (Int32.toNatClampNeg (nI i + 2))) (xs (Int32.toNatClampNeg (nI i + 3)))) gL_law_X11_comes yo_X11_comes rfl ⟨Nat.le_of_ble_eq_true rfl, Nat.le_of_ble_eq_true rfl⟩ (Nat.le_of_ble_eq_true rfl) rfl rfl rfl dL_law_743 h (fun q I2 J2 h => ?_)
  obtain ⟨rfl, hI⟩ := h
  refine g_icmp_eq X (tgt := 1264) dL_law_746 (by decide) (fun _ => hk I2 J2 hI) (fun z => absurd rfl z)
set_option maxRecDepth 100000 in
set_option maxHeartbeats 4000000 in
theorem law_21 {Z : RT} (X : Cx Z code 4 RL wsL_law room_1 (some .boolean)) {Inv : MI → MJ → Prop} (P21 : ∀ (I : MI) (J : MJ), Inv I J → ∀ (x1 : Int32) (x2 : Int32) (x3 : Int32) (x4 : Int32), vc_X10_straw x1 x2 x3 x4 I J (fun (r : Int32) (I1 : MI) (J1 : MJ) => vc_X11_straw x1 x2 x3 x4 I1 J1 (fun (q : Int32) (I2 : MI) (J2 : MJ) => r = q ∧ Inv I2 J2))) {b L i : Nat} {xs : Nat → Int32} (hX : va_X b L xs (zs Z) (zs Z).heap) (hbl : b < (zs Z).heap.size) (hbA : ¬ zA Z b) (b1 : vp_in (nI i + 1) L) (b2 : vp_in (nI i + 2) L) (b3 : vp_in (nI i + 3) L) (b4 : vp_in (nI i + 4) L) (hk : ∀ I J, Inv I J → GW Z 4 I J 1264 [(0, .ref b), (1, .ref (ea (zE Z) 0)), (2, .ref (ea (zE Z) 87)), (3, .int (nI i))] []) (I : MI) (J : MJ) (hI : Inv I J) : GW Z 4 I J 751 [(0, .ref b), (1, .ref (ea (zE Z) 0)), (2, .ref (ea (zE Z) 87)), (3, .int (nI i))] [] := by
  have h := P21 I J hI (xs (Int32.toNatClampNeg (nI i + 1))) (xs (Int32.toNatClampNeg (nI i + 2))) (xs (Int32.toNatClampNeg (nI i + 3))) (xs (Int32.toNatClampNeg (nI i + 4)))
  refine g_aload_n X dL_law_751 rfl 1 rfl ?_
  refine g_aload_n X dL_law_752 rfl 0 rfl ?_
  refine g_iload_n X dL_law_753 rfl 3 rfl ?_
  refine g_iconst X (v := 1) dL_law_754 (by decide) ?_
  refine g_iadd X dL_law_755 ?_
  refine g_sld X hX hbl hbA b1 dL_law_756 ?_
  refine g_aload_n X dL_law_757 rfl 0 rfl ?_
  refine g_iload_n X dL_law_758 rfl 3 rfl ?_
  refine g_iconst X (v := 2) dL_law_759 (by decide) ?_
  refine g_iadd X dL_law_760 ?_
  refine g_sld X hX hbl hbA b2 dL_law_761 ?_
  refine g_aload_n X dL_law_762 rfl 0 rfl ?_
  refine g_iload_n X dL_law_763 rfl 3 rfl ?_
  refine g_iconst X (v := 3) dL_law_764 (by decide) ?_
  refine g_iadd X dL_law_765 ?_
  refine g_sld X hX hbl hbA b3 dL_law_766 ?_
  refine g_aload_n X dL_law_767 rfl 0 rfl ?_
  refine g_iload_n X dL_law_768 rfl 3 rfl ?_
  refine g_iconst X (v := 4) dL_law_769 (by decide) ?_
  refine g_iadd X dL_law_770 ?_
  refine g_sld X hX hbl hbA b4 dL_law_771 ?_
  refine g_callVI X (b := 0) (As := [.int (xs (Int32.toNatClampNeg (nI i + 1))), .int (xs (Int32.toNatClampNeg (nI i + 2))), .int (xs (Int32.toNatClampNeg (nI i + 3))), .int (xs (Int32.toNatClampNeg (nI i + 4)))]) (rest := []) (T := TX10) (N := 9) (c_X10_straw (zl Z) (zE Z) (xs (Int32.toNatClampNeg (nI i + 1))) (xs (Int32.toNatClampNeg (nI i + 2))) (xs (Int32.toNatClampNeg (nI i + 3))) (xs (Int32.toNatClampNeg (nI i + 4)))) gL_law_X10_straw yo_X10_straw rfl ⟨Nat.le_of_ble_eq_true rfl, Nat.le_of_ble_eq_true rfl⟩ (Nat.le_of_ble_eq_true rfl) rfl rfl rfl dL_law_772 h (fun r I1 J1 h => ?_)
  refine g_aload_n X dL_law_775 rfl 2 rfl ?_
  refine g_aload_n X dL_law_776 rfl 0 rfl ?_
  refine g_iload_n X dL_law_777 rfl 3 rfl ?_
  refine g_iconst X (v := 1) dL_law_778 (by decide) ?_
  refine g_iadd X dL_law_779 ?_
  refine g_sld X hX hbl hbA b1 dL_law_780 ?_
  refine g_aload_n X dL_law_781 rfl 0 rfl ?_
  refine g_iload_n X dL_law_782 rfl 3 rfl ?_
  refine g_iconst X (v := 2) dL_law_783 (by decide) ?_
  refine g_iadd X dL_law_784 ?_
  refine g_sld X hX hbl hbA b2 dL_law_785 ?_
  refine g_aload_n X dL_law_786 rfl 0 rfl ?_
  refine g_iload_n X dL_law_787 rfl 3 rfl ?_
  refine g_iconst X (v := 3) dL_law_788 (by decide) ?_
  refine g_iadd X dL_law_789 ?_
  refine g_sld X hX hbl hbA b3 dL_law_790 ?_
  refine g_aload_n X dL_law_791 rfl 0 rfl ?_
  refine g_iload_n X dL_law_792 rfl 3 rfl ?_
  refine g_iconst X (v := 4) dL_law_793 (by decide) ?_
  refine g_iadd X dL_law_794 ?_
  refine g_sld X hX hbl hbA b4 dL_law_795 ?_
  refine g_callVI X (b := 87) (As := [.int (xs (Int32.toNatClampNeg (nI i + 1))), .int (xs (Int32.toNatClampNeg (nI i + 2))), .int (xs (Int32.toNatClampNeg (nI i + 3))), .int (xs (Int32.toNatClampNeg (nI i + 4)))]) (rest := [.int r]) (T := TX11) (N := 39) (c_X11_straw (zl Z) (zE Z) (xs (Int32.toNatClampNeg (nI i + 1))) (xs (Int32.toNatClampNeg (nI i + 2))) (xs (Int32.toNatClampNeg (nI i + 3))) (xs (Int32.toNatClampNeg (nI i + 4)))) gL_law_X11_straw yo_X11_straw rfl ⟨Nat.le_of_ble_eq_true rfl, Nat.le_of_ble_eq_true rfl⟩ (Nat.le_of_ble_eq_true rfl) rfl rfl rfl dL_law_796 h (fun q I2 J2 h => ?_)
  obtain ⟨rfl, hI⟩ := h
  refine g_icmp_eq X (tgt := 1264) dL_law_799 (by decide) (fun _ => hk I2 J2 hI) (fun z => absurd rfl z)
set_option maxRecDepth 100000 in
set_option maxHeartbeats 4000000 in
theorem law_22 {Z : RT} (X : Cx Z code 4 RL wsL_law room_1 (some .boolean)) {Inv : MI → MJ → Prop} (P22 : ∀ (I : MI) (J : MJ), Inv I J → ∀ (x1 : Int32) (x2 : Int32) (x3 : Int32) (x4 : Int32), vc_X10_meet x1 x2 x3 x4 I J (fun (r : Int32) (I1 : MI) (J1 : MJ) => vc_X11_meet x1 x2 x3 x4 I1 J1 (fun (q : Int32) (I2 : MI) (J2 : MJ) => r = q ∧ Inv I2 J2))) {b L i : Nat} {xs : Nat → Int32} (hX : va_X b L xs (zs Z) (zs Z).heap) (hbl : b < (zs Z).heap.size) (hbA : ¬ zA Z b) (b1 : vp_in (nI i + 1) L) (b2 : vp_in (nI i + 2) L) (b3 : vp_in (nI i + 3) L) (b4 : vp_in (nI i + 4) L) (hk : ∀ I J, Inv I J → GW Z 4 I J 1264 [(0, .ref b), (1, .ref (ea (zE Z) 0)), (2, .ref (ea (zE Z) 87)), (3, .int (nI i))] []) (I : MI) (J : MJ) (hI : Inv I J) : GW Z 4 I J 804 [(0, .ref b), (1, .ref (ea (zE Z) 0)), (2, .ref (ea (zE Z) 87)), (3, .int (nI i))] [] := by
  have h := P22 I J hI (xs (Int32.toNatClampNeg (nI i + 1))) (xs (Int32.toNatClampNeg (nI i + 2))) (xs (Int32.toNatClampNeg (nI i + 3))) (xs (Int32.toNatClampNeg (nI i + 4)))
  refine g_aload_n X dL_law_804 rfl 1 rfl ?_
  refine g_aload_n X dL_law_805 rfl 0 rfl ?_
  refine g_iload_n X dL_law_806 rfl 3 rfl ?_
  refine g_iconst X (v := 1) dL_law_807 (by decide) ?_
  refine g_iadd X dL_law_808 ?_
  refine g_sld X hX hbl hbA b1 dL_law_809 ?_
  refine g_aload_n X dL_law_810 rfl 0 rfl ?_
  refine g_iload_n X dL_law_811 rfl 3 rfl ?_
  refine g_iconst X (v := 2) dL_law_812 (by decide) ?_
  refine g_iadd X dL_law_813 ?_
  refine g_sld X hX hbl hbA b2 dL_law_814 ?_
  refine g_aload_n X dL_law_815 rfl 0 rfl ?_
  refine g_iload_n X dL_law_816 rfl 3 rfl ?_
  refine g_iconst X (v := 3) dL_law_817 (by decide) ?_
  refine g_iadd X dL_law_818 ?_
  refine g_sld X hX hbl hbA b3 dL_law_819 ?_
  refine g_aload_n X dL_law_820 rfl 0 rfl ?_
  refine g_iload_n X dL_law_821 rfl 3 rfl ?_
  refine g_iconst X (v := 4) dL_law_822 (by decide) ?_
  refine g_iadd X dL_law_823 ?_
  refine g_sld X hX hbl hbA b4 dL_law_824 ?_
  refine g_callVI X (b := 0) (As := [.int (xs (Int32.toNatClampNeg (nI i + 1))), .int (xs (Int32.toNatClampNeg (nI i + 2))), .int (xs (Int32.toNatClampNeg (nI i + 3))), .int (xs (Int32.toNatClampNeg (nI i + 4)))]) (rest := []) (T := TX10) (N := 9) (c_X10_meet (zl Z) (zE Z) (xs (Int32.toNatClampNeg (nI i + 1))) (xs (Int32.toNatClampNeg (nI i + 2))) (xs (Int32.toNatClampNeg (nI i + 3))) (xs (Int32.toNatClampNeg (nI i + 4)))) gL_law_X10_meet yo_X10_meet rfl ⟨Nat.le_of_ble_eq_true rfl, Nat.le_of_ble_eq_true rfl⟩ (Nat.le_of_ble_eq_true rfl) rfl rfl rfl dL_law_825 h (fun r I1 J1 h => ?_)
  refine g_aload_n X dL_law_828 rfl 2 rfl ?_
  refine g_aload_n X dL_law_829 rfl 0 rfl ?_
  refine g_iload_n X dL_law_830 rfl 3 rfl ?_
  refine g_iconst X (v := 1) dL_law_831 (by decide) ?_
  refine g_iadd X dL_law_832 ?_
  refine g_sld X hX hbl hbA b1 dL_law_833 ?_
  refine g_aload_n X dL_law_834 rfl 0 rfl ?_
  refine g_iload_n X dL_law_835 rfl 3 rfl ?_
  refine g_iconst X (v := 2) dL_law_836 (by decide) ?_
  refine g_iadd X dL_law_837 ?_
  refine g_sld X hX hbl hbA b2 dL_law_838 ?_
  refine g_aload_n X dL_law_839 rfl 0 rfl ?_
  refine g_iload_n X dL_law_840 rfl 3 rfl ?_
  refine g_iconst X (v := 3) dL_law_841 (by decide) ?_
  refine g_iadd X dL_law_842 ?_
  refine g_sld X hX hbl hbA b3 dL_law_843 ?_
  refine g_aload_n X dL_law_844 rfl 0 rfl ?_
  refine g_iload_n X dL_law_845 rfl 3 rfl ?_
  refine g_iconst X (v := 4) dL_law_846 (by decide) ?_
  refine g_iadd X dL_law_847 ?_
  refine g_sld X hX hbl hbA b4 dL_law_848 ?_
  refine g_callVI X (b := 87) (As := [.int (xs (Int32.toNatClampNeg (nI i + 1))), .int (xs (Int32.toNatClampNeg (nI i + 2))), .int (xs (Int32.toNatClampNeg (nI i + 3))), .int (xs (Int32.toNatClampNeg (nI i + 4)))]) (rest := [.int r]) (T := TX11) (N := 39) (c_X11_meet (zl Z) (zE Z) (xs (Int32.toNatClampNeg (nI i + 1))) (xs (Int32.toNatClampNeg (nI i + 2))) (xs (Int32.toNatClampNeg (nI i + 3))) (xs (Int32.toNatClampNeg (nI i + 4)))) gL_law_X11_meet yo_X11_meet rfl ⟨Nat.le_of_ble_eq_true rfl, Nat.le_of_ble_eq_true rfl⟩ (Nat.le_of_ble_eq_true rfl) rfl rfl rfl dL_law_849 h (fun q I2 J2 h => ?_)
  obtain ⟨rfl, hI⟩ := h
  refine g_icmp_eq X (tgt := 1264) dL_law_852 (by decide) (fun _ => hk I2 J2 hI) (fun z => absurd rfl z)
set_option maxRecDepth 100000 in
set_option maxHeartbeats 4000000 in
theorem law_23 {Z : RT} (X : Cx Z code 4 RL wsL_law room_1 (some .boolean)) {Inv : MI → MJ → Prop} (P23 : ∀ (I : MI) (J : MJ), Inv I J → ∀ (x1 : Int32), vc_X10_taker x1 I J (fun (r : Int32) (I1 : MI) (J1 : MJ) => vc_X11_taker x1 I1 J1 (fun (q : Int32) (I2 : MI) (J2 : MJ) => r = q ∧ Inv I2 J2))) {b L i : Nat} {xs : Nat → Int32} (hX : va_X b L xs (zs Z) (zs Z).heap) (hbl : b < (zs Z).heap.size) (hbA : ¬ zA Z b) (b1 : vp_in (nI i + 1) L) (b2 : vp_in (nI i + 2) L) (b3 : vp_in (nI i + 3) L) (b4 : vp_in (nI i + 4) L) (hk : ∀ I J, Inv I J → GW Z 4 I J 1264 [(0, .ref b), (1, .ref (ea (zE Z) 0)), (2, .ref (ea (zE Z) 87)), (3, .int (nI i))] []) (I : MI) (J : MJ) (hI : Inv I J) : GW Z 4 I J 857 [(0, .ref b), (1, .ref (ea (zE Z) 0)), (2, .ref (ea (zE Z) 87)), (3, .int (nI i))] [] := by
  have h := P23 I J hI (xs (Int32.toNatClampNeg (nI i + 1)))
  refine g_aload_n X dL_law_857 rfl 1 rfl ?_
  refine g_aload_n X dL_law_858 rfl 0 rfl ?_
  refine g_iload_n X dL_law_859 rfl 3 rfl ?_
  refine g_iconst X (v := 1) dL_law_860 (by decide) ?_
  refine g_iadd X dL_law_861 ?_
  refine g_sld X hX hbl hbA b1 dL_law_862 ?_
  refine g_callVI X (b := 0) (As := [.int (xs (Int32.toNatClampNeg (nI i + 1)))]) (rest := []) (T := TX10) (N := 9) (c_X10_taker (zl Z) (zE Z) (xs (Int32.toNatClampNeg (nI i + 1)))) gL_law_X10_taker yo_X10_taker rfl ⟨Nat.le_of_ble_eq_true rfl, Nat.le_of_ble_eq_true rfl⟩ (Nat.le_of_ble_eq_true rfl) rfl rfl rfl dL_law_863 h (fun r I1 J1 h => ?_)
  refine g_aload_n X dL_law_866 rfl 2 rfl ?_
  refine g_aload_n X dL_law_867 rfl 0 rfl ?_
  refine g_iload_n X dL_law_868 rfl 3 rfl ?_
  refine g_iconst X (v := 1) dL_law_869 (by decide) ?_
  refine g_iadd X dL_law_870 ?_
  refine g_sld X hX hbl hbA b1 dL_law_871 ?_
  refine g_callVI X (b := 87) (As := [.int (xs (Int32.toNatClampNeg (nI i + 1)))]) (rest := [.int r]) (T := TX11) (N := 39) (c_X11_taker (zl Z) (zE Z) (xs (Int32.toNatClampNeg (nI i + 1)))) gL_law_X11_taker yo_X11_taker rfl ⟨Nat.le_of_ble_eq_true rfl, Nat.le_of_ble_eq_true rfl⟩ (Nat.le_of_ble_eq_true rfl) rfl rfl rfl dL_law_872 h (fun q I2 J2 h => ?_)
  obtain ⟨rfl, hI⟩ := h
  refine g_icmp_eq X (tgt := 1264) dL_law_875 (by decide) (fun _ => hk I2 J2 hI) (fun z => absurd rfl z)
set_option maxRecDepth 100000 in
set_option maxHeartbeats 4000000 in
theorem law_24 {Z : RT} (X : Cx Z code 4 RL wsL_law room_1 (some .boolean)) {Inv : MI → MJ → Prop} (P24 : ∀ (I : MI) (J : MJ), Inv I J → vc_X10_dismiss I J (fun (r : Int32) (I1 : MI) (J1 : MJ) => vc_X11_dismiss I1 J1 (fun (q : Int32) (I2 : MI) (J2 : MJ) => r = q ∧ Inv I2 J2))) {b L i : Nat} {xs : Nat → Int32} (hX : va_X b L xs (zs Z) (zs Z).heap) (hbl : b < (zs Z).heap.size) (hbA : ¬ zA Z b) (b1 : vp_in (nI i + 1) L) (b2 : vp_in (nI i + 2) L) (b3 : vp_in (nI i + 3) L) (b4 : vp_in (nI i + 4) L) (hk : ∀ I J, Inv I J → GW Z 4 I J 1264 [(0, .ref b), (1, .ref (ea (zE Z) 0)), (2, .ref (ea (zE Z) 87)), (3, .int (nI i))] []) (I : MI) (J : MJ) (hI : Inv I J) : GW Z 4 I J 880 [(0, .ref b), (1, .ref (ea (zE Z) 0)), (2, .ref (ea (zE Z) 87)), (3, .int (nI i))] [] := by
  have h := P24 I J hI
  refine g_aload_n X dL_law_880 rfl 1 rfl ?_
  refine g_callVI X (b := 0) (As := []) (rest := []) (T := TX10) (N := 9) (c_X10_dismiss (zl Z) (zE Z) ) gL_law_X10_dismiss yo_X10_dismiss rfl ⟨Nat.le_of_ble_eq_true rfl, Nat.le_of_ble_eq_true rfl⟩ (Nat.le_of_ble_eq_true rfl) rfl rfl rfl dL_law_881 h (fun r I1 J1 h => ?_)
  refine g_aload_n X dL_law_884 rfl 2 rfl ?_
  refine g_callVI X (b := 87) (As := []) (rest := [.int r]) (T := TX11) (N := 39) (c_X11_dismiss (zl Z) (zE Z) ) gL_law_X11_dismiss yo_X11_dismiss rfl ⟨Nat.le_of_ble_eq_true rfl, Nat.le_of_ble_eq_true rfl⟩ (Nat.le_of_ble_eq_true rfl) rfl rfl rfl dL_law_885 h (fun q I2 J2 h => ?_)
  obtain ⟨rfl, hI⟩ := h
  refine g_icmp_eq X (tgt := 1264) dL_law_888 (by decide) (fun _ => hk I2 J2 hI) (fun z => absurd rfl z)
set_option maxRecDepth 100000 in
set_option maxHeartbeats 4000000 in
theorem law_25 {Z : RT} (X : Cx Z code 4 RL wsL_law room_1 (some .boolean)) {Inv : MI → MJ → Prop} (P25 : ∀ (I : MI) (J : MJ), Inv I J → ∀ (x1 : Int32) (x2 : Int32) (x3 : Int32), vc_X10_left x1 x2 x3 I J (fun (r : Int32) (I1 : MI) (J1 : MJ) => vc_X11_left x1 x2 x3 I1 J1 (fun (q : Int32) (I2 : MI) (J2 : MJ) => r = q ∧ Inv I2 J2))) {b L i : Nat} {xs : Nat → Int32} (hX : va_X b L xs (zs Z) (zs Z).heap) (hbl : b < (zs Z).heap.size) (hbA : ¬ zA Z b) (b1 : vp_in (nI i + 1) L) (b2 : vp_in (nI i + 2) L) (b3 : vp_in (nI i + 3) L) (b4 : vp_in (nI i + 4) L) (hk : ∀ I J, Inv I J → GW Z 4 I J 1264 [(0, .ref b), (1, .ref (ea (zE Z) 0)), (2, .ref (ea (zE Z) 87)), (3, .int (nI i))] []) (I : MI) (J : MJ) (hI : Inv I J) : GW Z 4 I J 893 [(0, .ref b), (1, .ref (ea (zE Z) 0)), (2, .ref (ea (zE Z) 87)), (3, .int (nI i))] [] := by
  have h := P25 I J hI (xs (Int32.toNatClampNeg (nI i + 1))) (xs (Int32.toNatClampNeg (nI i + 2))) (xs (Int32.toNatClampNeg (nI i + 3)))
  refine g_aload_n X dL_law_893 rfl 1 rfl ?_
  refine g_aload_n X dL_law_894 rfl 0 rfl ?_
  refine g_iload_n X dL_law_895 rfl 3 rfl ?_
  refine g_iconst X (v := 1) dL_law_896 (by decide) ?_
  refine g_iadd X dL_law_897 ?_
  refine g_sld X hX hbl hbA b1 dL_law_898 ?_
  refine g_aload_n X dL_law_899 rfl 0 rfl ?_
  refine g_iload_n X dL_law_900 rfl 3 rfl ?_
  refine g_iconst X (v := 2) dL_law_901 (by decide) ?_
  refine g_iadd X dL_law_902 ?_
  refine g_sld X hX hbl hbA b2 dL_law_903 ?_
  refine g_aload_n X dL_law_904 rfl 0 rfl ?_
  refine g_iload_n X dL_law_905 rfl 3 rfl ?_
  refine g_iconst X (v := 3) dL_law_906 (by decide) ?_
  refine g_iadd X dL_law_907 ?_
  refine g_sld X hX hbl hbA b3 dL_law_908 ?_
  refine g_callVI X (b := 0) (As := [.int (xs (Int32.toNatClampNeg (nI i + 1))), .int (xs (Int32.toNatClampNeg (nI i + 2))), .int (xs (Int32.toNatClampNeg (nI i + 3)))]) (rest := []) (T := TX10) (N := 9) (c_X10_left (zl Z) (zE Z) (xs (Int32.toNatClampNeg (nI i + 1))) (xs (Int32.toNatClampNeg (nI i + 2))) (xs (Int32.toNatClampNeg (nI i + 3)))) gL_law_X10_left yo_X10_left rfl ⟨Nat.le_of_ble_eq_true rfl, Nat.le_of_ble_eq_true rfl⟩ (Nat.le_of_ble_eq_true rfl) rfl rfl rfl dL_law_909 h (fun r I1 J1 h => ?_)
  refine g_aload_n X dL_law_912 rfl 2 rfl ?_
  refine g_aload_n X dL_law_913 rfl 0 rfl ?_
  refine g_iload_n X dL_law_914 rfl 3 rfl ?_
  refine g_iconst X (v := 1) dL_law_915 (by decide) ?_
  refine g_iadd X dL_law_916 ?_
  refine g_sld X hX hbl hbA b1 dL_law_917 ?_
  refine g_aload_n X dL_law_918 rfl 0 rfl ?_
  refine g_iload_n X dL_law_919 rfl 3 rfl ?_
  refine g_iconst X (v := 2) dL_law_920 (by decide) ?_
  refine g_iadd X dL_law_921 ?_
  refine g_sld X hX hbl hbA b2 dL_law_922 ?_
  refine g_aload_n X dL_law_923 rfl 0 rfl ?_
  refine g_iload_n X dL_law_924 rfl 3 rfl ?_
  refine g_iconst X (v := 3) dL_law_925 (by decide) ?_
  refine g_iadd X dL_law_926 ?_
  refine g_sld X hX hbl hbA b3 dL_law_927 ?_
  refine g_callVI X (b := 87) (As := [.int (xs (Int32.toNatClampNeg (nI i + 1))), .int (xs (Int32.toNatClampNeg (nI i + 2))), .int (xs (Int32.toNatClampNeg (nI i + 3)))]) (rest := [.int r]) (T := TX11) (N := 39) (c_X11_left (zl Z) (zE Z) (xs (Int32.toNatClampNeg (nI i + 1))) (xs (Int32.toNatClampNeg (nI i + 2))) (xs (Int32.toNatClampNeg (nI i + 3)))) gL_law_X11_left yo_X11_left rfl ⟨Nat.le_of_ble_eq_true rfl, Nat.le_of_ble_eq_true rfl⟩ (Nat.le_of_ble_eq_true rfl) rfl rfl rfl dL_law_928 h (fun q I2 J2 h => ?_)
  obtain ⟨rfl, hI⟩ := h
  refine g_icmp_eq X (tgt := 1264) dL_law_931 (by decide) (fun _ => hk I2 J2 hI) (fun z => absurd rfl z)
set_option maxRecDepth 100000 in
set_option maxHeartbeats 4000000 in
theorem law_26 {Z : RT} (X : Cx Z code 4 RL wsL_law room_1 (some .boolean)) {Inv : MI → MJ → Prop} (P26 : ∀ (I : MI) (J : MJ), Inv I J → ∀ (x1 : Int32) (x2 : Int32) (x3 : Int32), vc_X10_drip x1 x2 x3 I J (fun (r : Int32) (I1 : MI) (J1 : MJ) => vc_X11_drip x1 x2 x3 I1 J1 (fun (q : Int32) (I2 : MI) (J2 : MJ) => r = q ∧ Inv I2 J2))) {b L i : Nat} {xs : Nat → Int32} (hX : va_X b L xs (zs Z) (zs Z).heap) (hbl : b < (zs Z).heap.size) (hbA : ¬ zA Z b) (b1 : vp_in (nI i + 1) L) (b2 : vp_in (nI i + 2) L) (b3 : vp_in (nI i + 3) L) (b4 : vp_in (nI i + 4) L) (hk : ∀ I J, Inv I J → GW Z 4 I J 1264 [(0, .ref b), (1, .ref (ea (zE Z) 0)), (2, .ref (ea (zE Z) 87)), (3, .int (nI i))] []) (I : MI) (J : MJ) (hI : Inv I J) : GW Z 4 I J 936 [(0, .ref b), (1, .ref (ea (zE Z) 0)), (2, .ref (ea (zE Z) 87)), (3, .int (nI i))] [] := by
  have h := P26 I J hI (xs (Int32.toNatClampNeg (nI i + 1))) (xs (Int32.toNatClampNeg (nI i + 2))) (xs (Int32.toNatClampNeg (nI i + 3)))
  refine g_aload_n X dL_law_936 rfl 1 rfl ?_
  refine g_aload_n X dL_law_937 rfl 0 rfl ?_
  refine g_iload_n X dL_law_938 rfl 3 rfl ?_
  refine g_iconst X (v := 1) dL_law_939 (by decide) ?_
  refine g_iadd X dL_law_940 ?_
  refine g_sld X hX hbl hbA b1 dL_law_941 ?_
  refine g_aload_n X dL_law_942 rfl 0 rfl ?_
  refine g_iload_n X dL_law_943 rfl 3 rfl ?_
  refine g_iconst X (v := 2) dL_law_944 (by decide) ?_
  refine g_iadd X dL_law_945 ?_
  refine g_sld X hX hbl hbA b2 dL_law_946 ?_
  refine g_aload_n X dL_law_947 rfl 0 rfl ?_
  refine g_iload_n X dL_law_948 rfl 3 rfl ?_
  refine g_iconst X (v := 3) dL_law_949 (by decide) ?_
  refine g_iadd X dL_law_950 ?_
  refine g_sld X hX hbl hbA b3 dL_law_951 ?_
  refine g_callVI X (b := 0) (As := [.int (xs (Int32.toNatClampNeg (nI i + 1))), .int (xs (Int32.toNatClampNeg (nI i + 2))), .int (xs (Int32.toNatClampNeg (nI i + 3)))]) (rest := []) (T := TX10) (N := 9) (c_X10_drip (zl Z) (zE Z) (xs (Int32.toNatClampNeg (nI i + 1))) (xs (Int32.toNatClampNeg (nI i + 2))) (xs (Int32.toNatClampNeg (nI i + 3)))) gL_law_X10_drip yo_X10_drip rfl ⟨Nat.le_of_ble_eq_true rfl, Nat.le_of_ble_eq_true rfl⟩ (Nat.le_of_ble_eq_true rfl) rfl rfl rfl dL_law_952 h (fun r I1 J1 h => ?_)
  refine g_aload_n X dL_law_955 rfl 2 rfl ?_
  refine g_aload_n X dL_law_956 rfl 0 rfl ?_
  refine g_iload_n X dL_law_957 rfl 3 rfl ?_
  refine g_iconst X (v := 1) dL_law_958 (by decide) ?_
  refine g_iadd X dL_law_959 ?_
  refine g_sld X hX hbl hbA b1 dL_law_960 ?_
  refine g_aload_n X dL_law_961 rfl 0 rfl ?_
  refine g_iload_n X dL_law_962 rfl 3 rfl ?_
  refine g_iconst X (v := 2) dL_law_963 (by decide) ?_
  refine g_iadd X dL_law_964 ?_
  refine g_sld X hX hbl hbA b2 dL_law_965 ?_
  refine g_aload_n X dL_law_966 rfl 0 rfl ?_
  refine g_iload_n X dL_law_967 rfl 3 rfl ?_
  refine g_iconst X (v := 3) dL_law_968 (by decide) ?_
  refine g_iadd X dL_law_969 ?_
  refine g_sld X hX hbl hbA b3 dL_law_970 ?_
  refine g_callVI X (b := 87) (As := [.int (xs (Int32.toNatClampNeg (nI i + 1))), .int (xs (Int32.toNatClampNeg (nI i + 2))), .int (xs (Int32.toNatClampNeg (nI i + 3)))]) (rest := [.int r]) (T := TX11) (N := 39) (c_X11_drip (zl Z) (zE Z) (xs (Int32.toNatClampNeg (nI i + 1))) (xs (Int32.toNatClampNeg (nI i + 2))) (xs (Int32.toNatClampNeg (nI i + 3)))) gL_law_X11_drip yo_X11_drip rfl ⟨Nat.le_of_ble_eq_true rfl, Nat.le_of_ble_eq_true rfl⟩ (Nat.le_of_ble_eq_true rfl) rfl rfl rfl dL_law_971 h (fun q I2 J2 h => ?_)
  obtain ⟨rfl, hI⟩ := h
  refine g_icmp_eq X (tgt := 1264) dL_law_974 (by decide) (fun _ => hk I2 J2 hI) (fun z => absurd rfl z)
theorem lg_self (x : Int64) : lg_cmp x x = 0 := by unfold lg_cmp; rw [if_neg (by intro h; exact Int64.lt_irrefl h), if_pos rfl]
set_option maxRecDepth 100000 in
set_option maxHeartbeats 4000000 in
theorem law_27 {Z : RT} (X : Cx Z code 4 RL wsL_law room_1 (some .boolean)) {Inv : MI → MJ → Prop} (P27 : ∀ (I : MI) (J : MJ), Inv I J → ∀ (x1 : Int32) (x2 : Int32) (x3 : Int32) (x4 : Int32), vc_X10_seal x1 x2 x3 x4 I J (fun (r : Int64) (I1 : MI) (J1 : MJ) => vc_X11_seal x1 x2 x3 x4 I1 J1 (fun (q : Int64) (I2 : MI) (J2 : MJ) => r = q ∧ Inv I2 J2))) {b L i : Nat} {xs : Nat → Int32} (hX : va_X b L xs (zs Z) (zs Z).heap) (hbl : b < (zs Z).heap.size) (hbA : ¬ zA Z b) (b1 : vp_in (nI i + 1) L) (b2 : vp_in (nI i + 2) L) (b3 : vp_in (nI i + 3) L) (b4 : vp_in (nI i + 4) L) (hk : ∀ I J, Inv I J → GW Z 4 I J 1264 [(0, .ref b), (1, .ref (ea (zE Z) 0)), (2, .ref (ea (zE Z) 87)), (3, .int (nI i))] []) (I : MI) (J : MJ) (hI : Inv I J) : GW Z 4 I J 979 [(0, .ref b), (1, .ref (ea (zE Z) 0)), (2, .ref (ea (zE Z) 87)), (3, .int (nI i))] [] := by
  have h := P27 I J hI (xs (Int32.toNatClampNeg (nI i + 1))) (xs (Int32.toNatClampNeg (nI i + 2))) (xs (Int32.toNatClampNeg (nI i + 3))) (xs (Int32.toNatClampNeg (nI i + 4)))
  refine g_aload_n X dL_law_979 rfl 1 rfl ?_
  refine g_aload_n X dL_law_980 rfl 0 rfl ?_
  refine g_iload_n X dL_law_981 rfl 3 rfl ?_
  refine g_iconst X (v := 1) dL_law_982 (by decide) ?_
  refine g_iadd X dL_law_983 ?_
  refine g_sld X hX hbl hbA b1 dL_law_984 ?_
  refine g_aload_n X dL_law_985 rfl 0 rfl ?_
  refine g_iload_n X dL_law_986 rfl 3 rfl ?_
  refine g_iconst X (v := 2) dL_law_987 (by decide) ?_
  refine g_iadd X dL_law_988 ?_
  refine g_sld X hX hbl hbA b2 dL_law_989 ?_
  refine g_aload_n X dL_law_990 rfl 0 rfl ?_
  refine g_iload_n X dL_law_991 rfl 3 rfl ?_
  refine g_iconst X (v := 3) dL_law_992 (by decide) ?_
  refine g_iadd X dL_law_993 ?_
  refine g_sld X hX hbl hbA b3 dL_law_994 ?_
  refine g_aload_n X dL_law_995 rfl 0 rfl ?_
  refine g_iload_n X dL_law_996 rfl 3 rfl ?_
  refine g_iconst X (v := 4) dL_law_997 (by decide) ?_
  refine g_iadd X dL_law_998 ?_
  refine g_sld X hX hbl hbA b4 dL_law_999 ?_
  refine g_callVL X (b := 0) (As := [.int (xs (Int32.toNatClampNeg (nI i + 1))), .int (xs (Int32.toNatClampNeg (nI i + 2))), .int (xs (Int32.toNatClampNeg (nI i + 3))), .int (xs (Int32.toNatClampNeg (nI i + 4)))]) (rest := []) (T := TX10) (N := 9) (c_X10_seal (zl Z) (zE Z) (xs (Int32.toNatClampNeg (nI i + 1))) (xs (Int32.toNatClampNeg (nI i + 2))) (xs (Int32.toNatClampNeg (nI i + 3))) (xs (Int32.toNatClampNeg (nI i + 4)))) gL_law_X10_seal yo_X10_seal rfl ⟨Nat.le_of_ble_eq_true rfl, Nat.le_of_ble_eq_true rfl⟩ (Nat.le_of_ble_eq_true rfl) rfl rfl rfl dL_law_1000 h (fun r I1 J1 h => ?_)
  refine g_aload_n X dL_law_1003 rfl 2 rfl ?_
  refine g_aload_n X dL_law_1004 rfl 0 rfl ?_
  refine g_iload_n X dL_law_1005 rfl 3 rfl ?_
  refine g_iconst X (v := 1) dL_law_1006 (by decide) ?_
  refine g_iadd X dL_law_1007 ?_
  refine g_sld X hX hbl hbA b1 dL_law_1008 ?_
  refine g_aload_n X dL_law_1009 rfl 0 rfl ?_
  refine g_iload_n X dL_law_1010 rfl 3 rfl ?_
  refine g_iconst X (v := 2) dL_law_1011 (by decide) ?_
  refine g_iadd X dL_law_1012 ?_
  refine g_sld X hX hbl hbA b2 dL_law_1013 ?_
  refine g_aload_n X dL_law_1014 rfl 0 rfl ?_
  refine g_iload_n X dL_law_1015 rfl 3 rfl ?_
  refine g_iconst X (v := 3) dL_law_1016 (by decide) ?_
  refine g_iadd X dL_law_1017 ?_
  refine g_sld X hX hbl hbA b3 dL_law_1018 ?_
  refine g_aload_n X dL_law_1019 rfl 0 rfl ?_
  refine g_iload_n X dL_law_1020 rfl 3 rfl ?_
  refine g_iconst X (v := 4) dL_law_1021 (by decide) ?_
  refine g_iadd X dL_law_1022 ?_
  refine g_sld X hX hbl hbA b4 dL_law_1023 ?_
  refine g_callVL X (b := 87) (As := [.int (xs (Int32.toNatClampNeg (nI i + 1))), .int (xs (Int32.toNatClampNeg (nI i + 2))), .int (xs (Int32.toNatClampNeg (nI i + 3))), .int (xs (Int32.toNatClampNeg (nI i + 4)))]) (rest := [.long r]) (T := TX11) (N := 39) (c_X11_seal (zl Z) (zE Z) (xs (Int32.toNatClampNeg (nI i + 1))) (xs (Int32.toNatClampNeg (nI i + 2))) (xs (Int32.toNatClampNeg (nI i + 3))) (xs (Int32.toNatClampNeg (nI i + 4)))) gL_law_X11_seal yo_X11_seal rfl ⟨Nat.le_of_ble_eq_true rfl, Nat.le_of_ble_eq_true rfl⟩ (Nat.le_of_ble_eq_true rfl) rfl rfl rfl dL_law_1024 h (fun q I2 J2 h => ?_)
  obtain ⟨rfl, hI⟩ := h
  refine g_lcmp X dL_law_1027 ?_
  refine g_if_eq X (tgt := 1264) dL_law_1028 (by decide) (fun _ => hk I2 J2 hI) (fun z => absurd (lg_self r) z)
set_option maxRecDepth 100000 in
set_option maxHeartbeats 4000000 in
theorem law_28 {Z : RT} (X : Cx Z code 4 RL wsL_law room_1 (some .boolean)) {Inv : MI → MJ → Prop} (P28 : ∀ (I : MI) (J : MJ), Inv I J → ∀ (x1 : Int32) (x2 : Int32) (x3 : Int32), vc_X10_rent x1 x2 x3 I J (fun (r : Int32) (I1 : MI) (J1 : MJ) => vc_X11_rent x1 x2 x3 I1 J1 (fun (q : Int32) (I2 : MI) (J2 : MJ) => r = q ∧ Inv I2 J2))) {b L i : Nat} {xs : Nat → Int32} (hX : va_X b L xs (zs Z) (zs Z).heap) (hbl : b < (zs Z).heap.size) (hbA : ¬ zA Z b) (b1 : vp_in (nI i + 1) L) (b2 : vp_in (nI i + 2) L) (b3 : vp_in (nI i + 3) L) (b4 : vp_in (nI i + 4) L) (hk : ∀ I J, Inv I J → GW Z 4 I J 1264 [(0, .ref b), (1, .ref (ea (zE Z) 0)), (2, .ref (ea (zE Z) 87)), (3, .int (nI i))] []) (I : MI) (J : MJ) (hI : Inv I J) : GW Z 4 I J 1033 [(0, .ref b), (1, .ref (ea (zE Z) 0)), (2, .ref (ea (zE Z) 87)), (3, .int (nI i))] [] := by
  have h := P28 I J hI (xs (Int32.toNatClampNeg (nI i + 1))) (xs (Int32.toNatClampNeg (nI i + 2))) (xs (Int32.toNatClampNeg (nI i + 3)))
  refine g_aload_n X dL_law_1033 rfl 1 rfl ?_
  refine g_aload_n X dL_law_1034 rfl 0 rfl ?_
  refine g_iload_n X dL_law_1035 rfl 3 rfl ?_
  refine g_iconst X (v := 1) dL_law_1036 (by decide) ?_
  refine g_iadd X dL_law_1037 ?_
  refine g_sld X hX hbl hbA b1 dL_law_1038 ?_
  refine g_aload_n X dL_law_1039 rfl 0 rfl ?_
  refine g_iload_n X dL_law_1040 rfl 3 rfl ?_
  refine g_iconst X (v := 2) dL_law_1041 (by decide) ?_
  refine g_iadd X dL_law_1042 ?_
  refine g_sld X hX hbl hbA b2 dL_law_1043 ?_
  refine g_aload_n X dL_law_1044 rfl 0 rfl ?_
  refine g_iload_n X dL_law_1045 rfl 3 rfl ?_
  refine g_iconst X (v := 3) dL_law_1046 (by decide) ?_
  refine g_iadd X dL_law_1047 ?_
  refine g_sld X hX hbl hbA b3 dL_law_1048 ?_
  refine g_callVI X (b := 0) (As := [.int (xs (Int32.toNatClampNeg (nI i + 1))), .int (xs (Int32.toNatClampNeg (nI i + 2))), .int (xs (Int32.toNatClampNeg (nI i + 3)))]) (rest := []) (T := TX10) (N := 9) (c_X10_rent (zl Z) (zE Z) (xs (Int32.toNatClampNeg (nI i + 1))) (xs (Int32.toNatClampNeg (nI i + 2))) (xs (Int32.toNatClampNeg (nI i + 3)))) gL_law_X10_rent yo_X10_rent rfl ⟨Nat.le_of_ble_eq_true rfl, Nat.le_of_ble_eq_true rfl⟩ (Nat.le_of_ble_eq_true rfl) rfl rfl rfl dL_law_1049 h (fun r I1 J1 h => ?_)
  refine g_aload_n X dL_law_1052 rfl 2 rfl ?_
  refine g_aload_n X dL_law_1053 rfl 0 rfl ?_
  refine g_iload_n X dL_law_1054 rfl 3 rfl ?_
  refine g_iconst X (v := 1) dL_law_1055 (by decide) ?_
  refine g_iadd X dL_law_1056 ?_
  refine g_sld X hX hbl hbA b1 dL_law_1057 ?_
  refine g_aload_n X dL_law_1058 rfl 0 rfl ?_
  refine g_iload_n X dL_law_1059 rfl 3 rfl ?_
  refine g_iconst X (v := 2) dL_law_1060 (by decide) ?_
  refine g_iadd X dL_law_1061 ?_
  refine g_sld X hX hbl hbA b2 dL_law_1062 ?_
  refine g_aload_n X dL_law_1063 rfl 0 rfl ?_
  refine g_iload_n X dL_law_1064 rfl 3 rfl ?_
  refine g_iconst X (v := 3) dL_law_1065 (by decide) ?_
  refine g_iadd X dL_law_1066 ?_
  refine g_sld X hX hbl hbA b3 dL_law_1067 ?_
  refine g_callVI X (b := 87) (As := [.int (xs (Int32.toNatClampNeg (nI i + 1))), .int (xs (Int32.toNatClampNeg (nI i + 2))), .int (xs (Int32.toNatClampNeg (nI i + 3)))]) (rest := [.int r]) (T := TX11) (N := 39) (c_X11_rent (zl Z) (zE Z) (xs (Int32.toNatClampNeg (nI i + 1))) (xs (Int32.toNatClampNeg (nI i + 2))) (xs (Int32.toNatClampNeg (nI i + 3)))) gL_law_X11_rent yo_X11_rent rfl ⟨Nat.le_of_ble_eq_true rfl, Nat.le_of_ble_eq_true rfl⟩ (Nat.le_of_ble_eq_true rfl) rfl rfl rfl dL_law_1068 h (fun q I2 J2 h => ?_)
  obtain ⟨rfl, hI⟩ := h
  refine g_icmp_eq X (tgt := 1264) dL_law_1071 (by decide) (fun _ => hk I2 J2 hI) (fun z => absurd rfl z)
set_option maxRecDepth 100000 in
set_option maxHeartbeats 4000000 in
theorem law_29 {Z : RT} (X : Cx Z code 4 RL wsL_law room_1 (some .boolean)) {Inv : MI → MJ → Prop} (P29 : ∀ (I : MI) (J : MJ), Inv I J → ∀ (x1 : Int32) (x2 : Int32) (x3 : Int32), vc_X10_around x1 x2 x3 I J (fun (r : Int32) (I1 : MI) (J1 : MJ) => vc_X11_around x1 x2 x3 I1 J1 (fun (q : Int32) (I2 : MI) (J2 : MJ) => r = q ∧ Inv I2 J2))) {b L i : Nat} {xs : Nat → Int32} (hX : va_X b L xs (zs Z) (zs Z).heap) (hbl : b < (zs Z).heap.size) (hbA : ¬ zA Z b) (b1 : vp_in (nI i + 1) L) (b2 : vp_in (nI i + 2) L) (b3 : vp_in (nI i + 3) L) (b4 : vp_in (nI i + 4) L) (hk : ∀ I J, Inv I J → GW Z 4 I J 1264 [(0, .ref b), (1, .ref (ea (zE Z) 0)), (2, .ref (ea (zE Z) 87)), (3, .int (nI i))] []) (I : MI) (J : MJ) (hI : Inv I J) : GW Z 4 I J 1076 [(0, .ref b), (1, .ref (ea (zE Z) 0)), (2, .ref (ea (zE Z) 87)), (3, .int (nI i))] [] := by
  have h := P29 I J hI (xs (Int32.toNatClampNeg (nI i + 1))) (xs (Int32.toNatClampNeg (nI i + 2))) (xs (Int32.toNatClampNeg (nI i + 3)))
  refine g_aload_n X dL_law_1076 rfl 1 rfl ?_
  refine g_aload_n X dL_law_1077 rfl 0 rfl ?_
  refine g_iload_n X dL_law_1078 rfl 3 rfl ?_
  refine g_iconst X (v := 1) dL_law_1079 (by decide) ?_
  refine g_iadd X dL_law_1080 ?_
  refine g_sld X hX hbl hbA b1 dL_law_1081 ?_
  refine g_aload_n X dL_law_1082 rfl 0 rfl ?_
  refine g_iload_n X dL_law_1083 rfl 3 rfl ?_
  refine g_iconst X (v := 2) dL_law_1084 (by decide) ?_
  refine g_iadd X dL_law_1085 ?_
  refine g_sld X hX hbl hbA b2 dL_law_1086 ?_
  refine g_aload_n X dL_law_1087 rfl 0 rfl ?_
  refine g_iload_n X dL_law_1088 rfl 3 rfl ?_
  refine g_iconst X (v := 3) dL_law_1089 (by decide) ?_
  refine g_iadd X dL_law_1090 ?_
  refine g_sld X hX hbl hbA b3 dL_law_1091 ?_
  refine g_callVI X (b := 0) (As := [.int (xs (Int32.toNatClampNeg (nI i + 1))), .int (xs (Int32.toNatClampNeg (nI i + 2))), .int (xs (Int32.toNatClampNeg (nI i + 3)))]) (rest := []) (T := TX10) (N := 9) (c_X10_around (zl Z) (zE Z) (xs (Int32.toNatClampNeg (nI i + 1))) (xs (Int32.toNatClampNeg (nI i + 2))) (xs (Int32.toNatClampNeg (nI i + 3)))) gL_law_X10_around yo_X10_around rfl ⟨Nat.le_of_ble_eq_true rfl, Nat.le_of_ble_eq_true rfl⟩ (Nat.le_of_ble_eq_true rfl) rfl rfl rfl dL_law_1092 h (fun r I1 J1 h => ?_)
  refine g_aload_n X dL_law_1095 rfl 2 rfl ?_
  refine g_aload_n X dL_law_1096 rfl 0 rfl ?_
  refine g_iload_n X dL_law_1097 rfl 3 rfl ?_
  refine g_iconst X (v := 1) dL_law_1098 (by decide) ?_
  refine g_iadd X dL_law_1099 ?_
  refine g_sld X hX hbl hbA b1 dL_law_1100 ?_
  refine g_aload_n X dL_law_1101 rfl 0 rfl ?_
  refine g_iload_n X dL_law_1102 rfl 3 rfl ?_
  refine g_iconst X (v := 2) dL_law_1103 (by decide) ?_
  refine g_iadd X dL_law_1104 ?_
  refine g_sld X hX hbl hbA b2 dL_law_1105 ?_
  refine g_aload_n X dL_law_1106 rfl 0 rfl ?_
  refine g_iload_n X dL_law_1107 rfl 3 rfl ?_
  refine g_iconst X (v := 3) dL_law_1108 (by decide) ?_
  refine g_iadd X dL_law_1109 ?_
  refine g_sld X hX hbl hbA b3 dL_law_1110 ?_
  refine g_callVI X (b := 87) (As := [.int (xs (Int32.toNatClampNeg (nI i + 1))), .int (xs (Int32.toNatClampNeg (nI i + 2))), .int (xs (Int32.toNatClampNeg (nI i + 3)))]) (rest := [.int r]) (T := TX11) (N := 39) (c_X11_around (zl Z) (zE Z) (xs (Int32.toNatClampNeg (nI i + 1))) (xs (Int32.toNatClampNeg (nI i + 2))) (xs (Int32.toNatClampNeg (nI i + 3)))) gL_law_X11_around yo_X11_around rfl ⟨Nat.le_of_ble_eq_true rfl, Nat.le_of_ble_eq_true rfl⟩ (Nat.le_of_ble_eq_true rfl) rfl rfl rfl dL_law_1111 h (fun q I2 J2 h => ?_)
  obtain ⟨rfl, hI⟩ := h
  refine g_icmp_eq X (tgt := 1264) dL_law_1114 (by decide) (fun _ => hk I2 J2 hI) (fun z => absurd rfl z)
set_option maxRecDepth 100000 in
set_option maxHeartbeats 4000000 in
theorem law_30 {Z : RT} (X : Cx Z code 4 RL wsL_law room_1 (some .boolean)) {Inv : MI → MJ → Prop} (P30 : ∀ (I : MI) (J : MJ), Inv I J → ∀ (x1 : Int32), vc_X10_put x1 I J (fun (r : Int32) (I1 : MI) (J1 : MJ) => vc_X11_put x1 I1 J1 (fun (q : Int32) (I2 : MI) (J2 : MJ) => r = q ∧ Inv I2 J2))) {b L i : Nat} {xs : Nat → Int32} (hX : va_X b L xs (zs Z) (zs Z).heap) (hbl : b < (zs Z).heap.size) (hbA : ¬ zA Z b) (b1 : vp_in (nI i + 1) L) (b2 : vp_in (nI i + 2) L) (b3 : vp_in (nI i + 3) L) (b4 : vp_in (nI i + 4) L) (hk : ∀ I J, Inv I J → GW Z 4 I J 1264 [(0, .ref b), (1, .ref (ea (zE Z) 0)), (2, .ref (ea (zE Z) 87)), (3, .int (nI i))] []) (I : MI) (J : MJ) (hI : Inv I J) : GW Z 4 I J 1119 [(0, .ref b), (1, .ref (ea (zE Z) 0)), (2, .ref (ea (zE Z) 87)), (3, .int (nI i))] [] := by
  have h := P30 I J hI (xs (Int32.toNatClampNeg (nI i + 1)))
  refine g_aload_n X dL_law_1119 rfl 1 rfl ?_
  refine g_aload_n X dL_law_1120 rfl 0 rfl ?_
  refine g_iload_n X dL_law_1121 rfl 3 rfl ?_
  refine g_iconst X (v := 1) dL_law_1122 (by decide) ?_
  refine g_iadd X dL_law_1123 ?_
  refine g_sld X hX hbl hbA b1 dL_law_1124 ?_
  refine g_callVI X (b := 0) (As := [.int (xs (Int32.toNatClampNeg (nI i + 1)))]) (rest := []) (T := TX10) (N := 9) (c_X10_put (zl Z) (zE Z) (xs (Int32.toNatClampNeg (nI i + 1)))) gL_law_X10_put yo_X10_put rfl ⟨Nat.le_of_ble_eq_true rfl, Nat.le_of_ble_eq_true rfl⟩ (Nat.le_of_ble_eq_true rfl) rfl rfl rfl dL_law_1125 h (fun r I1 J1 h => ?_)
  refine g_aload_n X dL_law_1128 rfl 2 rfl ?_
  refine g_aload_n X dL_law_1129 rfl 0 rfl ?_
  refine g_iload_n X dL_law_1130 rfl 3 rfl ?_
  refine g_iconst X (v := 1) dL_law_1131 (by decide) ?_
  refine g_iadd X dL_law_1132 ?_
  refine g_sld X hX hbl hbA b1 dL_law_1133 ?_
  refine g_callVI X (b := 87) (As := [.int (xs (Int32.toNatClampNeg (nI i + 1)))]) (rest := [.int r]) (T := TX11) (N := 39) (c_X11_put (zl Z) (zE Z) (xs (Int32.toNatClampNeg (nI i + 1)))) gL_law_X11_put yo_X11_put rfl ⟨Nat.le_of_ble_eq_true rfl, Nat.le_of_ble_eq_true rfl⟩ (Nat.le_of_ble_eq_true rfl) rfl rfl rfl dL_law_1134 h (fun q I2 J2 h => ?_)
  obtain ⟨rfl, hI⟩ := h
  refine g_icmp_eq X (tgt := 1264) dL_law_1137 (by decide) (fun _ => hk I2 J2 hI) (fun z => absurd rfl z)
set_option maxRecDepth 100000 in
set_option maxHeartbeats 4000000 in
theorem law_31 {Z : RT} (X : Cx Z code 4 RL wsL_law room_1 (some .boolean)) {Inv : MI → MJ → Prop} (P31 : ∀ (I : MI) (J : MJ), Inv I J → vc_X10_wipe I J (fun (r : Int32) (I1 : MI) (J1 : MJ) => vc_X11_wipe I1 J1 (fun (q : Int32) (I2 : MI) (J2 : MJ) => r = q ∧ Inv I2 J2))) {b L i : Nat} {xs : Nat → Int32} (hX : va_X b L xs (zs Z) (zs Z).heap) (hbl : b < (zs Z).heap.size) (hbA : ¬ zA Z b) (b1 : vp_in (nI i + 1) L) (b2 : vp_in (nI i + 2) L) (b3 : vp_in (nI i + 3) L) (b4 : vp_in (nI i + 4) L) (hk : ∀ I J, Inv I J → GW Z 4 I J 1264 [(0, .ref b), (1, .ref (ea (zE Z) 0)), (2, .ref (ea (zE Z) 87)), (3, .int (nI i))] []) (I : MI) (J : MJ) (hI : Inv I J) : GW Z 4 I J 1142 [(0, .ref b), (1, .ref (ea (zE Z) 0)), (2, .ref (ea (zE Z) 87)), (3, .int (nI i))] [] := by
  have h := P31 I J hI
  refine g_aload_n X dL_law_1142 rfl 1 rfl ?_
  refine g_callVI X (b := 0) (As := []) (rest := []) (T := TX10) (N := 9) (c_X10_wipe (zl Z) (zE Z) ) gL_law_X10_wipe yo_X10_wipe rfl ⟨Nat.le_of_ble_eq_true rfl, Nat.le_of_ble_eq_true rfl⟩ (Nat.le_of_ble_eq_true rfl) rfl rfl rfl dL_law_1143 h (fun r I1 J1 h => ?_)
  refine g_aload_n X dL_law_1146 rfl 2 rfl ?_
  refine g_callVI X (b := 87) (As := []) (rest := [.int r]) (T := TX11) (N := 39) (c_X11_wipe (zl Z) (zE Z) ) gL_law_X11_wipe yo_X11_wipe rfl ⟨Nat.le_of_ble_eq_true rfl, Nat.le_of_ble_eq_true rfl⟩ (Nat.le_of_ble_eq_true rfl) rfl rfl rfl dL_law_1147 h (fun q I2 J2 h => ?_)
  obtain ⟨rfl, hI⟩ := h
  refine g_icmp_eq X (tgt := 1264) dL_law_1150 (by decide) (fun _ => hk I2 J2 hI) (fun z => absurd rfl z)
set_option maxRecDepth 100000 in
set_option maxHeartbeats 4000000 in
theorem law_32 {Z : RT} (X : Cx Z code 4 RL wsL_law room_1 (some .boolean)) {Inv : MI → MJ → Prop} (P32 : ∀ (I : MI) (J : MJ), Inv I J → ∀ (x1 : Int32) (x2 : Int32), vc_X10_pass x1 x2 I J (fun (r : Int32) (I1 : MI) (J1 : MJ) => vc_X11_pass x1 x2 I1 J1 (fun (q : Int32) (I2 : MI) (J2 : MJ) => r = q ∧ Inv I2 J2))) {b L i : Nat} {xs : Nat → Int32} (hX : va_X b L xs (zs Z) (zs Z).heap) (hbl : b < (zs Z).heap.size) (hbA : ¬ zA Z b) (b1 : vp_in (nI i + 1) L) (b2 : vp_in (nI i + 2) L) (b3 : vp_in (nI i + 3) L) (b4 : vp_in (nI i + 4) L) (hk : ∀ I J, Inv I J → GW Z 4 I J 1264 [(0, .ref b), (1, .ref (ea (zE Z) 0)), (2, .ref (ea (zE Z) 87)), (3, .int (nI i))] []) (I : MI) (J : MJ) (hI : Inv I J) : GW Z 4 I J 1155 [(0, .ref b), (1, .ref (ea (zE Z) 0)), (2, .ref (ea (zE Z) 87)), (3, .int (nI i))] [] := by
  have h := P32 I J hI (xs (Int32.toNatClampNeg (nI i + 1))) (xs (Int32.toNatClampNeg (nI i + 2)))
  refine g_aload_n X dL_law_1155 rfl 1 rfl ?_
  refine g_aload_n X dL_law_1156 rfl 0 rfl ?_
  refine g_iload_n X dL_law_1157 rfl 3 rfl ?_
  refine g_iconst X (v := 1) dL_law_1158 (by decide) ?_
  refine g_iadd X dL_law_1159 ?_
  refine g_sld X hX hbl hbA b1 dL_law_1160 ?_
  refine g_aload_n X dL_law_1161 rfl 0 rfl ?_
  refine g_iload_n X dL_law_1162 rfl 3 rfl ?_
  refine g_iconst X (v := 2) dL_law_1163 (by decide) ?_
  refine g_iadd X dL_law_1164 ?_
  refine g_sld X hX hbl hbA b2 dL_law_1165 ?_
  refine g_callVI X (b := 0) (As := [.int (xs (Int32.toNatClampNeg (nI i + 1))), .int (xs (Int32.toNatClampNeg (nI i + 2)))]) (rest := []) (T := TX10) (N := 9) (c_X10_pass (zl Z) (zE Z) (xs (Int32.toNatClampNeg (nI i + 1))) (xs (Int32.toNatClampNeg (nI i + 2)))) gL_law_X10_pass yo_X10_pass rfl ⟨Nat.le_of_ble_eq_true rfl, Nat.le_of_ble_eq_true rfl⟩ (Nat.le_of_ble_eq_true rfl) rfl rfl rfl dL_law_1166 h (fun r I1 J1 h => ?_)
  refine g_aload_n X dL_law_1169 rfl 2 rfl ?_
  refine g_aload_n X dL_law_1170 rfl 0 rfl ?_
  refine g_iload_n X dL_law_1171 rfl 3 rfl ?_
  refine g_iconst X (v := 1) dL_law_1172 (by decide) ?_
  refine g_iadd X dL_law_1173 ?_
  refine g_sld X hX hbl hbA b1 dL_law_1174 ?_
  refine g_aload_n X dL_law_1175 rfl 0 rfl ?_
  refine g_iload_n X dL_law_1176 rfl 3 rfl ?_
  refine g_iconst X (v := 2) dL_law_1177 (by decide) ?_
  refine g_iadd X dL_law_1178 ?_
  refine g_sld X hX hbl hbA b2 dL_law_1179 ?_
  refine g_callVI X (b := 87) (As := [.int (xs (Int32.toNatClampNeg (nI i + 1))), .int (xs (Int32.toNatClampNeg (nI i + 2)))]) (rest := [.int r]) (T := TX11) (N := 39) (c_X11_pass (zl Z) (zE Z) (xs (Int32.toNatClampNeg (nI i + 1))) (xs (Int32.toNatClampNeg (nI i + 2)))) gL_law_X11_pass yo_X11_pass rfl ⟨Nat.le_of_ble_eq_true rfl, Nat.le_of_ble_eq_true rfl⟩ (Nat.le_of_ble_eq_true rfl) rfl rfl rfl dL_law_1180 h (fun q I2 J2 h => ?_)
  obtain ⟨rfl, hI⟩ := h
  refine g_icmp_eq X (tgt := 1264) dL_law_1183 (by decide) (fun _ => hk I2 J2 hI) (fun z => absurd rfl z)
set_option maxRecDepth 100000 in
set_option maxHeartbeats 4000000 in
theorem law_33 {Z : RT} (X : Cx Z code 4 RL wsL_law room_1 (some .boolean)) {Inv : MI → MJ → Prop} (P33 : ∀ (I : MI) (J : MJ), Inv I J → ∀ (x1 : Int32) (x2 : Int32) (x3 : Int32) (x4 : Int32), vc_X10_winds x1 x2 x3 x4 I J (fun (r : Int32) (I1 : MI) (J1 : MJ) => vc_X11_winds x1 x2 x3 x4 I1 J1 (fun (q : Int32) (I2 : MI) (J2 : MJ) => r = q ∧ Inv I2 J2))) {b L i : Nat} {xs : Nat → Int32} (hX : va_X b L xs (zs Z) (zs Z).heap) (hbl : b < (zs Z).heap.size) (hbA : ¬ zA Z b) (b1 : vp_in (nI i + 1) L) (b2 : vp_in (nI i + 2) L) (b3 : vp_in (nI i + 3) L) (b4 : vp_in (nI i + 4) L) (hk : ∀ I J, Inv I J → GW Z 4 I J 1264 [(0, .ref b), (1, .ref (ea (zE Z) 0)), (2, .ref (ea (zE Z) 87)), (3, .int (nI i))] []) (I : MI) (J : MJ) (hI : Inv I J) : GW Z 4 I J 1188 [(0, .ref b), (1, .ref (ea (zE Z) 0)), (2, .ref (ea (zE Z) 87)), (3, .int (nI i))] [] := by
  have h := P33 I J hI (xs (Int32.toNatClampNeg (nI i + 1))) (xs (Int32.toNatClampNeg (nI i + 2))) (xs (Int32.toNatClampNeg (nI i + 3))) (xs (Int32.toNatClampNeg (nI i + 4)))
  refine g_aload_n X dL_law_1188 rfl 1 rfl ?_
  refine g_aload_n X dL_law_1189 rfl 0 rfl ?_
  refine g_iload_n X dL_law_1190 rfl 3 rfl ?_
  refine g_iconst X (v := 1) dL_law_1191 (by decide) ?_
  refine g_iadd X dL_law_1192 ?_
  refine g_sld X hX hbl hbA b1 dL_law_1193 ?_
  refine g_aload_n X dL_law_1194 rfl 0 rfl ?_
  refine g_iload_n X dL_law_1195 rfl 3 rfl ?_
  refine g_iconst X (v := 2) dL_law_1196 (by decide) ?_
  refine g_iadd X dL_law_1197 ?_
  refine g_sld X hX hbl hbA b2 dL_law_1198 ?_
  refine g_aload_n X dL_law_1199 rfl 0 rfl ?_
  refine g_iload_n X dL_law_1200 rfl 3 rfl ?_
  refine g_iconst X (v := 3) dL_law_1201 (by decide) ?_
  refine g_iadd X dL_law_1202 ?_
  refine g_sld X hX hbl hbA b3 dL_law_1203 ?_
  refine g_aload_n X dL_law_1204 rfl 0 rfl ?_
  refine g_iload_n X dL_law_1205 rfl 3 rfl ?_
  refine g_iconst X (v := 4) dL_law_1206 (by decide) ?_
  refine g_iadd X dL_law_1207 ?_
  refine g_sld X hX hbl hbA b4 dL_law_1208 ?_
  refine g_callVI X (b := 0) (As := [.int (xs (Int32.toNatClampNeg (nI i + 1))), .int (xs (Int32.toNatClampNeg (nI i + 2))), .int (xs (Int32.toNatClampNeg (nI i + 3))), .int (xs (Int32.toNatClampNeg (nI i + 4)))]) (rest := []) (T := TX10) (N := 9) (c_X10_winds (zl Z) (zE Z) (xs (Int32.toNatClampNeg (nI i + 1))) (xs (Int32.toNatClampNeg (nI i + 2))) (xs (Int32.toNatClampNeg (nI i + 3))) (xs (Int32.toNatClampNeg (nI i + 4)))) gL_law_X10_winds yo_X10_winds rfl ⟨Nat.le_of_ble_eq_true rfl, Nat.le_of_ble_eq_true rfl⟩ (Nat.le_of_ble_eq_true rfl) rfl rfl rfl dL_law_1209 h (fun r I1 J1 h => ?_)
  refine g_aload_n X dL_law_1212 rfl 2 rfl ?_
  refine g_aload_n X dL_law_1213 rfl 0 rfl ?_
  refine g_iload_n X dL_law_1214 rfl 3 rfl ?_
  refine g_iconst X (v := 1) dL_law_1215 (by decide) ?_
  refine g_iadd X dL_law_1216 ?_
  refine g_sld X hX hbl hbA b1 dL_law_1217 ?_
  refine g_aload_n X dL_law_1218 rfl 0 rfl ?_
  refine g_iload_n X dL_law_1219 rfl 3 rfl ?_
  refine g_iconst X (v := 2) dL_law_1220 (by decide) ?_
  refine g_iadd X dL_law_1221 ?_
  refine g_sld X hX hbl hbA b2 dL_law_1222 ?_
  refine g_aload_n X dL_law_1223 rfl 0 rfl ?_
  refine g_iload_n X dL_law_1224 rfl 3 rfl ?_
  refine g_iconst X (v := 3) dL_law_1225 (by decide) ?_
  refine g_iadd X dL_law_1226 ?_
  refine g_sld X hX hbl hbA b3 dL_law_1227 ?_
  refine g_aload_n X dL_law_1228 rfl 0 rfl ?_
  refine g_iload_n X dL_law_1229 rfl 3 rfl ?_
  refine g_iconst X (v := 4) dL_law_1230 (by decide) ?_
  refine g_iadd X dL_law_1231 ?_
  refine g_sld X hX hbl hbA b4 dL_law_1232 ?_
  refine g_callVI X (b := 87) (As := [.int (xs (Int32.toNatClampNeg (nI i + 1))), .int (xs (Int32.toNatClampNeg (nI i + 2))), .int (xs (Int32.toNatClampNeg (nI i + 3))), .int (xs (Int32.toNatClampNeg (nI i + 4)))]) (rest := [.int r]) (T := TX11) (N := 39) (c_X11_winds (zl Z) (zE Z) (xs (Int32.toNatClampNeg (nI i + 1))) (xs (Int32.toNatClampNeg (nI i + 2))) (xs (Int32.toNatClampNeg (nI i + 3))) (xs (Int32.toNatClampNeg (nI i + 4)))) gL_law_X11_winds yo_X11_winds rfl ⟨Nat.le_of_ble_eq_true rfl, Nat.le_of_ble_eq_true rfl⟩ (Nat.le_of_ble_eq_true rfl) rfl rfl rfl dL_law_1233 h (fun q I2 J2 h => ?_)
  obtain ⟨rfl, hI⟩ := h
  refine g_icmp_eq X (tgt := 1264) dL_law_1236 (by decide) (fun _ => hk I2 J2 hI) (fun z => absurd rfl z)
set_option maxRecDepth 100000 in
set_option maxHeartbeats 4000000 in
theorem law_34 {Z : RT} (X : Cx Z code 4 RL wsL_law room_1 (some .boolean)) {Inv : MI → MJ → Prop} (P34 : ∀ (I : MI) (J : MJ), Inv I J → ∀ (x1 : Int32), vc_X10_count x1 I J (fun (r : Int32) (I1 : MI) (J1 : MJ) => vc_X11_count x1 I1 J1 (fun (q : Int32) (I2 : MI) (J2 : MJ) => r = q ∧ Inv I2 J2))) {b L i : Nat} {xs : Nat → Int32} (hX : va_X b L xs (zs Z) (zs Z).heap) (hbl : b < (zs Z).heap.size) (hbA : ¬ zA Z b) (b1 : vp_in (nI i + 1) L) (b2 : vp_in (nI i + 2) L) (b3 : vp_in (nI i + 3) L) (b4 : vp_in (nI i + 4) L) (hk : ∀ I J, Inv I J → GW Z 4 I J 1264 [(0, .ref b), (1, .ref (ea (zE Z) 0)), (2, .ref (ea (zE Z) 87)), (3, .int (nI i))] []) (I : MI) (J : MJ) (hI : Inv I J) : GW Z 4 I J 1241 [(0, .ref b), (1, .ref (ea (zE Z) 0)), (2, .ref (ea (zE Z) 87)), (3, .int (nI i))] [] := by
  have h := P34 I J hI (xs (Int32.toNatClampNeg (nI i + 1)))
  refine g_aload_n X dL_law_1241 rfl 1 rfl ?_
  refine g_aload_n X dL_law_1242 rfl 0 rfl ?_
  refine g_iload_n X dL_law_1243 rfl 3 rfl ?_
  refine g_iconst X (v := 1) dL_law_1244 (by decide) ?_
  refine g_iadd X dL_law_1245 ?_
  refine g_sld X hX hbl hbA b1 dL_law_1246 ?_
  refine g_callVI X (b := 0) (As := [.int (xs (Int32.toNatClampNeg (nI i + 1)))]) (rest := []) (T := TX10) (N := 9) (c_X10_count (zl Z) (zE Z) (xs (Int32.toNatClampNeg (nI i + 1)))) gL_law_X10_count yo_X10_count rfl ⟨Nat.le_of_ble_eq_true rfl, Nat.le_of_ble_eq_true rfl⟩ (Nat.le_of_ble_eq_true rfl) rfl rfl rfl dL_law_1247 h (fun r I1 J1 h => ?_)
  refine g_aload_n X dL_law_1250 rfl 2 rfl ?_
  refine g_aload_n X dL_law_1251 rfl 0 rfl ?_
  refine g_iload_n X dL_law_1252 rfl 3 rfl ?_
  refine g_iconst X (v := 1) dL_law_1253 (by decide) ?_
  refine g_iadd X dL_law_1254 ?_
  refine g_sld X hX hbl hbA b1 dL_law_1255 ?_
  refine g_callVI X (b := 87) (As := [.int (xs (Int32.toNatClampNeg (nI i + 1)))]) (rest := [.int r]) (T := TX11) (N := 39) (c_X11_count (zl Z) (zE Z) (xs (Int32.toNatClampNeg (nI i + 1)))) gL_law_X11_count yo_X11_count rfl ⟨Nat.le_of_ble_eq_true rfl, Nat.le_of_ble_eq_true rfl⟩ (Nat.le_of_ble_eq_true rfl) rfl rfl rfl dL_law_1256 h (fun q I2 J2 h => ?_)
  obtain ⟨rfl, hI⟩ := h
  refine g_icmp_eq X (tgt := 1264) dL_law_1259 (by decide) (fun _ => hk I2 J2 hI) (fun z => absurd rfl z)
theorem law_bound {L i : Nat} (hL : L ≤ 320) (hi : i ≤ 2000) (c : ¬ nI L - 5 < nI i) : i + 5 ≤ L := by
  by_cases h : 5 ≤ L
  · rw [show (5 : Int32) = nI 5 from rfl, pk_sub h, nI_ltI (by omega) (by omega)] at c
    omega
  · exfalso
    apply c
    have e1 : (nI L - nI 5).toInt = (L : Int) - 5 := by
      have := pk_sub_toInt (a := L) (b := 5) (by omega) (by omega)
      simpa using this
    rw [Int32.lt_iff_toInt_lt, nI_toInt (by omega), show (5 : Int32) = nI 5 from rfl, e1]
    omega
set_option maxRecDepth 100000 in
set_option maxHeartbeats 4000000 in
theorem law_loop {Z : RT} (X : Cx Z code 4 RL wsL_law room_1 (some .boolean)) {Inv : MI → MJ → Prop} (P0 : ∀ (I : MI) (J : MJ), Inv I J → ∀ (x1 : Int32), vc_X10_write x1 I J (fun (r : Int32) (I1 : MI) (J1 : MJ) => vc_X11_write x1 I1 J1 (fun (q : Int32) (I2 : MI) (J2 : MJ) => r = q ∧ Inv I2 J2))) (P1 : ∀ (I : MI) (J : MJ), Inv I J → vc_X10_erase I J (fun (r : Int32) (I1 : MI) (J1 : MJ) => vc_X11_erase I1 J1 (fun (q : Int32) (I2 : MI) (J2 : MJ) => r = q ∧ Inv I2 J2))) (P2 : ∀ (I : MI) (J : MJ), Inv I J → vc_X10_fault I J (fun (r : Int32) (I1 : MI) (J1 : MJ) => vc_X11_fault I1 J1 (fun (q : Int32) (I2 : MI) (J2 : MJ) => r = q ∧ Inv I2 J2))) (P3 : ∀ (I : MI) (J : MJ), Inv I J → vc_X10_land I J (fun (r : Int32) (I1 : MI) (J1 : MJ) => vc_X11_land I1 J1 (fun (q : Int32) (I2 : MI) (J2 : MJ) => r = q ∧ Inv I2 J2))) (P4 : ∀ (I : MI) (J : MJ), Inv I J → ∀ (x1 : Int32) (x2 : Int32), vc_X10_place x1 x2 I J (fun (r : Int32) (I1 : MI) (J1 : MJ) => vc_X11_place x1 x2 I1 J1 (fun (q : Int32) (I2 : MI) (J2 : MJ) => r = q ∧ Inv I2 J2))) (P5 : ∀ (I : MI) (J : MJ), Inv I J → ∀ (x1 : Int32) (x2 : Int32), vc_X10_road x1 x2 I J (fun (r : Int32) (I1 : MI) (J1 : MJ) => vc_X11_road x1 x2 I1 J1 (fun (q : Int32) (I2 : MI) (J2 : MJ) => r = q ∧ Inv I2 J2))) (P6 : ∀ (I : MI) (J : MJ), Inv I J → ∀ (x1 : Int32) (x2 : Int32), vc_X10_cart x1 x2 I J (fun (r : Int32) (I1 : MI) (J1 : MJ) => vc_X11_cart x1 x2 I1 J1 (fun (q : Int32) (I2 : MI) (J2 : MJ) => r = q ∧ Inv I2 J2))) (P7 : ∀ (I : MI) (J : MJ), Inv I J → ∀ (x1 : Int32) (x2 : Int32), vc_X10_as x1 x2 I J (fun (r : Int32) (I1 : MI) (J1 : MJ) => vc_X11_as x1 x2 I1 J1 (fun (q : Int32) (I2 : MI) (J2 : MJ) => r = q ∧ Inv I2 J2))) (P8 : ∀ (I : MI) (J : MJ), Inv I J → ∀ (x1 : Int32) (x2 : Int32), vc_X10_roadAs x1 x2 I J (fun (r : Int32) (I1 : MI) (J1 : MJ) => vc_X11_roadAs x1 x2 I1 J1 (fun (q : Int32) (I2 : MI) (J2 : MJ) => r = q ∧ Inv I2 J2))) (P9 : ∀ (I : MI) (J : MJ), Inv I J → ∀ (x1 : Int32), vc_X10_price x1 I J (fun (r : Int32) (I1 : MI) (J1 : MJ) => vc_X11_price x1 I1 J1 (fun (q : Int32) (I2 : MI) (J2 : MJ) => r = q ∧ Inv I2 J2))) (P10 : ∀ (I : MI) (J : MJ), Inv I J → ∀ (x1 : Int32) (x2 : Int32), vc_X10_fill x1 x2 I J (fun (r : Int32) (I1 : MI) (J1 : MJ) => vc_X11_fill x1 x2 I1 J1 (fun (q : Int32) (I2 : MI) (J2 : MJ) => r = q ∧ Inv I2 J2))) (P11 : ∀ (I : MI) (J : MJ), Inv I J → ∀ (x1 : Int32) (x2 : Int32), vc_X10_go x1 x2 I J (fun (r : Int32) (I1 : MI) (J1 : MJ) => vc_X11_go x1 x2 I1 J1 (fun (q : Int32) (I2 : MI) (J2 : MJ) => r = q ∧ Inv I2 J2))) (P12 : ∀ (I : MI) (J : MJ), Inv I J → ∀ (x1 : Int32) (x2 : Int32), vc_X10_rest x1 x2 I J (fun (r : Int32) (I1 : MI) (J1 : MJ) => vc_X11_rest x1 x2 I1 J1 (fun (q : Int32) (I2 : MI) (J2 : MJ) => r = q ∧ Inv I2 J2))) (P13 : ∀ (I : MI) (J : MJ), Inv I J → ∀ (x1 : Int32) (x2 : Int32), vc_X10_join x1 x2 I J (fun (r : Int32) (I1 : MI) (J1 : MJ) => vc_X11_join x1 x2 I1 J1 (fun (q : Int32) (I2 : MI) (J2 : MJ) => r = q ∧ Inv I2 J2))) (P14 : ∀ (I : MI) (J : MJ), Inv I J → ∀ (x1 : Int32), vc_X10_store x1 I J (fun (r : Int32) (I1 : MI) (J1 : MJ) => vc_X11_store x1 I1 J1 (fun (q : Int32) (I2 : MI) (J2 : MJ) => r = q ∧ Inv I2 J2))) (P15 : ∀ (I : MI) (J : MJ), Inv I J → ∀ (x1 : Int32) (x2 : Int32), vc_X10_take x1 x2 I J (fun (r : Int32) (I1 : MI) (J1 : MJ) => vc_X11_take x1 x2 I1 J1 (fun (q : Int32) (I2 : MI) (J2 : MJ) => r = q ∧ Inv I2 J2))) (P16 : ∀ (I : MI) (J : MJ), Inv I J → ∀ (x1 : Int32), vc_X10_sell x1 I J (fun (r : Int32) (I1 : MI) (J1 : MJ) => vc_X11_sell x1 I1 J1 (fun (q : Int32) (I2 : MI) (J2 : MJ) => r = q ∧ Inv I2 J2))) (P17 : ∀ (I : MI) (J : MJ), Inv I J → vc_X10_undo I J (fun (r : Int32) (I1 : MI) (J1 : MJ) => vc_X11_undo I1 J1 (fun (q : Int32) (I2 : MI) (J2 : MJ) => r = q ∧ Inv I2 J2))) (P18 : ∀ (I : MI) (J : MJ), Inv I J → ∀ (x1 : Int32), vc_X10_keep x1 I J (fun (r : Int32) (I1 : MI) (J1 : MJ) => vc_X11_keep x1 I1 J1 (fun (q : Int32) (I2 : MI) (J2 : MJ) => r = q ∧ Inv I2 J2))) (P19 : ∀ (I : MI) (J : MJ), Inv I J → ∀ (x1 : Int32), vc_X10_back x1 I J (fun (r : Int32) (I1 : MI) (J1 : MJ) => vc_X11_back x1 I1 J1 (fun (q : Int32) (I2 : MI) (J2 : MJ) => r = q ∧ Inv I2 J2))) (P20 : ∀ (I : MI) (J : MJ), Inv I J → ∀ (x1 : Int32) (x2 : Int32) (x3 : Int32), vc_X10_comes x1 x2 x3 I J (fun (r : Int32) (I1 : MI) (J1 : MJ) => vc_X11_comes x1 x2 x3 I1 J1 (fun (q : Int32) (I2 : MI) (J2 : MJ) => r = q ∧ Inv I2 J2))) (P21 : ∀ (I : MI) (J : MJ), Inv I J → ∀ (x1 : Int32) (x2 : Int32) (x3 : Int32) (x4 : Int32), vc_X10_straw x1 x2 x3 x4 I J (fun (r : Int32) (I1 : MI) (J1 : MJ) => vc_X11_straw x1 x2 x3 x4 I1 J1 (fun (q : Int32) (I2 : MI) (J2 : MJ) => r = q ∧ Inv I2 J2))) (P22 : ∀ (I : MI) (J : MJ), Inv I J → ∀ (x1 : Int32) (x2 : Int32) (x3 : Int32) (x4 : Int32), vc_X10_meet x1 x2 x3 x4 I J (fun (r : Int32) (I1 : MI) (J1 : MJ) => vc_X11_meet x1 x2 x3 x4 I1 J1 (fun (q : Int32) (I2 : MI) (J2 : MJ) => r = q ∧ Inv I2 J2))) (P23 : ∀ (I : MI) (J : MJ), Inv I J → ∀ (x1 : Int32), vc_X10_taker x1 I J (fun (r : Int32) (I1 : MI) (J1 : MJ) => vc_X11_taker x1 I1 J1 (fun (q : Int32) (I2 : MI) (J2 : MJ) => r = q ∧ Inv I2 J2))) (P24 : ∀ (I : MI) (J : MJ), Inv I J → vc_X10_dismiss I J (fun (r : Int32) (I1 : MI) (J1 : MJ) => vc_X11_dismiss I1 J1 (fun (q : Int32) (I2 : MI) (J2 : MJ) => r = q ∧ Inv I2 J2))) (P25 : ∀ (I : MI) (J : MJ), Inv I J → ∀ (x1 : Int32) (x2 : Int32) (x3 : Int32), vc_X10_left x1 x2 x3 I J (fun (r : Int32) (I1 : MI) (J1 : MJ) => vc_X11_left x1 x2 x3 I1 J1 (fun (q : Int32) (I2 : MI) (J2 : MJ) => r = q ∧ Inv I2 J2))) (P26 : ∀ (I : MI) (J : MJ), Inv I J → ∀ (x1 : Int32) (x2 : Int32) (x3 : Int32), vc_X10_drip x1 x2 x3 I J (fun (r : Int32) (I1 : MI) (J1 : MJ) => vc_X11_drip x1 x2 x3 I1 J1 (fun (q : Int32) (I2 : MI) (J2 : MJ) => r = q ∧ Inv I2 J2))) (P27 : ∀ (I : MI) (J : MJ), Inv I J → ∀ (x1 : Int32) (x2 : Int32) (x3 : Int32) (x4 : Int32), vc_X10_seal x1 x2 x3 x4 I J (fun (r : Int64) (I1 : MI) (J1 : MJ) => vc_X11_seal x1 x2 x3 x4 I1 J1 (fun (q : Int64) (I2 : MI) (J2 : MJ) => r = q ∧ Inv I2 J2))) (P28 : ∀ (I : MI) (J : MJ), Inv I J → ∀ (x1 : Int32) (x2 : Int32) (x3 : Int32), vc_X10_rent x1 x2 x3 I J (fun (r : Int32) (I1 : MI) (J1 : MJ) => vc_X11_rent x1 x2 x3 I1 J1 (fun (q : Int32) (I2 : MI) (J2 : MJ) => r = q ∧ Inv I2 J2))) (P29 : ∀ (I : MI) (J : MJ), Inv I J → ∀ (x1 : Int32) (x2 : Int32) (x3 : Int32), vc_X10_around x1 x2 x3 I J (fun (r : Int32) (I1 : MI) (J1 : MJ) => vc_X11_around x1 x2 x3 I1 J1 (fun (q : Int32) (I2 : MI) (J2 : MJ) => r = q ∧ Inv I2 J2))) (P30 : ∀ (I : MI) (J : MJ), Inv I J → ∀ (x1 : Int32), vc_X10_put x1 I J (fun (r : Int32) (I1 : MI) (J1 : MJ) => vc_X11_put x1 I1 J1 (fun (q : Int32) (I2 : MI) (J2 : MJ) => r = q ∧ Inv I2 J2))) (P31 : ∀ (I : MI) (J : MJ), Inv I J → vc_X10_wipe I J (fun (r : Int32) (I1 : MI) (J1 : MJ) => vc_X11_wipe I1 J1 (fun (q : Int32) (I2 : MI) (J2 : MJ) => r = q ∧ Inv I2 J2))) (P32 : ∀ (I : MI) (J : MJ), Inv I J → ∀ (x1 : Int32) (x2 : Int32), vc_X10_pass x1 x2 I J (fun (r : Int32) (I1 : MI) (J1 : MJ) => vc_X11_pass x1 x2 I1 J1 (fun (q : Int32) (I2 : MI) (J2 : MJ) => r = q ∧ Inv I2 J2))) (P33 : ∀ (I : MI) (J : MJ), Inv I J → ∀ (x1 : Int32) (x2 : Int32) (x3 : Int32) (x4 : Int32), vc_X10_winds x1 x2 x3 x4 I J (fun (r : Int32) (I1 : MI) (J1 : MJ) => vc_X11_winds x1 x2 x3 x4 I1 J1 (fun (q : Int32) (I2 : MI) (J2 : MJ) => r = q ∧ Inv I2 J2))) (P34 : ∀ (I : MI) (J : MJ), Inv I J → ∀ (x1 : Int32), vc_X10_count x1 I J (fun (r : Int32) (I1 : MI) (J1 : MJ) => vc_X11_count x1 I1 J1 (fun (q : Int32) (I2 : MI) (J2 : MJ) => r = q ∧ Inv I2 J2))) {b L : Nat} {xs : Nat → Int32} (hL : L ≤ 320) (hX : va_X b L xs (zs Z) (zs Z).heap) (hbl : b < (zs Z).heap.size) (hbA : ¬ zA Z b) (hend : ∀ I J i, Inv I J → GW Z 4 I J 1270 [(0, .ref b), (1, .ref (ea (zE Z) 0)), (2, .ref (ea (zE Z) 87)), (3, .int (nI i))] []) : ∀ (n i : Nat) (I : MI) (J : MJ), 2000 - i < n → Inv I J → i ≤ 2000 → GW Z 4 I J 18 [(0, .ref b), (1, .ref (ea (zE Z) 0)), (2, .ref (ea (zE Z) 87)), (3, .int (nI i))] [] := by
  intro n
  induction n with
  | zero => intro i I J h1; exact absurd h1 (Nat.not_lt_zero _)
  | succ n ih =>
  intro i I J hn hI hi0
  refine g_iload_n X dL_law_18 rfl 3 rfl ?_
  refine g_aload_n X dL_law_19 rfl 0 rfl ?_
  refine g_slenL X hX hbl hbA dL_law_20 ?_
  refine g_iconst X (v := 5) dL_law_21 (by decide) ?_
  refine g_isub X dL_law_22 ?_
  refine g_icmp_gt X (tgt := 1270) dL_law_23 (by decide) (fun _ => hend I J i hI) (fun c => ?_)
  have hi : i + 5 ≤ L := law_bound hL hi0 c
  have b0 : vp_in (nI i) L := vp_in_nI (by omega) (by omega)
  have b1 : vp_in (nI i + 1) L := by rw [show (1 : Int32) = nI 1 from rfl, nI_add]; exact vp_in_nI (by omega) (by omega)
  have b2 : vp_in (nI i + 2) L := by rw [show (2 : Int32) = nI 2 from rfl, nI_add]; exact vp_in_nI (by omega) (by omega)
  have b3 : vp_in (nI i + 3) L := by rw [show (3 : Int32) = nI 3 from rfl, nI_add]; exact vp_in_nI (by omega) (by omega)
  have b4 : vp_in (nI i + 4) L := by rw [show (4 : Int32) = nI 4 from rfl, nI_add]; exact vp_in_nI (by omega) (by omega)
  have hk : ∀ I J, Inv I J → GW Z 4 I J 1264 [(0, .ref b), (1, .ref (ea (zE Z) 0)), (2, .ref (ea (zE Z) 87)), (3, .int (nI i))] [] := by
    intro I J hI
    refine g_iinc X (q := 3) (v := nI (i + 5)) (lv' := [(3, .int (nI (i + 5))), (0, .ref b), (1, .ref (ea (zE Z) 0)), (2, .ref (ea (zE Z) 87))]) dL_law_1264 rfl (by rw [← nI_add]; rfl) (by decide) rfl ?_
    refine g_goto X (tgt := 18) dL_law_1267 (by decide) ?_
    refine GW.sub (lv' := [(0, .ref b), (1, .ref (ea (zE Z) 0)), (2, .ref (ea (zE Z) 87)), (3, .int (nI (i + 5)))]) [1, 2, 3, 0] rfl ?_
    exact ih (i + 5) I J (by omega) hI (by omega)
  refine g_aload_n X dL_law_26 rfl 0 rfl ?_
  refine g_iload_n X dL_law_27 rfl 3 rfl ?_
  refine g_sld X hX hbl hbA b0 dL_law_28 ?_
  refine g_bipush X (v := 63) dL_law_29 (by decide) ?_
  refine g_iand X dL_law_31 ?_
  by_cases c0 : (xs (Int32.toNatClampNeg (nI i))) &&& 63 = 0
  · exact g_tin X (tgt := 188) dL_law_32 c0 (by decide) (by decide) rfl (by decide) (law_0 X P0 hX hbl hbA b1 b2 b3 b4 hk I J hI)
  by_cases c1 : (xs (Int32.toNatClampNeg (nI i))) &&& 63 = 1
  · exact g_tin X (tgt := 211) dL_law_32 c1 (by decide) (by decide) rfl (by decide) (law_1 X P1 hX hbl hbA b1 b2 b3 b4 hk I J hI)
  by_cases c2 : (xs (Int32.toNatClampNeg (nI i))) &&& 63 = 2
  · exact g_tin X (tgt := 224) dL_law_32 c2 (by decide) (by decide) rfl (by decide) (law_2 X P2 hX hbl hbA b1 b2 b3 b4 hk I J hI)
  by_cases c3 : (xs (Int32.toNatClampNeg (nI i))) &&& 63 = 3
  · exact g_tin X (tgt := 237) dL_law_32 c3 (by decide) (by decide) rfl (by decide) (law_3 X P3 hX hbl hbA b1 b2 b3 b4 hk I J hI)
  by_cases c4 : (xs (Int32.toNatClampNeg (nI i))) &&& 63 = 4
  · exact g_tin X (tgt := 250) dL_law_32 c4 (by decide) (by decide) rfl (by decide) (law_4 X P4 hX hbl hbA b1 b2 b3 b4 hk I J hI)
  by_cases c5 : (xs (Int32.toNatClampNeg (nI i))) &&& 63 = 5
  · exact g_tin X (tgt := 283) dL_law_32 c5 (by decide) (by decide) rfl (by decide) (law_5 X P5 hX hbl hbA b1 b2 b3 b4 hk I J hI)
  by_cases c6 : (xs (Int32.toNatClampNeg (nI i))) &&& 63 = 6
  · exact g_tin X (tgt := 316) dL_law_32 c6 (by decide) (by decide) rfl (by decide) (law_6 X P6 hX hbl hbA b1 b2 b3 b4 hk I J hI)
  by_cases c7 : (xs (Int32.toNatClampNeg (nI i))) &&& 63 = 7
  · exact g_tin X (tgt := 349) dL_law_32 c7 (by decide) (by decide) rfl (by decide) (law_7 X P7 hX hbl hbA b1 b2 b3 b4 hk I J hI)
  by_cases c8 : (xs (Int32.toNatClampNeg (nI i))) &&& 63 = 8
  · exact g_tin X (tgt := 382) dL_law_32 c8 (by decide) (by decide) rfl (by decide) (law_8 X P8 hX hbl hbA b1 b2 b3 b4 hk I J hI)
  by_cases c9 : (xs (Int32.toNatClampNeg (nI i))) &&& 63 = 9
  · exact g_tin X (tgt := 415) dL_law_32 c9 (by decide) (by decide) rfl (by decide) (law_9 X P9 hX hbl hbA b1 b2 b3 b4 hk I J hI)
  by_cases c10 : (xs (Int32.toNatClampNeg (nI i))) &&& 63 = 10
  · exact g_tin X (tgt := 438) dL_law_32 c10 (by decide) (by decide) rfl (by decide) (law_10 X P10 hX hbl hbA b1 b2 b3 b4 hk I J hI)
  by_cases c11 : (xs (Int32.toNatClampNeg (nI i))) &&& 63 = 11
  · exact g_tin X (tgt := 471) dL_law_32 c11 (by decide) (by decide) rfl (by decide) (law_11 X P11 hX hbl hbA b1 b2 b3 b4 hk I J hI)
  by_cases c12 : (xs (Int32.toNatClampNeg (nI i))) &&& 63 = 12
  · exact g_tin X (tgt := 504) dL_law_32 c12 (by decide) (by decide) rfl (by decide) (law_12 X P12 hX hbl hbA b1 b2 b3 b4 hk I J hI)
  by_cases c13 : (xs (Int32.toNatClampNeg (nI i))) &&& 63 = 13
  · exact g_tin X (tgt := 537) dL_law_32 c13 (by decide) (by decide) rfl (by decide) (law_13 X P13 hX hbl hbA b1 b2 b3 b4 hk I J hI)
  by_cases c14 : (xs (Int32.toNatClampNeg (nI i))) &&& 63 = 14
  · exact g_tin X (tgt := 570) dL_law_32 c14 (by decide) (by decide) rfl (by decide) (law_14 X P14 hX hbl hbA b1 b2 b3 b4 hk I J hI)
  by_cases c15 : (xs (Int32.toNatClampNeg (nI i))) &&& 63 = 15
  · exact g_tin X (tgt := 593) dL_law_32 c15 (by decide) (by decide) rfl (by decide) (law_15 X P15 hX hbl hbA b1 b2 b3 b4 hk I J hI)
  by_cases c16 : (xs (Int32.toNatClampNeg (nI i))) &&& 63 = 16
  · exact g_tin X (tgt := 626) dL_law_32 c16 (by decide) (by decide) rfl (by decide) (law_16 X P16 hX hbl hbA b1 b2 b3 b4 hk I J hI)
  by_cases c17 : (xs (Int32.toNatClampNeg (nI i))) &&& 63 = 17
  · exact g_tin X (tgt := 649) dL_law_32 c17 (by decide) (by decide) rfl (by decide) (law_17 X P17 hX hbl hbA b1 b2 b3 b4 hk I J hI)
  by_cases c18 : (xs (Int32.toNatClampNeg (nI i))) &&& 63 = 18
  · exact g_tin X (tgt := 662) dL_law_32 c18 (by decide) (by decide) rfl (by decide) (law_18 X P18 hX hbl hbA b1 b2 b3 b4 hk I J hI)
  by_cases c19 : (xs (Int32.toNatClampNeg (nI i))) &&& 63 = 19
  · exact g_tin X (tgt := 685) dL_law_32 c19 (by decide) (by decide) rfl (by decide) (law_19 X P19 hX hbl hbA b1 b2 b3 b4 hk I J hI)
  by_cases c20 : (xs (Int32.toNatClampNeg (nI i))) &&& 63 = 20
  · exact g_tin X (tgt := 708) dL_law_32 c20 (by decide) (by decide) rfl (by decide) (law_20 X P20 hX hbl hbA b1 b2 b3 b4 hk I J hI)
  by_cases c21 : (xs (Int32.toNatClampNeg (nI i))) &&& 63 = 21
  · exact g_tin X (tgt := 751) dL_law_32 c21 (by decide) (by decide) rfl (by decide) (law_21 X P21 hX hbl hbA b1 b2 b3 b4 hk I J hI)
  by_cases c22 : (xs (Int32.toNatClampNeg (nI i))) &&& 63 = 22
  · exact g_tin X (tgt := 804) dL_law_32 c22 (by decide) (by decide) rfl (by decide) (law_22 X P22 hX hbl hbA b1 b2 b3 b4 hk I J hI)
  by_cases c23 : (xs (Int32.toNatClampNeg (nI i))) &&& 63 = 23
  · exact g_tin X (tgt := 857) dL_law_32 c23 (by decide) (by decide) rfl (by decide) (law_23 X P23 hX hbl hbA b1 b2 b3 b4 hk I J hI)
  by_cases c24 : (xs (Int32.toNatClampNeg (nI i))) &&& 63 = 24
  · exact g_tin X (tgt := 880) dL_law_32 c24 (by decide) (by decide) rfl (by decide) (law_24 X P24 hX hbl hbA b1 b2 b3 b4 hk I J hI)
  by_cases c25 : (xs (Int32.toNatClampNeg (nI i))) &&& 63 = 25
  · exact g_tin X (tgt := 893) dL_law_32 c25 (by decide) (by decide) rfl (by decide) (law_25 X P25 hX hbl hbA b1 b2 b3 b4 hk I J hI)
  by_cases c26 : (xs (Int32.toNatClampNeg (nI i))) &&& 63 = 26
  · exact g_tin X (tgt := 936) dL_law_32 c26 (by decide) (by decide) rfl (by decide) (law_26 X P26 hX hbl hbA b1 b2 b3 b4 hk I J hI)
  by_cases c27 : (xs (Int32.toNatClampNeg (nI i))) &&& 63 = 27
  · exact g_tin X (tgt := 979) dL_law_32 c27 (by decide) (by decide) rfl (by decide) (law_27 X P27 hX hbl hbA b1 b2 b3 b4 hk I J hI)
  by_cases c28 : (xs (Int32.toNatClampNeg (nI i))) &&& 63 = 28
  · exact g_tin X (tgt := 1033) dL_law_32 c28 (by decide) (by decide) rfl (by decide) (law_28 X P28 hX hbl hbA b1 b2 b3 b4 hk I J hI)
  by_cases c29 : (xs (Int32.toNatClampNeg (nI i))) &&& 63 = 29
  · exact g_tin X (tgt := 1076) dL_law_32 c29 (by decide) (by decide) rfl (by decide) (law_29 X P29 hX hbl hbA b1 b2 b3 b4 hk I J hI)
  by_cases c30 : (xs (Int32.toNatClampNeg (nI i))) &&& 63 = 30
  · exact g_tin X (tgt := 1119) dL_law_32 c30 (by decide) (by decide) rfl (by decide) (law_30 X P30 hX hbl hbA b1 b2 b3 b4 hk I J hI)
  by_cases c31 : (xs (Int32.toNatClampNeg (nI i))) &&& 63 = 31
  · exact g_tin X (tgt := 1142) dL_law_32 c31 (by decide) (by decide) rfl (by decide) (law_31 X P31 hX hbl hbA b1 b2 b3 b4 hk I J hI)
  by_cases c32 : (xs (Int32.toNatClampNeg (nI i))) &&& 63 = 32
  · exact g_tin X (tgt := 1155) dL_law_32 c32 (by decide) (by decide) rfl (by decide) (law_32 X P32 hX hbl hbA b1 b2 b3 b4 hk I J hI)
  by_cases c33 : (xs (Int32.toNatClampNeg (nI i))) &&& 63 = 33
  · exact g_tin X (tgt := 1188) dL_law_32 c33 (by decide) (by decide) rfl (by decide) (law_33 X P33 hX hbl hbA b1 b2 b3 b4 hk I J hI)
  by_cases c34 : (xs (Int32.toNatClampNeg (nI i))) &&& 63 = 34
  · exact g_tin X (tgt := 1241) dL_law_32 c34 (by decide) (by decide) rfl (by decide) (law_34 X P34 hX hbl hbA b1 b2 b3 b4 hk I J hI)
  exact g_tout X (tgt := 1264) dL_law_32 (sw_out (hi := 34) (fun k hk => by match k, hk with | 0, _ => exact c0 | 1, _ => exact c1 | 2, _ => exact c2 | 3, _ => exact c3 | 4, _ => exact c4 | 5, _ => exact c5 | 6, _ => exact c6 | 7, _ => exact c7 | 8, _ => exact c8 | 9, _ => exact c9 | 10, _ => exact c10 | 11, _ => exact c11 | 12, _ => exact c12 | 13, _ => exact c13 | 14, _ => exact c14 | 15, _ => exact c15 | 16, _ => exact c16 | 17, _ => exact c17 | 18, _ => exact c18 | 19, _ => exact c19 | 20, _ => exact c20 | 21, _ => exact c21 | 22, _ => exact c22 | 23, _ => exact c23 | 24, _ => exact c24 | 25, _ => exact c25 | 26, _ => exact c26 | 27, _ => exact c27 | 28, _ => exact c28 | 29, _ => exact c29 | 30, _ => exact c30 | 31, _ => exact c31 | 32, _ => exact c32 | 33, _ => exact c33 | 34, _ => exact c34 | k + 35, hk => exact absurd hk (by omega)) (by decide)) (by decide) (hk I J hI)
