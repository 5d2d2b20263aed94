section
variable {p : Program} {l : Launch} {e : Env} {s : State} {m : MethodId} {below : List Frame} {meth : Method} {c : Code} {H : Heap} {locs : List Loc} {Q : State → Prop}
variable {D : va_G} {n0 : Nat} {ad : Nat → Nat} {cI cJ : ClassId} {b L i cl sl : Nat} {xs : Nat → Int32}
set_option maxRecDepth 20000 in
theorem cw_L_law_58 : Cond.constantLong RL 58 4294967295 ∈ wsnL_law := by decide +kernel
def VL_0 (a : Nat → Int32) (S : SS) (K : SS → Prop) : Prop :=
  (V_X7_draft (a 1) S (fun (r1 : Int32) (S2 : SS) => (V_X8_draft (a 1) S2 (fun (r3 : Int32) (S4 : SS) => ((r1 = r3 → (K S4)) ∧ (¬ r1 = r3 → False))))))
set_option maxHeartbeats 8000000 in
set_option maxRecDepth 100000 in
theorem lc_0 (C0 : Bd p s m meth c #[.ref b] code 8 ret wsnL_law RL D n0 cI cJ) (hlt : l.stackTraces = false) (hX : va_X b L xs s s.heap) (hbl : b < s.heap.size) (hbA : ¬ fr n0 b) (K : SS → Prop) (hc : cl + 2 ≤ room_1.cells) (hs : sl + 12 ≤ room_1.slots) (hi : i + 6 ≤ L) (hL : L ≤ 3072) (S : SS) (hV : VL_0 (fun j => xs (i + j)) S K) (hw : Wh D n0 ad cI cJ [] S s H locs) {ls : Array Slot} (hl : lv_has ls 8 [(0, .ref b), (1, .ref (ad 0)), (2, .ref (ad 48)), (3, .ref (ad 64)), (4, .int (nI i))]) (kk : ∀ S1 : SS, K S1 → ∀ (H1 : Heap) (locs1 : List Loc), Wh D n0 ad cI cJ [] S1 s H1 locs1 → ∀ ls1 : Array Slot, lv_has ls1 8 [(0, .ref b), (1, .ref (ad 0)), (2, .ref (ad 48)), (3, .ref (ad 64)), (4, .int (nI i))] → W p l e room_1 s m #[.ref b] below meth c H1 locs1 (cl + 2) (sl + 12) Q (F0 m 1908 ls1 [])) : W p l e room_1 s m #[.ref b] below meth c H locs cl sl Q (F0 m 200 ls []) := by
  unfold VL_0 at hV
  refine lv_aload_n C0.x C0.b dL_law_200 rfl (lv_at hl 1 rfl) ?_
  refine lv_aload_n C0.x C0.b dL_law_201 rfl (lv_at hl 0 rfl) ?_
  refine lv_iload C0.x C0.b dL_law_202 (lv_at hl 4 rfl) ?_
  refine lv_iconst (v := 1) C0.x C0.b dL_law_204 (by decide) ?_
  refine lv_iadd C0.x C0.b dL_law_205 ?_
  refine r_scr 1 C0 hX hbl hbA hw (by omega) hL dL_law_206 ?_
  refine r_cV_i (As := [.int (xs (i + 1))]) (rest := []) C0 hw (c_X7_draft hV) (cwV 1 C0.ts ngL_law_X7_draft rfl rfl rfl hd_X7_draft ⟨Nat.le_of_ble_eq_true rfl, Nat.le_of_ble_eq_true rfl⟩) (lg_0 ad cI cJ [] S) rfl rfl hl.1 rfl (Nat.le_of_ble_eq_true rfl) ⟨by omega, by omega⟩ dL_law_207 (fun r1 S2 H locs hV hw => ?_)
  refine lv_aload_n C0.x C0.b dL_law_210 rfl (lv_at hl 2 rfl) ?_
  refine lv_aload_n C0.x C0.b dL_law_211 rfl (lv_at hl 0 rfl) ?_
  refine lv_iload C0.x C0.b dL_law_212 (lv_at hl 4 rfl) ?_
  refine lv_iconst (v := 1) C0.x C0.b dL_law_214 (by decide) ?_
  refine lv_iadd C0.x C0.b dL_law_215 ?_
  refine r_scr 1 C0 hX hbl hbA hw (by omega) hL dL_law_216 ?_
  refine r_cV_i (As := [.int (xs (i + 1))]) (rest := [.int r1]) C0 hw (c_X8_draft hV) (cwV 1 C0.ts ngL_law_X8_draft rfl rfl rfl hd_X8_draft ⟨Nat.le_of_ble_eq_true rfl, Nat.le_of_ble_eq_true rfl⟩) (lg_48 ad cI cJ [] S2) rfl rfl hl.1 rfl (Nat.le_of_ble_eq_true rfl) ⟨by omega, by omega⟩ dL_law_217 (fun r3 S4 H locs hV hw => ?_)
  refine lv_icmp_eq (tgt := 1908) C0.x C0.b dL_law_220 (by decide) (fun c5 => ?_) (fun c5 => ?_)
  · have hV := hV.1 c5
    refine W.widen (k := cl + 2) (n := sl + 12) (by omega) (by omega) ?_
    exact kk _ hV _ _ hw _ (lv_sub hl [0, 1, 2, 3, 4] rfl)
  · have hV := hV.2 c5
    refine lv_iconst (v := 0) C0.x C0.b dL_law_223 (by decide) ?_
    exact hV.elim
def VL_1 (a : Nat → Int32) (S : SS) (K : SS → Prop) : Prop :=
  (V_X7_sheet (a 1) (a 2) S (fun (r1 : Int32) (S2 : SS) => (V_X8_sheet (a 1) (a 2) S2 (fun (r3 : Int32) (S4 : SS) => ((r1 = r3 → (K S4)) ∧ (¬ r1 = r3 → False))))))
set_option maxHeartbeats 8000000 in
set_option maxRecDepth 100000 in
theorem lc_1 (C0 : Bd p s m meth c #[.ref b] code 8 ret wsnL_law RL D n0 cI cJ) (hlt : l.stackTraces = false) (hX : va_X b L xs s s.heap) (hbl : b < s.heap.size) (hbA : ¬ fr n0 b) (K : SS → Prop) (hc : cl + 2 ≤ room_1.cells) (hs : sl + 12 ≤ room_1.slots) (hi : i + 6 ≤ L) (hL : L ≤ 3072) (S : SS) (hV : VL_1 (fun j => xs (i + j)) S K) (hw : Wh D n0 ad cI cJ [] S s H locs) {ls : Array Slot} (hl : lv_has ls 8 [(0, .ref b), (1, .ref (ad 0)), (2, .ref (ad 48)), (3, .ref (ad 64)), (4, .int (nI i))]) (kk : ∀ S1 : SS, K S1 → ∀ (H1 : Heap) (locs1 : List Loc), Wh D n0 ad cI cJ [] S1 s H1 locs1 → ∀ ls1 : Array Slot, lv_has ls1 8 [(0, .ref b), (1, .ref (ad 0)), (2, .ref (ad 48)), (3, .ref (ad 64)), (4, .int (nI i))] → W p l e room_1 s m #[.ref b] below meth c H1 locs1 (cl + 2) (sl + 12) Q (F0 m 1908 ls1 [])) : W p l e room_1 s m #[.ref b] below meth c H locs cl sl Q (F0 m 225 ls []) := by
  unfold VL_1 at hV
  refine lv_aload_n C0.x C0.b dL_law_225 rfl (lv_at hl 1 rfl) ?_
  refine lv_aload_n C0.x C0.b dL_law_226 rfl (lv_at hl 0 rfl) ?_
  refine lv_iload C0.x C0.b dL_law_227 (lv_at hl 4 rfl) ?_
  refine lv_iconst (v := 1) C0.x C0.b dL_law_229 (by decide) ?_
  refine lv_iadd C0.x C0.b dL_law_230 ?_
  refine r_scr 1 C0 hX hbl hbA hw (by omega) hL dL_law_231 ?_
  refine lv_aload_n C0.x C0.b dL_law_232 rfl (lv_at hl 0 rfl) ?_
  refine lv_iload C0.x C0.b dL_law_233 (lv_at hl 4 rfl) ?_
  refine lv_iconst (v := 2) C0.x C0.b dL_law_235 (by decide) ?_
  refine lv_iadd C0.x C0.b dL_law_236 ?_
  refine r_scr 2 C0 hX hbl hbA hw (by omega) hL dL_law_237 ?_
  refine r_cV_i (As := [.int (xs (i + 1)), .int (xs (i + 2))]) (rest := []) C0 hw (c_X7_sheet hV) (cwV 2 C0.ts ngL_law_X7_sheet rfl rfl rfl hd_X7_sheet ⟨Nat.le_of_ble_eq_true rfl, Nat.le_of_ble_eq_true rfl⟩) (lg_0 ad cI cJ [] S) rfl rfl hl.1 rfl (Nat.le_of_ble_eq_true rfl) ⟨by omega, by omega⟩ dL_law_238 (fun r1 S2 H locs hV hw => ?_)
  refine lv_aload_n C0.x C0.b dL_law_241 rfl (lv_at hl 2 rfl) ?_
  refine lv_aload_n C0.x C0.b dL_law_242 rfl (lv_at hl 0 rfl) ?_
  refine lv_iload C0.x C0.b dL_law_243 (lv_at hl 4 rfl) ?_
  refine lv_iconst (v := 1) C0.x C0.b dL_law_245 (by decide) ?_
  refine lv_iadd C0.x C0.b dL_law_246 ?_
  refine r_scr 1 C0 hX hbl hbA hw (by omega) hL dL_law_247 ?_
  refine lv_aload_n C0.x C0.b dL_law_248 rfl (lv_at hl 0 rfl) ?_
  refine lv_iload C0.x C0.b dL_law_249 (lv_at hl 4 rfl) ?_
  refine lv_iconst (v := 2) C0.x C0.b dL_law_251 (by decide) ?_
  refine lv_iadd C0.x C0.b dL_law_252 ?_
  refine r_scr 2 C0 hX hbl hbA hw (by omega) hL dL_law_253 ?_
  refine r_cV_i (As := [.int (xs (i + 1)), .int (xs (i + 2))]) (rest := [.int r1]) C0 hw (c_X8_sheet hV) (cwV 2 C0.ts ngL_law_X8_sheet rfl rfl rfl hd_X8_sheet ⟨Nat.le_of_ble_eq_true rfl, Nat.le_of_ble_eq_true rfl⟩) (lg_48 ad cI cJ [] S2) rfl rfl hl.1 rfl (Nat.le_of_ble_eq_true rfl) ⟨by omega, by omega⟩ dL_law_254 (fun r3 S4 H locs hV hw => ?_)
  refine lv_icmp_eq (tgt := 1908) C0.x C0.b dL_law_257 (by decide) (fun c5 => ?_) (fun c5 => ?_)
  · have hV := hV.1 c5
    refine W.widen (k := cl + 2) (n := sl + 12) (by omega) (by omega) ?_
    exact kk _ hV _ _ hw _ (lv_sub hl [0, 1, 2, 3, 4] rfl)
  · have hV := hV.2 c5
    refine lv_iconst (v := 0) C0.x C0.b dL_law_260 (by decide) ?_
    exact hV.elim
def VL_2 (a : Nat → Int32) (S : SS) (K : SS → Prop) : Prop :=
  (V_X7_entry (a 1) (((a 2).toInt64 <<< ((32 : Int32).toInt64 &&& 63)) ||| ((a 3).toInt64 &&& (4294967295 : Int64))) S (fun (r1 : Int32) (S2 : SS) => (V_X8_entry (a 1) (((a 2).toInt64 <<< ((32 : Int32).toInt64 &&& 63)) ||| ((a 3).toInt64 &&& (4294967295 : Int64))) S2 (fun (r3 : Int32) (S4 : SS) => ((r1 = r3 → (K S4)) ∧ (¬ r1 = r3 → False))))))
set_option maxHeartbeats 8000000 in
set_option maxRecDepth 100000 in
theorem lc_2 (C0 : Bd p s m meth c #[.ref b] code 8 ret wsnL_law RL D n0 cI cJ) (hlt : l.stackTraces = false) (hX : va_X b L xs s s.heap) (hbl : b < s.heap.size) (hbA : ¬ fr n0 b) (K : SS → Prop) (hc : cl + 2 ≤ room_1.cells) (hs : sl + 12 ≤ room_1.slots) (hi : i + 6 ≤ L) (hL : L ≤ 3072) (S : SS) (hV : VL_2 (fun j => xs (i + j)) S K) (hw : Wh D n0 ad cI cJ [] S s H locs) {ls : Array Slot} (hl : lv_has ls 8 [(0, .ref b), (1, .ref (ad 0)), (2, .ref (ad 48)), (3, .ref (ad 64)), (4, .int (nI i))]) (kk : ∀ S1 : SS, K S1 → ∀ (H1 : Heap) (locs1 : List Loc), Wh D n0 ad cI cJ [] S1 s H1 locs1 → ∀ ls1 : Array Slot, lv_has ls1 8 [(0, .ref b), (1, .ref (ad 0)), (2, .ref (ad 48)), (3, .ref (ad 64)), (4, .int (nI i))] → W p l e room_1 s m #[.ref b] below meth c H1 locs1 (cl + 2) (sl + 12) Q (F0 m 1908 ls1 [])) : W p l e room_1 s m #[.ref b] below meth c H locs cl sl Q (F0 m 262 ls []) := by
  unfold VL_2 at hV
  refine lv_aload_n C0.x C0.b dL_law_262 rfl (lv_at hl 1 rfl) ?_
  refine lv_aload_n C0.x C0.b dL_law_263 rfl (lv_at hl 0 rfl) ?_
  refine lv_iload C0.x C0.b dL_law_264 (lv_at hl 4 rfl) ?_
  refine lv_iconst (v := 1) C0.x C0.b dL_law_266 (by decide) ?_
  refine lv_iadd C0.x C0.b dL_law_267 ?_
  refine r_scr 1 C0 hX hbl hbA hw (by omega) hL dL_law_268 ?_
  refine lv_aload_n C0.x C0.b dL_law_269 rfl (lv_at hl 0 rfl) ?_
  refine lv_iload C0.x C0.b dL_law_270 (lv_at hl 4 rfl) ?_
  refine lv_iconst (v := 2) C0.x C0.b dL_law_272 (by decide) ?_
  refine lv_iadd C0.x C0.b dL_law_273 ?_
  refine r_scr 2 C0 hX hbl hbA hw (by omega) hL dL_law_274 ?_
  refine lv_i2l C0.x C0.b dL_law_275 rfl ?_
  refine lv_bipush (v := 32) C0.x C0.b dL_law_276 (by decide) ?_
  refine lv_lshl C0.x C0.b dL_law_278 rfl ?_
  refine lv_aload_n C0.x C0.b dL_law_279 rfl (lv_at hl 0 rfl) ?_
  refine lv_iload C0.x C0.b dL_law_280 (lv_at hl 4 rfl) ?_
  refine lv_iconst (v := 3) C0.x C0.b dL_law_282 (by decide) ?_
  refine lv_iadd C0.x C0.b dL_law_283 ?_
  refine r_scr 3 C0 hX hbl hbA hw (by omega) hL dL_law_284 ?_
  refine lv_i2l C0.x C0.b dL_law_285 rfl ?_
  refine lv_ldc2 (v := 4294967295) C0.x C0.b C0.ow (C0.ts _ cw_L_law_58) dL_law_286 ?_
  refine lv_land C0.x C0.b dL_law_289 ?_
  refine lv_lor C0.x C0.b dL_law_290 ?_
  refine r_cV_i (As := [.int (xs (i + 1)), .long (((xs (i + 2)).toInt64 <<< ((32 : Int32).toInt64 &&& 63)) ||| ((xs (i + 3)).toInt64 &&& (4294967295 : Int64)))]) (rest := []) C0 hw (c_X7_entry hV) (cwV 2 C0.ts ngL_law_X7_entry rfl rfl rfl hd_X7_entry ⟨Nat.le_of_ble_eq_true rfl, Nat.le_of_ble_eq_true rfl⟩) (lg_0 ad cI cJ [] S) rfl rfl hl.1 rfl (Nat.le_of_ble_eq_true rfl) ⟨by omega, by omega⟩ dL_law_291 (fun r1 S2 H locs hV hw => ?_)
  refine lv_aload_n C0.x C0.b dL_law_294 rfl (lv_at hl 2 rfl) ?_
  refine lv_aload_n C0.x C0.b dL_law_295 rfl (lv_at hl 0 rfl) ?_
  refine lv_iload C0.x C0.b dL_law_296 (lv_at hl 4 rfl) ?_
  refine lv_iconst (v := 1) C0.x C0.b dL_law_298 (by decide) ?_
  refine lv_iadd C0.x C0.b dL_law_299 ?_
  refine r_scr 1 C0 hX hbl hbA hw (by omega) hL dL_law_300 ?_
  refine lv_aload_n C0.x C0.b dL_law_301 rfl (lv_at hl 0 rfl) ?_
  refine lv_iload C0.x C0.b dL_law_302 (lv_at hl 4 rfl) ?_
  refine lv_iconst (v := 2) C0.x C0.b dL_law_304 (by decide) ?_
  refine lv_iadd C0.x C0.b dL_law_305 ?_
  refine r_scr 2 C0 hX hbl hbA hw (by omega) hL dL_law_306 ?_
  refine lv_i2l C0.x C0.b dL_law_307 rfl ?_
  refine lv_bipush (v := 32) C0.x C0.b dL_law_308 (by decide) ?_
  refine lv_lshl C0.x C0.b dL_law_310 rfl ?_
  refine lv_aload_n C0.x C0.b dL_law_311 rfl (lv_at hl 0 rfl) ?_
  refine lv_iload C0.x C0.b dL_law_312 (lv_at hl 4 rfl) ?_
  refine lv_iconst (v := 3) C0.x C0.b dL_law_314 (by decide) ?_
  refine lv_iadd C0.x C0.b dL_law_315 ?_
  refine r_scr 3 C0 hX hbl hbA hw (by omega) hL dL_law_316 ?_
  refine lv_i2l C0.x C0.b dL_law_317 rfl ?_
  refine lv_ldc2 (v := 4294967295) C0.x C0.b C0.ow (C0.ts _ cw_L_law_58) dL_law_318 ?_
  refine lv_land C0.x C0.b dL_law_321 ?_
  refine lv_lor C0.x C0.b dL_law_322 ?_
  refine r_cV_i (As := [.int (xs (i + 1)), .long (((xs (i + 2)).toInt64 <<< ((32 : Int32).toInt64 &&& 63)) ||| ((xs (i + 3)).toInt64 &&& (4294967295 : Int64)))]) (rest := [.int r1]) C0 hw (c_X8_entry hV) (cwV 2 C0.ts ngL_law_X8_entry rfl rfl rfl hd_X8_entry ⟨Nat.le_of_ble_eq_true rfl, Nat.le_of_ble_eq_true rfl⟩) (lg_48 ad cI cJ [] S2) rfl rfl hl.1 rfl (Nat.le_of_ble_eq_true rfl) ⟨by omega, by omega⟩ dL_law_323 (fun r3 S4 H locs hV hw => ?_)
  refine lv_icmp_eq (tgt := 1908) C0.x C0.b dL_law_326 (by decide) (fun c5 => ?_) (fun c5 => ?_)
  · have hV := hV.1 c5
    refine W.widen (k := cl + 2) (n := sl + 12) (by omega) (by omega) ?_
    exact kk _ hV _ _ hw _ (lv_sub hl [0, 1, 2, 3, 4] rfl)
  · have hV := hV.2 c5
    refine lv_iconst (v := 0) C0.x C0.b dL_law_329 (by decide) ?_
    exact hV.elim
def VL_3 (a : Nat → Int32) (S : SS) (K : SS → Prop) : Prop :=
  (V_X7_lay (a 1) S (fun (r1 : Int32) (S2 : SS) => (V_X8_lay (a 1) S2 (fun (r3 : Int32) (S4 : SS) => ((r1 = r3 → (K S4)) ∧ (¬ r1 = r3 → False))))))
set_option maxHeartbeats 8000000 in
set_option maxRecDepth 100000 in
theorem lc_3 (C0 : Bd p s m meth c #[.ref b] code 8 ret wsnL_law RL D n0 cI cJ) (hlt : l.stackTraces = false) (hX : va_X b L xs s s.heap) (hbl : b < s.heap.size) (hbA : ¬ fr n0 b) (K : SS → Prop) (hc : cl + 2 ≤ room_1.cells) (hs : sl + 12 ≤ room_1.slots) (hi : i + 6 ≤ L) (hL : L ≤ 3072) (S : SS) (hV : VL_3 (fun j => xs (i + j)) S K) (hw : Wh D n0 ad cI cJ [] S s H locs) {ls : Array Slot} (hl : lv_has ls 8 [(0, .ref b), (1, .ref (ad 0)), (2, .ref (ad 48)), (3, .ref (ad 64)), (4, .int (nI i))]) (kk : ∀ S1 : SS, K S1 → ∀ (H1 : Heap) (locs1 : List Loc), Wh D n0 ad cI cJ [] S1 s H1 locs1 → ∀ ls1 : Array Slot, lv_has ls1 8 [(0, .ref b), (1, .ref (ad 0)), (2, .ref (ad 48)), (3, .ref (ad 64)), (4, .int (nI i))] → W p l e room_1 s m #[.ref b] below meth c H1 locs1 (cl + 2) (sl + 12) Q (F0 m 1908 ls1 [])) : W p l e room_1 s m #[.ref b] below meth c H locs cl sl Q (F0 m 331 ls []) := by
  unfold VL_3 at hV
  refine lv_aload_n C0.x C0.b dL_law_331 rfl (lv_at hl 1 rfl) ?_
  refine lv_aload_n C0.x C0.b dL_law_332 rfl (lv_at hl 0 rfl) ?_
  refine lv_iload C0.x C0.b dL_law_333 (lv_at hl 4 rfl) ?_
  refine lv_iconst (v := 1) C0.x C0.b dL_law_335 (by decide) ?_
  refine lv_iadd C0.x C0.b dL_law_336 ?_
  refine r_scr 1 C0 hX hbl hbA hw (by omega) hL dL_law_337 ?_
  refine r_cV_i (As := [.int (xs (i + 1))]) (rest := []) C0 hw (c_X7_lay hV) (cwV 1 C0.ts ngL_law_X7_lay rfl rfl rfl hd_X7_lay ⟨Nat.le_of_ble_eq_true rfl, Nat.le_of_ble_eq_true rfl⟩) (lg_0 ad cI cJ [] S) rfl rfl hl.1 rfl (Nat.le_of_ble_eq_true rfl) ⟨by omega, by omega⟩ dL_law_338 (fun r1 S2 H locs hV hw => ?_)
  refine lv_aload_n C0.x C0.b dL_law_341 rfl (lv_at hl 2 rfl) ?_
  refine lv_aload_n C0.x C0.b dL_law_342 rfl (lv_at hl 0 rfl) ?_
  refine lv_iload C0.x C0.b dL_law_343 (lv_at hl 4 rfl) ?_
  refine lv_iconst (v := 1) C0.x C0.b dL_law_345 (by decide) ?_
  refine lv_iadd C0.x C0.b dL_law_346 ?_
  refine r_scr 1 C0 hX hbl hbA hw (by omega) hL dL_law_347 ?_
  refine r_cV_i (As := [.int (xs (i + 1))]) (rest := [.int r1]) C0 hw (c_X8_lay hV) (cwV 1 C0.ts ngL_law_X8_lay rfl rfl rfl hd_X8_lay ⟨Nat.le_of_ble_eq_true rfl, Nat.le_of_ble_eq_true rfl⟩) (lg_48 ad cI cJ [] S2) rfl rfl hl.1 rfl (Nat.le_of_ble_eq_true rfl) ⟨by omega, by omega⟩ dL_law_348 (fun r3 S4 H locs hV hw => ?_)
  refine lv_icmp_eq (tgt := 1908) C0.x C0.b dL_law_351 (by decide) (fun c5 => ?_) (fun c5 => ?_)
  · have hV := hV.1 c5
    refine W.widen (k := cl + 2) (n := sl + 12) (by omega) (by omega) ?_
    exact kk _ hV _ _ hw _ (lv_sub hl [0, 1, 2, 3, 4] rfl)
  · have hV := hV.2 c5
    refine lv_iconst (v := 0) C0.x C0.b dL_law_354 (by decide) ?_
    exact hV.elim
def VL_4 (a : Nat → Int32) (S : SS) (K : SS → Prop) : Prop :=
  (V_L_seal  S (fun (r1 : Int32) (S2 : SS) => (V_X8_seal  S2 (fun (r3 : Int32) (S4 : SS) => (V_X8_thrown  S4 (fun (r5 : Int32) (S6 : SS) => ((r5 = r1 → ((r1 = 0 → (vp_in (0 : Int32) 1 ∧ (((gA S6 41 (0 : Int32).toNatClampNeg) = r3.toInt64 → (K S6)) ∧ (¬ (gA S6 41 (0 : Int32).toNatClampNeg) = r3.toInt64 → False)))) ∧ (¬ r1 = 0 → (K S6)))) ∧ (¬ r5 = r1 → False))))))))
set_option maxHeartbeats 8000000 in
set_option maxRecDepth 100000 in
theorem lc_4 (C0 : Bd p s m meth c #[.ref b] code 8 ret wsnL_law RL D n0 cI cJ) (hlt : l.stackTraces = false) (hX : va_X b L xs s s.heap) (hbl : b < s.heap.size) (hbA : ¬ fr n0 b) (K : SS → Prop) (hc : cl + 2 ≤ room_1.cells) (hs : sl + 12 ≤ room_1.slots) (hi : i + 6 ≤ L) (hL : L ≤ 3072) (S : SS) (hV : VL_4 (fun j => xs (i + j)) S K) (hw : Wh D n0 ad cI cJ [] S s H locs) {ls : Array Slot} (hl : lv_has ls 8 [(0, .ref b), (1, .ref (ad 0)), (2, .ref (ad 48)), (3, .ref (ad 64)), (4, .int (nI i))]) (kk : ∀ S1 : SS, K S1 → ∀ (H1 : Heap) (locs1 : List Loc), Wh D n0 ad cI cJ [] S1 s H1 locs1 → ∀ ls1 : Array Slot, lv_has ls1 8 [(0, .ref b), (1, .ref (ad 0)), (2, .ref (ad 48)), (3, .ref (ad 64)), (4, .int (nI i))] → W p l e room_1 s m #[.ref b] below meth c H1 locs1 (cl + 2) (sl + 12) Q (F0 m 1908 ls1 [])) : W p l e room_1 s m #[.ref b] below meth c H locs cl sl Q (F0 m 356 ls []) := by
  unfold VL_4 at hV
  refine lv_aload_n C0.x C0.b dL_law_356 rfl (lv_at hl 1 rfl) ?_
  refine lv_aload_n C0.x C0.b dL_law_357 rfl (lv_at hl 3 rfl) ?_
  refine r_cSW_i (As := [.ref (ad 0), .ref (ad 64)]) (rest := []) C0 hw (c_L_seal hlt hV) (vx_cwSW 2 C0.ts ngL_law_L_seal rfl rfl rfl hd_L_seal ⟨Nat.le_of_ble_eq_true rfl, Nat.le_of_ble_eq_true rfl⟩) rfl hl.1 rfl (Nat.le_of_ble_eq_true rfl) ⟨by omega, by omega⟩ dL_law_358 (fun r1 S2 H locs hV hw => ?_)
  refine lv_istore (lv' := [(5, .int r1), (0, .ref b), (1, .ref (ad 0)), (2, .ref (ad 48)), (3, .ref (ad 64)), (4, .int (nI i))]) C0.x C0.b dL_law_361 hl (by decide) rfl (fun ls hl => ?_)
  refine lv_aload_n C0.x C0.b dL_law_363 rfl (lv_at hl 3 rfl) ?_
  refine r_cV_i (As := []) (rest := []) C0 hw (c_X8_seal hV) (cwV 0 C0.ts ngL_law_X8_seal rfl rfl rfl hd_X8_seal ⟨Nat.le_of_ble_eq_true rfl, Nat.le_of_ble_eq_true rfl⟩) (lg_48 ad cI cJ [] S2) rfl rfl hl.1 rfl (Nat.le_of_ble_eq_true rfl) ⟨by omega, by omega⟩ dL_law_364 (fun r3 S4 H locs hV hw => ?_)
  refine lv_istore (lv' := [(6, .int r3), (5, .int r1), (0, .ref b), (1, .ref (ad 0)), (2, .ref (ad 48)), (3, .ref (ad 64)), (4, .int (nI i))]) C0.x C0.b dL_law_367 hl (by decide) rfl (fun ls hl => ?_)
  refine lv_aload_n C0.x C0.b dL_law_369 rfl (lv_at hl 4 rfl) ?_
  refine r_cV_i (As := []) (rest := []) C0 hw (c_X8_thrown hV) (cwV 0 C0.ts ngL_law_X8_thrown rfl rfl rfl hd_X8_thrown ⟨Nat.le_of_ble_eq_true rfl, Nat.le_of_ble_eq_true rfl⟩) (lg_48 ad cI cJ [] S4) rfl rfl hl.1 rfl (Nat.le_of_ble_eq_true rfl) ⟨by omega, by omega⟩ dL_law_370 (fun r5 S6 H locs hV hw => ?_)
  refine lv_iload C0.x C0.b dL_law_373 (lv_at hl 1 rfl) ?_
  refine lv_icmp_eq (tgt := 380) C0.x C0.b dL_law_375 (by decide) (fun c7 => ?_) (fun c7 => ?_)
  · have hV := hV.1 c7
    refine lv_iload C0.x C0.b dL_law_380 (lv_at hl 1 rfl) ?_
    refine lv_if_ne (tgt := 397) C0.x C0.b dL_law_382 (by decide) (fun c8 => ?_) (fun c8 => ?_)
    · have hV := hV.2 c8
      refine lv_goto (tgt := 1908) C0.x C0.b dL_law_397 (by decide) ?_
      refine W.widen (k := cl + 2) (n := sl + 12) (by omega) (by omega) ?_
      exact kk _ hV _ _ hw _ (lv_sub hl [2, 3, 4, 5, 6] rfl)
    · have hV := hV.1 c8
      refine lv_aload_n C0.x C0.b dL_law_385 rfl (lv_at hl 5 rfl) ?_
      refine lv_iconst (v := 0) C0.x C0.b dL_law_386 (by decide) ?_
      refine r_lald C0 hw (lg_64 ad cI cJ [] S6) hV.1 dL_law_387 ?_
      have hV := hV.2
      refine lv_iload C0.x C0.b dL_law_388 (lv_at hl 0 rfl) ?_
      refine lv_i2l C0.x C0.b dL_law_390 rfl ?_
      refine r_lcmp C0 dL_law_391 ?_
      refine lv_if_eq (tgt := 397) C0.x C0.b dL_law_392 (by decide) (fun c9 => ?_) (fun c9 => ?_)
      · have hV := hV.1 ((lc_eq _ _).mp c9)
        refine lv_goto (tgt := 1908) C0.x C0.b dL_law_397 (by decide) ?_
        refine W.widen (k := cl + 2) (n := sl + 12) (by omega) (by omega) ?_
        exact kk _ hV _ _ hw _ (lv_sub hl [2, 3, 4, 5, 6] rfl)
      · have hV := hV.2 (fun h => c9 ((lc_eq _ _).mpr h))
        refine lv_iconst (v := 0) C0.x C0.b dL_law_395 (by decide) ?_
        exact hV.elim
  · have hV := hV.2 c7
    refine lv_iconst (v := 0) C0.x C0.b dL_law_378 (by decide) ?_
    exact hV.elim
def VL_5 (a : Nat → Int32) (S : SS) (K : SS → Prop) : Prop :=
  (V_X7_list  S (fun (r1 : Int32) (S2 : SS) => (V_X8_list  S2 (fun (r3 : Int32) (S4 : SS) => ((r1 = r3 → (K S4)) ∧ (¬ r1 = r3 → False))))))
set_option maxHeartbeats 8000000 in
set_option maxRecDepth 100000 in
theorem lc_5 (C0 : Bd p s m meth c #[.ref b] code 8 ret wsnL_law RL D n0 cI cJ) (hlt : l.stackTraces = false) (hX : va_X b L xs s s.heap) (hbl : b < s.heap.size) (hbA : ¬ fr n0 b) (K : SS → Prop) (hc : cl + 2 ≤ room_1.cells) (hs : sl + 12 ≤ room_1.slots) (hi : i + 6 ≤ L) (hL : L ≤ 3072) (S : SS) (hV : VL_5 (fun j => xs (i + j)) S K) (hw : Wh D n0 ad cI cJ [] S s H locs) {ls : Array Slot} (hl : lv_has ls 8 [(0, .ref b), (1, .ref (ad 0)), (2, .ref (ad 48)), (3, .ref (ad 64)), (4, .int (nI i))]) (kk : ∀ S1 : SS, K S1 → ∀ (H1 : Heap) (locs1 : List Loc), Wh D n0 ad cI cJ [] S1 s H1 locs1 → ∀ ls1 : Array Slot, lv_has ls1 8 [(0, .ref b), (1, .ref (ad 0)), (2, .ref (ad 48)), (3, .ref (ad 64)), (4, .int (nI i))] → W p l e room_1 s m #[.ref b] below meth c H1 locs1 (cl + 2) (sl + 12) Q (F0 m 1908 ls1 [])) : W p l e room_1 s m #[.ref b] below meth c H locs cl sl Q (F0 m 400 ls []) := by
  unfold VL_5 at hV
  refine lv_aload_n C0.x C0.b dL_law_400 rfl (lv_at hl 1 rfl) ?_
  refine r_cV_i (As := []) (rest := []) C0 hw (c_X7_list hV) (cwV 0 C0.ts ngL_law_X7_list rfl rfl rfl hd_X7_list ⟨Nat.le_of_ble_eq_true rfl, Nat.le_of_ble_eq_true rfl⟩) (lg_0 ad cI cJ [] S) rfl rfl hl.1 rfl (Nat.le_of_ble_eq_true rfl) ⟨by omega, by omega⟩ dL_law_401 (fun r1 S2 H locs hV hw => ?_)
  refine lv_aload_n C0.x C0.b dL_law_404 rfl (lv_at hl 2 rfl) ?_
  refine r_cV_i (As := []) (rest := [.int r1]) C0 hw (c_X8_list hV) (cwV 0 C0.ts ngL_law_X8_list rfl rfl rfl hd_X8_list ⟨Nat.le_of_ble_eq_true rfl, Nat.le_of_ble_eq_true rfl⟩) (lg_48 ad cI cJ [] S2) rfl rfl hl.1 rfl (Nat.le_of_ble_eq_true rfl) ⟨by omega, by omega⟩ dL_law_405 (fun r3 S4 H locs hV hw => ?_)
  refine lv_icmp_eq (tgt := 1908) C0.x C0.b dL_law_408 (by decide) (fun c5 => ?_) (fun c5 => ?_)
  · have hV := hV.1 c5
    refine W.widen (k := cl + 2) (n := sl + 12) (by omega) (by omega) ?_
    exact kk _ hV _ _ hw _ (lv_sub hl [0, 1, 2, 3, 4] rfl)
  · have hV := hV.2 c5
    refine lv_iconst (v := 0) C0.x C0.b dL_law_411 (by decide) ?_
    exact hV.elim
def VL_6 (a : Nat → Int32) (S : SS) (K : SS → Prop) : Prop :=
  (V_X7_fraction (((a 1).toInt64 <<< ((32 : Int32).toInt64 &&& 63)) ||| ((a 2).toInt64 &&& (4294967295 : Int64))) (((a 3).toInt64 <<< ((32 : Int32).toInt64 &&& 63)) ||| ((a 4).toInt64 &&& (4294967295 : Int64))) S (fun (r1 : Int32) (S2 : SS) => (V_X8_fraction (((a 1).toInt64 <<< ((32 : Int32).toInt64 &&& 63)) ||| ((a 2).toInt64 &&& (4294967295 : Int64))) (((a 3).toInt64 <<< ((32 : Int32).toInt64 &&& 63)) ||| ((a 4).toInt64 &&& (4294967295 : Int64))) S2 (fun (r3 : Int32) (S4 : SS) => ((r1 = r3 → (K S4)) ∧ (¬ r1 = r3 → False))))))
set_option maxHeartbeats 8000000 in
set_option maxRecDepth 100000 in
theorem lc_6 (C0 : Bd p s m meth c #[.ref b] code 8 ret wsnL_law RL D n0 cI cJ) (hlt : l.stackTraces = false) (hX : va_X b L xs s s.heap) (hbl : b < s.heap.size) (hbA : ¬ fr n0 b) (K : SS → Prop) (hc : cl + 2 ≤ room_1.cells) (hs : sl + 12 ≤ room_1.slots) (hi : i + 6 ≤ L) (hL : L ≤ 3072) (S : SS) (hV : VL_6 (fun j => xs (i + j)) S K) (hw : Wh D n0 ad cI cJ [] S s H locs) {ls : Array Slot} (hl : lv_has ls 8 [(0, .ref b), (1, .ref (ad 0)), (2, .ref (ad 48)), (3, .ref (ad 64)), (4, .int (nI i))]) (kk : ∀ S1 : SS, K S1 → ∀ (H1 : Heap) (locs1 : List Loc), Wh D n0 ad cI cJ [] S1 s H1 locs1 → ∀ ls1 : Array Slot, lv_has ls1 8 [(0, .ref b), (1, .ref (ad 0)), (2, .ref (ad 48)), (3, .ref (ad 64)), (4, .int (nI i))] → W p l e room_1 s m #[.ref b] below meth c H1 locs1 (cl + 2) (sl + 12) Q (F0 m 1908 ls1 [])) : W p l e room_1 s m #[.ref b] below meth c H locs cl sl Q (F0 m 413 ls []) := by
  unfold VL_6 at hV
  refine lv_aload_n C0.x C0.b dL_law_413 rfl (lv_at hl 1 rfl) ?_
  refine lv_aload_n C0.x C0.b dL_law_414 rfl (lv_at hl 0 rfl) ?_
  refine lv_iload C0.x C0.b dL_law_415 (lv_at hl 4 rfl) ?_
  refine lv_iconst (v := 1) C0.x C0.b dL_law_417 (by decide) ?_
  refine lv_iadd C0.x C0.b dL_law_418 ?_
  refine r_scr 1 C0 hX hbl hbA hw (by omega) hL dL_law_419 ?_
  refine lv_i2l C0.x C0.b dL_law_420 rfl ?_
  refine lv_bipush (v := 32) C0.x C0.b dL_law_421 (by decide) ?_
  refine lv_lshl C0.x C0.b dL_law_423 rfl ?_
  refine lv_aload_n C0.x C0.b dL_law_424 rfl (lv_at hl 0 rfl) ?_
  refine lv_iload C0.x C0.b dL_law_425 (lv_at hl 4 rfl) ?_
  refine lv_iconst (v := 2) C0.x C0.b dL_law_427 (by decide) ?_
  refine lv_iadd C0.x C0.b dL_law_428 ?_
  refine r_scr 2 C0 hX hbl hbA hw (by omega) hL dL_law_429 ?_
  refine lv_i2l C0.x C0.b dL_law_430 rfl ?_
  refine lv_ldc2 (v := 4294967295) C0.x C0.b C0.ow (C0.ts _ cw_L_law_58) dL_law_431 ?_
  refine lv_land C0.x C0.b dL_law_434 ?_
  refine lv_lor C0.x C0.b dL_law_435 ?_
  refine lv_aload_n C0.x C0.b dL_law_436 rfl (lv_at hl 0 rfl) ?_
  refine lv_iload C0.x C0.b dL_law_437 (lv_at hl 4 rfl) ?_
  refine lv_iconst (v := 3) C0.x C0.b dL_law_439 (by decide) ?_
  refine lv_iadd C0.x C0.b dL_law_440 ?_
  refine r_scr 3 C0 hX hbl hbA hw (by omega) hL dL_law_441 ?_
  refine lv_i2l C0.x C0.b dL_law_442 rfl ?_
  refine lv_bipush (v := 32) C0.x C0.b dL_law_443 (by decide) ?_
  refine lv_lshl C0.x C0.b dL_law_445 rfl ?_
  refine lv_aload_n C0.x C0.b dL_law_446 rfl (lv_at hl 0 rfl) ?_
  refine lv_iload C0.x C0.b dL_law_447 (lv_at hl 4 rfl) ?_
  refine lv_iconst (v := 4) C0.x C0.b dL_law_449 (by decide) ?_
  refine lv_iadd C0.x C0.b dL_law_450 ?_
  refine r_scr 4 C0 hX hbl hbA hw (by omega) hL dL_law_451 ?_
  refine lv_i2l C0.x C0.b dL_law_452 rfl ?_
  refine lv_ldc2 (v := 4294967295) C0.x C0.b C0.ow (C0.ts _ cw_L_law_58) dL_law_453 ?_
  refine lv_land C0.x C0.b dL_law_456 ?_
  refine lv_lor C0.x C0.b dL_law_457 ?_
  refine r_cV_i (As := [.long (((xs (i + 1)).toInt64 <<< ((32 : Int32).toInt64 &&& 63)) ||| ((xs (i + 2)).toInt64 &&& (4294967295 : Int64))), .long (((xs (i + 3)).toInt64 <<< ((32 : Int32).toInt64 &&& 63)) ||| ((xs (i + 4)).toInt64 &&& (4294967295 : Int64)))]) (rest := []) C0 hw (c_X7_fraction hV) (cwV 2 C0.ts ngL_law_X7_fraction rfl rfl rfl hd_X7_fraction ⟨Nat.le_of_ble_eq_true rfl, Nat.le_of_ble_eq_true rfl⟩) (lg_0 ad cI cJ [] S) rfl rfl hl.1 rfl (Nat.le_of_ble_eq_true rfl) ⟨by omega, by omega⟩ dL_law_458 (fun r1 S2 H locs hV hw => ?_)
  refine lv_aload_n C0.x C0.b dL_law_461 rfl (lv_at hl 2 rfl) ?_
  refine lv_aload_n C0.x C0.b dL_law_462 rfl (lv_at hl 0 rfl) ?_
  refine lv_iload C0.x C0.b dL_law_463 (lv_at hl 4 rfl) ?_
  refine lv_iconst (v := 1) C0.x C0.b dL_law_465 (by decide) ?_
  refine lv_iadd C0.x C0.b dL_law_466 ?_
  refine r_scr 1 C0 hX hbl hbA hw (by omega) hL dL_law_467 ?_
  refine lv_i2l C0.x C0.b dL_law_468 rfl ?_
  refine lv_bipush (v := 32) C0.x C0.b dL_law_469 (by decide) ?_
  refine lv_lshl C0.x C0.b dL_law_471 rfl ?_
  refine lv_aload_n C0.x C0.b dL_law_472 rfl (lv_at hl 0 rfl) ?_
  refine lv_iload C0.x C0.b dL_law_473 (lv_at hl 4 rfl) ?_
  refine lv_iconst (v := 2) C0.x C0.b dL_law_475 (by decide) ?_
  refine lv_iadd C0.x C0.b dL_law_476 ?_
  refine r_scr 2 C0 hX hbl hbA hw (by omega) hL dL_law_477 ?_
  refine lv_i2l C0.x C0.b dL_law_478 rfl ?_
  refine lv_ldc2 (v := 4294967295) C0.x C0.b C0.ow (C0.ts _ cw_L_law_58) dL_law_479 ?_
  refine lv_land C0.x C0.b dL_law_482 ?_
  refine lv_lor C0.x C0.b dL_law_483 ?_
  refine lv_aload_n C0.x C0.b dL_law_484 rfl (lv_at hl 0 rfl) ?_
  refine lv_iload C0.x C0.b dL_law_485 (lv_at hl 4 rfl) ?_
  refine lv_iconst (v := 3) C0.x C0.b dL_law_487 (by decide) ?_
  refine lv_iadd C0.x C0.b dL_law_488 ?_
  refine r_scr 3 C0 hX hbl hbA hw (by omega) hL dL_law_489 ?_
  refine lv_i2l C0.x C0.b dL_law_490 rfl ?_
  refine lv_bipush (v := 32) C0.x C0.b dL_law_491 (by decide) ?_
  refine lv_lshl C0.x C0.b dL_law_493 rfl ?_
  refine lv_aload_n C0.x C0.b dL_law_494 rfl (lv_at hl 0 rfl) ?_
  refine lv_iload C0.x C0.b dL_law_495 (lv_at hl 4 rfl) ?_
  refine lv_iconst (v := 4) C0.x C0.b dL_law_497 (by decide) ?_
  refine lv_iadd C0.x C0.b dL_law_498 ?_
  refine r_scr 4 C0 hX hbl hbA hw (by omega) hL dL_law_499 ?_
  refine lv_i2l C0.x C0.b dL_law_500 rfl ?_
  refine lv_ldc2 (v := 4294967295) C0.x C0.b C0.ow (C0.ts _ cw_L_law_58) dL_law_501 ?_
  refine lv_land C0.x C0.b dL_law_504 ?_
  refine lv_lor C0.x C0.b dL_law_505 ?_
  refine r_cV_i (As := [.long (((xs (i + 1)).toInt64 <<< ((32 : Int32).toInt64 &&& 63)) ||| ((xs (i + 2)).toInt64 &&& (4294967295 : Int64))), .long (((xs (i + 3)).toInt64 <<< ((32 : Int32).toInt64 &&& 63)) ||| ((xs (i + 4)).toInt64 &&& (4294967295 : Int64)))]) (rest := [.int r1]) C0 hw (c_X8_fraction hV) (cwV 2 C0.ts ngL_law_X8_fraction rfl rfl rfl hd_X8_fraction ⟨Nat.le_of_ble_eq_true rfl, Nat.le_of_ble_eq_true rfl⟩) (lg_48 ad cI cJ [] S2) rfl rfl hl.1 rfl (Nat.le_of_ble_eq_true rfl) ⟨by omega, by omega⟩ dL_law_506 (fun r3 S4 H locs hV hw => ?_)
  refine lv_icmp_eq (tgt := 1908) C0.x C0.b dL_law_509 (by decide) (fun c5 => ?_) (fun c5 => ?_)
  · have hV := hV.1 c5
    refine W.widen (k := cl + 2) (n := sl + 12) (by omega) (by omega) ?_
    exact kk _ hV _ _ hw _ (lv_sub hl [0, 1, 2, 3, 4] rfl)
  · have hV := hV.2 c5
    refine lv_iconst (v := 0) C0.x C0.b dL_law_512 (by decide) ?_
    exact hV.elim
def VL_7 (a : Nat → Int32) (S : SS) (K : SS → Prop) : Prop :=
  (V_X7_count (a 1) S (fun (r1 : Int32) (S2 : SS) => (V_X8_count (a 1) S2 (fun (r3 : Int32) (S4 : SS) => ((r1 = r3 → (K S4)) ∧ (¬ r1 = r3 → False))))))
set_option maxHeartbeats 8000000 in
set_option maxRecDepth 100000 in
theorem lc_7 (C0 : Bd p s m meth c #[.ref b] code 8 ret wsnL_law RL D n0 cI cJ) (hlt : l.stackTraces = false) (hX : va_X b L xs s s.heap) (hbl : b < s.heap.size) (hbA : ¬ fr n0 b) (K : SS → Prop) (hc : cl + 2 ≤ room_1.cells) (hs : sl + 12 ≤ room_1.slots) (hi : i + 6 ≤ L) (hL : L ≤ 3072) (S : SS) (hV : VL_7 (fun j => xs (i + j)) S K) (hw : Wh D n0 ad cI cJ [] S s H locs) {ls : Array Slot} (hl : lv_has ls 8 [(0, .ref b), (1, .ref (ad 0)), (2, .ref (ad 48)), (3, .ref (ad 64)), (4, .int (nI i))]) (kk : ∀ S1 : SS, K S1 → ∀ (H1 : Heap) (locs1 : List Loc), Wh D n0 ad cI cJ [] S1 s H1 locs1 → ∀ ls1 : Array Slot, lv_has ls1 8 [(0, .ref b), (1, .ref (ad 0)), (2, .ref (ad 48)), (3, .ref (ad 64)), (4, .int (nI i))] → W p l e room_1 s m #[.ref b] below meth c H1 locs1 (cl + 2) (sl + 12) Q (F0 m 1908 ls1 [])) : W p l e room_1 s m #[.ref b] below meth c H locs cl sl Q (F0 m 514 ls []) := by
  unfold VL_7 at hV
  refine lv_aload_n C0.x C0.b dL_law_514 rfl (lv_at hl 1 rfl) ?_
  refine lv_aload_n C0.x C0.b dL_law_515 rfl (lv_at hl 0 rfl) ?_
  refine lv_iload C0.x C0.b dL_law_516 (lv_at hl 4 rfl) ?_
  refine lv_iconst (v := 1) C0.x C0.b dL_law_518 (by decide) ?_
  refine lv_iadd C0.x C0.b dL_law_519 ?_
  refine r_scr 1 C0 hX hbl hbA hw (by omega) hL dL_law_520 ?_
  refine r_cV_i (As := [.int (xs (i + 1))]) (rest := []) C0 hw (c_X7_count hV) (cwV 1 C0.ts ngL_law_X7_count rfl rfl rfl hd_X7_count ⟨Nat.le_of_ble_eq_true rfl, Nat.le_of_ble_eq_true rfl⟩) (lg_0 ad cI cJ [] S) rfl rfl hl.1 rfl (Nat.le_of_ble_eq_true rfl) ⟨by omega, by omega⟩ dL_law_521 (fun r1 S2 H locs hV hw => ?_)
  refine lv_aload_n C0.x C0.b dL_law_524 rfl (lv_at hl 2 rfl) ?_
  refine lv_aload_n C0.x C0.b dL_law_525 rfl (lv_at hl 0 rfl) ?_
  refine lv_iload C0.x C0.b dL_law_526 (lv_at hl 4 rfl) ?_
  refine lv_iconst (v := 1) C0.x C0.b dL_law_528 (by decide) ?_
  refine lv_iadd C0.x C0.b dL_law_529 ?_
  refine r_scr 1 C0 hX hbl hbA hw (by omega) hL dL_law_530 ?_
  refine r_cV_i (As := [.int (xs (i + 1))]) (rest := [.int r1]) C0 hw (c_X8_count hV) (cwV 1 C0.ts ngL_law_X8_count rfl rfl rfl hd_X8_count ⟨Nat.le_of_ble_eq_true rfl, Nat.le_of_ble_eq_true rfl⟩) (lg_48 ad cI cJ [] S2) rfl rfl hl.1 rfl (Nat.le_of_ble_eq_true rfl) ⟨by omega, by omega⟩ dL_law_531 (fun r3 S4 H locs hV hw => ?_)
  refine lv_icmp_eq (tgt := 1908) C0.x C0.b dL_law_534 (by decide) (fun c5 => ?_) (fun c5 => ?_)
  · have hV := hV.1 c5
    refine W.widen (k := cl + 2) (n := sl + 12) (by omega) (by omega) ?_
    exact kk _ hV _ _ hw _ (lv_sub hl [0, 1, 2, 3, 4] rfl)
  · have hV := hV.2 c5
    refine lv_iconst (v := 0) C0.x C0.b dL_law_537 (by decide) ?_
    exact hV.elim
def VL_8 (a : Nat → Int32) (S : SS) (K : SS → Prop) : Prop :=
  (V_L_told (a 1) (a 2) S (fun (r1 : Int32) (S2 : SS) => (V_X8_told (a 1) (a 2) S2 (fun (r3 : Int64) (S4 : SS) => (V_X8_thrown  S4 (fun (r5 : Int32) (S6 : SS) => ((r5 = r1 → ((r1 = 0 → (vp_in (0 : Int32) 1 ∧ (((gA S6 41 (0 : Int32).toNatClampNeg) = r3 → (K S6)) ∧ (¬ (gA S6 41 (0 : Int32).toNatClampNeg) = r3 → False)))) ∧ (¬ r1 = 0 → (K S6)))) ∧ (¬ r5 = r1 → False))))))))
set_option maxHeartbeats 8000000 in
set_option maxRecDepth 100000 in
theorem lc_8 (C0 : Bd p s m meth c #[.ref b] code 8 ret wsnL_law RL D n0 cI cJ) (hlt : l.stackTraces = false) (hX : va_X b L xs s s.heap) (hbl : b < s.heap.size) (hbA : ¬ fr n0 b) (K : SS → Prop) (hc : cl + 2 ≤ room_1.cells) (hs : sl + 12 ≤ room_1.slots) (hi : i + 6 ≤ L) (hL : L ≤ 3072) (S : SS) (hV : VL_8 (fun j => xs (i + j)) S K) (hw : Wh D n0 ad cI cJ [] S s H locs) {ls : Array Slot} (hl : lv_has ls 8 [(0, .ref b), (1, .ref (ad 0)), (2, .ref (ad 48)), (3, .ref (ad 64)), (4, .int (nI i))]) (kk : ∀ S1 : SS, K S1 → ∀ (H1 : Heap) (locs1 : List Loc), Wh D n0 ad cI cJ [] S1 s H1 locs1 → ∀ ls1 : Array Slot, lv_has ls1 8 [(0, .ref b), (1, .ref (ad 0)), (2, .ref (ad 48)), (3, .ref (ad 64)), (4, .int (nI i))] → W p l e room_1 s m #[.ref b] below meth c H1 locs1 (cl + 2) (sl + 12) Q (F0 m 1908 ls1 [])) : W p l e room_1 s m #[.ref b] below meth c H locs cl sl Q (F0 m 539 ls []) := by
  unfold VL_8 at hV
  refine lv_aload_n C0.x C0.b dL_law_539 rfl (lv_at hl 1 rfl) ?_
  refine lv_aload_n C0.x C0.b dL_law_540 rfl (lv_at hl 0 rfl) ?_
  refine lv_iload C0.x C0.b dL_law_541 (lv_at hl 4 rfl) ?_
  refine lv_iconst (v := 1) C0.x C0.b dL_law_543 (by decide) ?_
  refine lv_iadd C0.x C0.b dL_law_544 ?_
  refine r_scr 1 C0 hX hbl hbA hw (by omega) hL dL_law_545 ?_
  refine lv_aload_n C0.x C0.b dL_law_546 rfl (lv_at hl 0 rfl) ?_
  refine lv_iload C0.x C0.b dL_law_547 (lv_at hl 4 rfl) ?_
  refine lv_iconst (v := 2) C0.x C0.b dL_law_549 (by decide) ?_
  refine lv_iadd C0.x C0.b dL_law_550 ?_
  refine r_scr 2 C0 hX hbl hbA hw (by omega) hL dL_law_551 ?_
  refine lv_aload_n C0.x C0.b dL_law_552 rfl (lv_at hl 3 rfl) ?_
  refine r_cSW_i (As := [.ref (ad 0), .int (xs (i + 1)), .int (xs (i + 2)), .ref (ad 64)]) (rest := []) C0 hw (c_L_told hlt hV) (vx_cwSW 4 C0.ts ngL_law_L_told rfl rfl rfl hd_L_told ⟨Nat.le_of_ble_eq_true rfl, Nat.le_of_ble_eq_true rfl⟩) rfl hl.1 rfl (Nat.le_of_ble_eq_true rfl) ⟨by omega, by omega⟩ dL_law_553 (fun r1 S2 H locs hV hw => ?_)
  refine lv_istore (lv' := [(5, .int r1), (0, .ref b), (1, .ref (ad 0)), (2, .ref (ad 48)), (3, .ref (ad 64)), (4, .int (nI i))]) C0.x C0.b dL_law_556 hl (by decide) rfl (fun ls hl => ?_)
  refine lv_aload_n C0.x C0.b dL_law_558 rfl (lv_at hl 3 rfl) ?_
  refine lv_aload_n C0.x C0.b dL_law_559 rfl (lv_at hl 1 rfl) ?_
  refine lv_iload C0.x C0.b dL_law_560 (lv_at hl 5 rfl) ?_
  refine lv_iconst (v := 1) C0.x C0.b dL_law_562 (by decide) ?_
  refine lv_iadd C0.x C0.b dL_law_563 ?_
  refine r_scr 1 C0 hX hbl hbA hw (by omega) hL dL_law_564 ?_
  refine lv_aload_n C0.x C0.b dL_law_565 rfl (lv_at hl 1 rfl) ?_
  refine lv_iload C0.x C0.b dL_law_566 (lv_at hl 5 rfl) ?_
  refine lv_iconst (v := 2) C0.x C0.b dL_law_568 (by decide) ?_
  refine lv_iadd C0.x C0.b dL_law_569 ?_
  refine r_scr 2 C0 hX hbl hbA hw (by omega) hL dL_law_570 ?_
  refine r_cV_l (As := [.int (xs (i + 1)), .int (xs (i + 2))]) (rest := []) C0 hw (c_X8_told hV) (cwV 2 C0.ts ngL_law_X8_told rfl rfl rfl hd_X8_told ⟨Nat.le_of_ble_eq_true rfl, Nat.le_of_ble_eq_true rfl⟩) (lg_48 ad cI cJ [] S2) rfl rfl hl.1 rfl (Nat.le_of_ble_eq_true rfl) ⟨by omega, by omega⟩ dL_law_571 (fun r3 S4 H locs hV hw => ?_)
  refine lv_lstore (lv' := [(6, .long r3), (5, .int r1), (0, .ref b), (1, .ref (ad 0)), (2, .ref (ad 48)), (3, .ref (ad 64)), (4, .int (nI i))]) C0.x C0.b dL_law_574 hl (by decide) rfl (fun ls hl => ?_)
  refine lv_aload_n C0.x C0.b dL_law_576 rfl (lv_at hl 4 rfl) ?_
  refine r_cV_i (As := []) (rest := []) C0 hw (c_X8_thrown hV) (cwV 0 C0.ts ngL_law_X8_thrown rfl rfl rfl hd_X8_thrown ⟨Nat.le_of_ble_eq_true rfl, Nat.le_of_ble_eq_true rfl⟩) (lg_48 ad cI cJ [] S4) rfl rfl hl.1 rfl (Nat.le_of_ble_eq_true rfl) ⟨by omega, by omega⟩ dL_law_577 (fun r5 S6 H locs hV hw => ?_)
  refine lv_iload C0.x C0.b dL_law_580 (lv_at hl 1 rfl) ?_
  refine lv_icmp_eq (tgt := 587) C0.x C0.b dL_law_582 (by decide) (fun c7 => ?_) (fun c7 => ?_)
  · have hV := hV.1 c7
    refine lv_iload C0.x C0.b dL_law_587 (lv_at hl 1 rfl) ?_
    refine lv_if_ne (tgt := 603) C0.x C0.b dL_law_589 (by decide) (fun c8 => ?_) (fun c8 => ?_)
    · have hV := hV.2 c8
      refine lv_goto (tgt := 1908) C0.x C0.b dL_law_603 (by decide) ?_
      refine W.widen (k := cl + 2) (n := sl + 12) (by omega) (by omega) ?_
      exact kk _ hV _ _ hw _ (lv_sub hl [2, 3, 4, 5, 6] rfl)
    · have hV := hV.1 c8
      refine lv_aload_n C0.x C0.b dL_law_592 rfl (lv_at hl 5 rfl) ?_
      refine lv_iconst (v := 0) C0.x C0.b dL_law_593 (by decide) ?_
      refine r_lald C0 hw (lg_64 ad cI cJ [] S6) hV.1 dL_law_594 ?_
      have hV := hV.2
      refine lv_lload C0.x C0.b dL_law_595 (lv_at hl 0 rfl) ?_
      refine r_lcmp C0 dL_law_597 ?_
      refine lv_if_eq (tgt := 603) C0.x C0.b dL_law_598 (by decide) (fun c9 => ?_) (fun c9 => ?_)
      · have hV := hV.1 ((lc_eq _ _).mp c9)
        refine lv_goto (tgt := 1908) C0.x C0.b dL_law_603 (by decide) ?_
        refine W.widen (k := cl + 2) (n := sl + 12) (by omega) (by omega) ?_
        exact kk _ hV _ _ hw _ (lv_sub hl [2, 3, 4, 5, 6] rfl)
      · have hV := hV.2 (fun h => c9 ((lc_eq _ _).mpr h))
        refine lv_iconst (v := 0) C0.x C0.b dL_law_601 (by decide) ?_
        exact hV.elim
  · have hV := hV.2 c7
    refine lv_iconst (v := 0) C0.x C0.b dL_law_585 (by decide) ?_
    exact hV.elim
def VL_9 (a : Nat → Int32) (S : SS) (K : SS → Prop) : Prop :=
  (V_L_step (((a 1).toInt64 <<< ((32 : Int32).toInt64 &&& 63)) ||| ((a 2).toInt64 &&& (4294967295 : Int64))) S (fun (r1 : Int32) (S2 : SS) => (V_X8_step (((a 1).toInt64 <<< ((32 : Int32).toInt64 &&& 63)) ||| ((a 2).toInt64 &&& (4294967295 : Int64))) S2 (fun (r3 : Int64) (S4 : SS) => (V_X8_thrown  S4 (fun (r5 : Int32) (S6 : SS) => ((r5 = r1 → ((r1 = 0 → (vp_in (0 : Int32) 1 ∧ (((gA S6 41 (0 : Int32).toNatClampNeg) = r3 → (K S6)) ∧ (¬ (gA S6 41 (0 : Int32).toNatClampNeg) = r3 → False)))) ∧ (¬ r1 = 0 → (K S6)))) ∧ (¬ r5 = r1 → False))))))))
set_option maxHeartbeats 8000000 in
set_option maxRecDepth 100000 in
theorem lc_9 (C0 : Bd p s m meth c #[.ref b] code 8 ret wsnL_law RL D n0 cI cJ) (hlt : l.stackTraces = false) (hX : va_X b L xs s s.heap) (hbl : b < s.heap.size) (hbA : ¬ fr n0 b) (K : SS → Prop) (hc : cl + 2 ≤ room_1.cells) (hs : sl + 12 ≤ room_1.slots) (hi : i + 6 ≤ L) (hL : L ≤ 3072) (S : SS) (hV : VL_9 (fun j => xs (i + j)) S K) (hw : Wh D n0 ad cI cJ [] S s H locs) {ls : Array Slot} (hl : lv_has ls 8 [(0, .ref b), (1, .ref (ad 0)), (2, .ref (ad 48)), (3, .ref (ad 64)), (4, .int (nI i))]) (kk : ∀ S1 : SS, K S1 → ∀ (H1 : Heap) (locs1 : List Loc), Wh D n0 ad cI cJ [] S1 s H1 locs1 → ∀ ls1 : Array Slot, lv_has ls1 8 [(0, .ref b), (1, .ref (ad 0)), (2, .ref (ad 48)), (3, .ref (ad 64)), (4, .int (nI i))] → W p l e room_1 s m #[.ref b] below meth c H1 locs1 (cl + 2) (sl + 12) Q (F0 m 1908 ls1 [])) : W p l e room_1 s m #[.ref b] below meth c H locs cl sl Q (F0 m 606 ls []) := by
  unfold VL_9 at hV
  refine lv_aload_n C0.x C0.b dL_law_606 rfl (lv_at hl 1 rfl) ?_
  refine lv_aload_n C0.x C0.b dL_law_607 rfl (lv_at hl 0 rfl) ?_
  refine lv_iload C0.x C0.b dL_law_608 (lv_at hl 4 rfl) ?_
  refine lv_iconst (v := 1) C0.x C0.b dL_law_610 (by decide) ?_
  refine lv_iadd C0.x C0.b dL_law_611 ?_
  refine r_scr 1 C0 hX hbl hbA hw (by omega) hL dL_law_612 ?_
  refine lv_i2l C0.x C0.b dL_law_613 rfl ?_
  refine lv_bipush (v := 32) C0.x C0.b dL_law_614 (by decide) ?_
  refine lv_lshl C0.x C0.b dL_law_616 rfl ?_
  refine lv_aload_n C0.x C0.b dL_law_617 rfl (lv_at hl 0 rfl) ?_
  refine lv_iload C0.x C0.b dL_law_618 (lv_at hl 4 rfl) ?_
  refine lv_iconst (v := 2) C0.x C0.b dL_law_620 (by decide) ?_
  refine lv_iadd C0.x C0.b dL_law_621 ?_
  refine r_scr 2 C0 hX hbl hbA hw (by omega) hL dL_law_622 ?_
  refine lv_i2l C0.x C0.b dL_law_623 rfl ?_
  refine lv_ldc2 (v := 4294967295) C0.x C0.b C0.ow (C0.ts _ cw_L_law_58) dL_law_624 ?_
  refine lv_land C0.x C0.b dL_law_627 ?_
  refine lv_lor C0.x C0.b dL_law_628 ?_
  refine lv_aload_n C0.x C0.b dL_law_629 rfl (lv_at hl 3 rfl) ?_
  refine r_cSW_i (As := [.ref (ad 0), .long (((xs (i + 1)).toInt64 <<< ((32 : Int32).toInt64 &&& 63)) ||| ((xs (i + 2)).toInt64 &&& (4294967295 : Int64))), .ref (ad 64)]) (rest := []) C0 hw (c_L_step hlt hV) (vx_cwSW 3 C0.ts ngL_law_L_step rfl rfl rfl hd_L_step ⟨Nat.le_of_ble_eq_true rfl, Nat.le_of_ble_eq_true rfl⟩) rfl hl.1 rfl (Nat.le_of_ble_eq_true rfl) ⟨by omega, by omega⟩ dL_law_630 (fun r1 S2 H locs hV hw => ?_)
  refine lv_istore (lv' := [(5, .int r1), (0, .ref b), (1, .ref (ad 0)), (2, .ref (ad 48)), (3, .ref (ad 64)), (4, .int (nI i))]) C0.x C0.b dL_law_633 hl (by decide) rfl (fun ls hl => ?_)
  refine lv_aload_n C0.x C0.b dL_law_635 rfl (lv_at hl 3 rfl) ?_
  refine lv_aload_n C0.x C0.b dL_law_636 rfl (lv_at hl 1 rfl) ?_
  refine lv_iload C0.x C0.b dL_law_637 (lv_at hl 5 rfl) ?_
  refine lv_iconst (v := 1) C0.x C0.b dL_law_639 (by decide) ?_
  refine lv_iadd C0.x C0.b dL_law_640 ?_
  refine r_scr 1 C0 hX hbl hbA hw (by omega) hL dL_law_641 ?_
  refine lv_i2l C0.x C0.b dL_law_642 rfl ?_
  refine lv_bipush (v := 32) C0.x C0.b dL_law_643 (by decide) ?_
  refine lv_lshl C0.x C0.b dL_law_645 rfl ?_
  refine lv_aload_n C0.x C0.b dL_law_646 rfl (lv_at hl 1 rfl) ?_
  refine lv_iload C0.x C0.b dL_law_647 (lv_at hl 5 rfl) ?_
  refine lv_iconst (v := 2) C0.x C0.b dL_law_649 (by decide) ?_
  refine lv_iadd C0.x C0.b dL_law_650 ?_
  refine r_scr 2 C0 hX hbl hbA hw (by omega) hL dL_law_651 ?_
  refine lv_i2l C0.x C0.b dL_law_652 rfl ?_
  refine lv_ldc2 (v := 4294967295) C0.x C0.b C0.ow (C0.ts _ cw_L_law_58) dL_law_653 ?_
  refine lv_land C0.x C0.b dL_law_656 ?_
  refine lv_lor C0.x C0.b dL_law_657 ?_
  refine r_cV_l (As := [.long (((xs (i + 1)).toInt64 <<< ((32 : Int32).toInt64 &&& 63)) ||| ((xs (i + 2)).toInt64 &&& (4294967295 : Int64)))]) (rest := []) C0 hw (c_X8_step hV) (cwV 1 C0.ts ngL_law_X8_step rfl rfl rfl hd_X8_step ⟨Nat.le_of_ble_eq_true rfl, Nat.le_of_ble_eq_true rfl⟩) (lg_48 ad cI cJ [] S2) rfl rfl hl.1 rfl (Nat.le_of_ble_eq_true rfl) ⟨by omega, by omega⟩ dL_law_658 (fun r3 S4 H locs hV hw => ?_)
  refine lv_lstore (lv' := [(6, .long r3), (5, .int r1), (0, .ref b), (1, .ref (ad 0)), (2, .ref (ad 48)), (3, .ref (ad 64)), (4, .int (nI i))]) C0.x C0.b dL_law_661 hl (by decide) rfl (fun ls hl => ?_)
  refine lv_aload_n C0.x C0.b dL_law_663 rfl (lv_at hl 4 rfl) ?_
  refine r_cV_i (As := []) (rest := []) C0 hw (c_X8_thrown hV) (cwV 0 C0.ts ngL_law_X8_thrown rfl rfl rfl hd_X8_thrown ⟨Nat.le_of_ble_eq_true rfl, Nat.le_of_ble_eq_true rfl⟩) (lg_48 ad cI cJ [] S4) rfl rfl hl.1 rfl (Nat.le_of_ble_eq_true rfl) ⟨by omega, by omega⟩ dL_law_664 (fun r5 S6 H locs hV hw => ?_)
  refine lv_iload C0.x C0.b dL_law_667 (lv_at hl 1 rfl) ?_
  refine lv_icmp_eq (tgt := 674) C0.x C0.b dL_law_669 (by decide) (fun c7 => ?_) (fun c7 => ?_)
  · have hV := hV.1 c7
    refine lv_iload C0.x C0.b dL_law_674 (lv_at hl 1 rfl) ?_
    refine lv_if_ne (tgt := 690) C0.x C0.b dL_law_676 (by decide) (fun c8 => ?_) (fun c8 => ?_)
    · have hV := hV.2 c8
      refine lv_goto (tgt := 1908) C0.x C0.b dL_law_690 (by decide) ?_
      refine W.widen (k := cl + 2) (n := sl + 12) (by omega) (by omega) ?_
      exact kk _ hV _ _ hw _ (lv_sub hl [2, 3, 4, 5, 6] rfl)
    · have hV := hV.1 c8
      refine lv_aload_n C0.x C0.b dL_law_679 rfl (lv_at hl 5 rfl) ?_
      refine lv_iconst (v := 0) C0.x C0.b dL_law_680 (by decide) ?_
      refine r_lald C0 hw (lg_64 ad cI cJ [] S6) hV.1 dL_law_681 ?_
      have hV := hV.2
      refine lv_lload C0.x C0.b dL_law_682 (lv_at hl 0 rfl) ?_
      refine r_lcmp C0 dL_law_684 ?_
      refine lv_if_eq (tgt := 690) C0.x C0.b dL_law_685 (by decide) (fun c9 => ?_) (fun c9 => ?_)
      · have hV := hV.1 ((lc_eq _ _).mp c9)
        refine lv_goto (tgt := 1908) C0.x C0.b dL_law_690 (by decide) ?_
        refine W.widen (k := cl + 2) (n := sl + 12) (by omega) (by omega) ?_
        exact kk _ hV _ _ hw _ (lv_sub hl [2, 3, 4, 5, 6] rfl)
      · have hV := hV.2 (fun h => c9 ((lc_eq _ _).mpr h))
        refine lv_iconst (v := 0) C0.x C0.b dL_law_688 (by decide) ?_
        exact hV.elim
  · have hV := hV.2 c7
    refine lv_iconst (v := 0) C0.x C0.b dL_law_672 (by decide) ?_
    exact hV.elim
def VL_10 (a : Nat → Int32) (S : SS) (K : SS → Prop) : Prop :=
  (V_L_run (((a 1).toInt64 <<< ((32 : Int32).toInt64 &&& 63)) ||| ((a 2).toInt64 &&& (4294967295 : Int64))) (a 3) S (fun (r1 : Int32) (S2 : SS) => (V_X8_run (((a 1).toInt64 <<< ((32 : Int32).toInt64 &&& 63)) ||| ((a 2).toInt64 &&& (4294967295 : Int64))) (a 3) S2 (fun (r3 : Int64) (S4 : SS) => (V_X8_thrown  S4 (fun (r5 : Int32) (S6 : SS) => ((r5 = r1 → ((r1 = 0 → (vp_in (0 : Int32) 1 ∧ (((gA S6 41 (0 : Int32).toNatClampNeg) = r3 → (K S6)) ∧ (¬ (gA S6 41 (0 : Int32).toNatClampNeg) = r3 → False)))) ∧ (¬ r1 = 0 → (K S6)))) ∧ (¬ r5 = r1 → False))))))))
set_option maxHeartbeats 8000000 in
set_option maxRecDepth 100000 in
theorem lc_10 (C0 : Bd p s m meth c #[.ref b] code 8 ret wsnL_law RL D n0 cI cJ) (hlt : l.stackTraces = false) (hX : va_X b L xs s s.heap) (hbl : b < s.heap.size) (hbA : ¬ fr n0 b) (K : SS → Prop) (hc : cl + 2 ≤ room_1.cells) (hs : sl + 12 ≤ room_1.slots) (hi : i + 6 ≤ L) (hL : L ≤ 3072) (S : SS) (hV : VL_10 (fun j => xs (i + j)) S K) (hw : Wh D n0 ad cI cJ [] S s H locs) {ls : Array Slot} (hl : lv_has ls 8 [(0, .ref b), (1, .ref (ad 0)), (2, .ref (ad 48)), (3, .ref (ad 64)), (4, .int (nI i))]) (kk : ∀ S1 : SS, K S1 → ∀ (H1 : Heap) (locs1 : List Loc), Wh D n0 ad cI cJ [] S1 s H1 locs1 → ∀ ls1 : Array Slot, lv_has ls1 8 [(0, .ref b), (1, .ref (ad 0)), (2, .ref (ad 48)), (3, .ref (ad 64)), (4, .int (nI i))] → W p l e room_1 s m #[.ref b] below meth c H1 locs1 (cl + 2) (sl + 12) Q (F0 m 1908 ls1 [])) : W p l e room_1 s m #[.ref b] below meth c H locs cl sl Q (F0 m 693 ls []) := by
  unfold VL_10 at hV
  refine lv_aload_n C0.x C0.b dL_law_693 rfl (lv_at hl 1 rfl) ?_
  refine lv_aload_n C0.x C0.b dL_law_694 rfl (lv_at hl 0 rfl) ?_
  refine lv_iload C0.x C0.b dL_law_695 (lv_at hl 4 rfl) ?_
  refine lv_iconst (v := 1) C0.x C0.b dL_law_697 (by decide) ?_
  refine lv_iadd C0.x C0.b dL_law_698 ?_
  refine r_scr 1 C0 hX hbl hbA hw (by omega) hL dL_law_699 ?_
  refine lv_i2l C0.x C0.b dL_law_700 rfl ?_
  refine lv_bipush (v := 32) C0.x C0.b dL_law_701 (by decide) ?_
  refine lv_lshl C0.x C0.b dL_law_703 rfl ?_
  refine lv_aload_n C0.x C0.b dL_law_704 rfl (lv_at hl 0 rfl) ?_
  refine lv_iload C0.x C0.b dL_law_705 (lv_at hl 4 rfl) ?_
  refine lv_iconst (v := 2) C0.x C0.b dL_law_707 (by decide) ?_
  refine lv_iadd C0.x C0.b dL_law_708 ?_
  refine r_scr 2 C0 hX hbl hbA hw (by omega) hL dL_law_709 ?_
  refine lv_i2l C0.x C0.b dL_law_710 rfl ?_
  refine lv_ldc2 (v := 4294967295) C0.x C0.b C0.ow (C0.ts _ cw_L_law_58) dL_law_711 ?_
  refine lv_land C0.x C0.b dL_law_714 ?_
  refine lv_lor C0.x C0.b dL_law_715 ?_
  refine lv_aload_n C0.x C0.b dL_law_716 rfl (lv_at hl 0 rfl) ?_
  refine lv_iload C0.x C0.b dL_law_717 (lv_at hl 4 rfl) ?_
  refine lv_iconst (v := 3) C0.x C0.b dL_law_719 (by decide) ?_
  refine lv_iadd C0.x C0.b dL_law_720 ?_
  refine r_scr 3 C0 hX hbl hbA hw (by omega) hL dL_law_721 ?_
  refine lv_aload_n C0.x C0.b dL_law_722 rfl (lv_at hl 3 rfl) ?_
  refine r_cSW_i (As := [.ref (ad 0), .long (((xs (i + 1)).toInt64 <<< ((32 : Int32).toInt64 &&& 63)) ||| ((xs (i + 2)).toInt64 &&& (4294967295 : Int64))), .int (xs (i + 3)), .ref (ad 64)]) (rest := []) C0 hw (c_L_run hlt hV) (vx_cwSW 4 C0.ts ngL_law_L_run rfl rfl rfl hd_L_run ⟨Nat.le_of_ble_eq_true rfl, Nat.le_of_ble_eq_true rfl⟩) rfl hl.1 rfl (Nat.le_of_ble_eq_true rfl) ⟨by omega, by omega⟩ dL_law_723 (fun r1 S2 H locs hV hw => ?_)
  refine lv_istore (lv' := [(5, .int r1), (0, .ref b), (1, .ref (ad 0)), (2, .ref (ad 48)), (3, .ref (ad 64)), (4, .int (nI i))]) C0.x C0.b dL_law_726 hl (by decide) rfl (fun ls hl => ?_)
  refine lv_aload_n C0.x C0.b dL_law_728 rfl (lv_at hl 3 rfl) ?_
  refine lv_aload_n C0.x C0.b dL_law_729 rfl (lv_at hl 1 rfl) ?_
  refine lv_iload C0.x C0.b dL_law_730 (lv_at hl 5 rfl) ?_
  refine lv_iconst (v := 1) C0.x C0.b dL_law_732 (by decide) ?_
  refine lv_iadd C0.x C0.b dL_law_733 ?_
  refine r_scr 1 C0 hX hbl hbA hw (by omega) hL dL_law_734 ?_
  refine lv_i2l C0.x C0.b dL_law_735 rfl ?_
  refine lv_bipush (v := 32) C0.x C0.b dL_law_736 (by decide) ?_
  refine lv_lshl C0.x C0.b dL_law_738 rfl ?_
  refine lv_aload_n C0.x C0.b dL_law_739 rfl (lv_at hl 1 rfl) ?_
  refine lv_iload C0.x C0.b dL_law_740 (lv_at hl 5 rfl) ?_
  refine lv_iconst (v := 2) C0.x C0.b dL_law_742 (by decide) ?_
  refine lv_iadd C0.x C0.b dL_law_743 ?_
  refine r_scr 2 C0 hX hbl hbA hw (by omega) hL dL_law_744 ?_
  refine lv_i2l C0.x C0.b dL_law_745 rfl ?_
  refine lv_ldc2 (v := 4294967295) C0.x C0.b C0.ow (C0.ts _ cw_L_law_58) dL_law_746 ?_
  refine lv_land C0.x C0.b dL_law_749 ?_
  refine lv_lor C0.x C0.b dL_law_750 ?_
  refine lv_aload_n C0.x C0.b dL_law_751 rfl (lv_at hl 1 rfl) ?_
  refine lv_iload C0.x C0.b dL_law_752 (lv_at hl 5 rfl) ?_
  refine lv_iconst (v := 3) C0.x C0.b dL_law_754 (by decide) ?_
  refine lv_iadd C0.x C0.b dL_law_755 ?_
  refine r_scr 3 C0 hX hbl hbA hw (by omega) hL dL_law_756 ?_
  refine r_cV_l (As := [.long (((xs (i + 1)).toInt64 <<< ((32 : Int32).toInt64 &&& 63)) ||| ((xs (i + 2)).toInt64 &&& (4294967295 : Int64))), .int (xs (i + 3))]) (rest := []) C0 hw (c_X8_run hV) (cwV 2 C0.ts ngL_law_X8_run rfl rfl rfl hd_X8_run ⟨Nat.le_of_ble_eq_true rfl, Nat.le_of_ble_eq_true rfl⟩) (lg_48 ad cI cJ [] S2) rfl rfl hl.1 rfl (Nat.le_of_ble_eq_true rfl) ⟨by omega, by omega⟩ dL_law_757 (fun r3 S4 H locs hV hw => ?_)
  refine lv_lstore (lv' := [(6, .long r3), (5, .int r1), (0, .ref b), (1, .ref (ad 0)), (2, .ref (ad 48)), (3, .ref (ad 64)), (4, .int (nI i))]) C0.x C0.b dL_law_760 hl (by decide) rfl (fun ls hl => ?_)
  refine lv_aload_n C0.x C0.b dL_law_762 rfl (lv_at hl 4 rfl) ?_
  refine r_cV_i (As := []) (rest := []) C0 hw (c_X8_thrown hV) (cwV 0 C0.ts ngL_law_X8_thrown rfl rfl rfl hd_X8_thrown ⟨Nat.le_of_ble_eq_true rfl, Nat.le_of_ble_eq_true rfl⟩) (lg_48 ad cI cJ [] S4) rfl rfl hl.1 rfl (Nat.le_of_ble_eq_true rfl) ⟨by omega, by omega⟩ dL_law_763 (fun r5 S6 H locs hV hw => ?_)
  refine lv_iload C0.x C0.b dL_law_766 (lv_at hl 1 rfl) ?_
  refine lv_icmp_eq (tgt := 773) C0.x C0.b dL_law_768 (by decide) (fun c7 => ?_) (fun c7 => ?_)
  · have hV := hV.1 c7
    refine lv_iload C0.x C0.b dL_law_773 (lv_at hl 1 rfl) ?_
    refine lv_if_ne (tgt := 789) C0.x C0.b dL_law_775 (by decide) (fun c8 => ?_) (fun c8 => ?_)
    · have hV := hV.2 c8
      refine lv_goto (tgt := 1908) C0.x C0.b dL_law_789 (by decide) ?_
      refine W.widen (k := cl + 2) (n := sl + 12) (by omega) (by omega) ?_
      exact kk _ hV _ _ hw _ (lv_sub hl [2, 3, 4, 5, 6] rfl)
    · have hV := hV.1 c8
      refine lv_aload_n C0.x C0.b dL_law_778 rfl (lv_at hl 5 rfl) ?_
      refine lv_iconst (v := 0) C0.x C0.b dL_law_779 (by decide) ?_
      refine r_lald C0 hw (lg_64 ad cI cJ [] S6) hV.1 dL_law_780 ?_
      have hV := hV.2
      refine lv_lload C0.x C0.b dL_law_781 (lv_at hl 0 rfl) ?_
      refine r_lcmp C0 dL_law_783 ?_
      refine lv_if_eq (tgt := 789) C0.x C0.b dL_law_784 (by decide) (fun c9 => ?_) (fun c9 => ?_)
      · have hV := hV.1 ((lc_eq _ _).mp c9)
        refine lv_goto (tgt := 1908) C0.x C0.b dL_law_789 (by decide) ?_
        refine W.widen (k := cl + 2) (n := sl + 12) (by omega) (by omega) ?_
        exact kk _ hV _ _ hw _ (lv_sub hl [2, 3, 4, 5, 6] rfl)
      · have hV := hV.2 (fun h => c9 ((lc_eq _ _).mpr h))
        refine lv_iconst (v := 0) C0.x C0.b dL_law_787 (by decide) ?_
        exact hV.elim
  · have hV := hV.2 c7
    refine lv_iconst (v := 0) C0.x C0.b dL_law_771 (by decide) ?_
    exact hV.elim
def VL_11 (a : Nat → Int32) (S : SS) (K : SS → Prop) : Prop :=
  (V_X7_until (((a 1).toInt64 <<< ((32 : Int32).toInt64 &&& 63)) ||| ((a 2).toInt64 &&& (4294967295 : Int64))) (((a 3).toInt64 <<< ((32 : Int32).toInt64 &&& 63)) ||| ((a 4).toInt64 &&& (4294967295 : Int64))) (a 5) S (fun (r1 : Int32) (S2 : SS) => (V_X8_until (((a 1).toInt64 <<< ((32 : Int32).toInt64 &&& 63)) ||| ((a 2).toInt64 &&& (4294967295 : Int64))) (((a 3).toInt64 <<< ((32 : Int32).toInt64 &&& 63)) ||| ((a 4).toInt64 &&& (4294967295 : Int64))) (a 5) S2 (fun (r3 : Int32) (S4 : SS) => ((r1 = r3 → (K S4)) ∧ (¬ r1 = r3 → False))))))
set_option maxHeartbeats 8000000 in
set_option maxRecDepth 100000 in
theorem lc_11 (C0 : Bd p s m meth c #[.ref b] code 8 ret wsnL_law RL D n0 cI cJ) (hlt : l.stackTraces = false) (hX : va_X b L xs s s.heap) (hbl : b < s.heap.size) (hbA : ¬ fr n0 b) (K : SS → Prop) (hc : cl + 2 ≤ room_1.cells) (hs : sl + 12 ≤ room_1.slots) (hi : i + 6 ≤ L) (hL : L ≤ 3072) (S : SS) (hV : VL_11 (fun j => xs (i + j)) S K) (hw : Wh D n0 ad cI cJ [] S s H locs) {ls : Array Slot} (hl : lv_has ls 8 [(0, .ref b), (1, .ref (ad 0)), (2, .ref (ad 48)), (3, .ref (ad 64)), (4, .int (nI i))]) (kk : ∀ S1 : SS, K S1 → ∀ (H1 : Heap) (locs1 : List Loc), Wh D n0 ad cI cJ [] S1 s H1 locs1 → ∀ ls1 : Array Slot, lv_has ls1 8 [(0, .ref b), (1, .ref (ad 0)), (2, .ref (ad 48)), (3, .ref (ad 64)), (4, .int (nI i))] → W p l e room_1 s m #[.ref b] below meth c H1 locs1 (cl + 2) (sl + 12) Q (F0 m 1908 ls1 [])) : W p l e room_1 s m #[.ref b] below meth c H locs cl sl Q (F0 m 792 ls []) := by
  unfold VL_11 at hV
  refine lv_aload_n C0.x C0.b dL_law_792 rfl (lv_at hl 1 rfl) ?_
  refine lv_aload_n C0.x C0.b dL_law_793 rfl (lv_at hl 0 rfl) ?_
  refine lv_iload C0.x C0.b dL_law_794 (lv_at hl 4 rfl) ?_
  refine lv_iconst (v := 1) C0.x C0.b dL_law_796 (by decide) ?_
  refine lv_iadd C0.x C0.b dL_law_797 ?_
  refine r_scr 1 C0 hX hbl hbA hw (by omega) hL dL_law_798 ?_
  refine lv_i2l C0.x C0.b dL_law_799 rfl ?_
  refine lv_bipush (v := 32) C0.x C0.b dL_law_800 (by decide) ?_
  refine lv_lshl C0.x C0.b dL_law_802 rfl ?_
  refine lv_aload_n C0.x C0.b dL_law_803 rfl (lv_at hl 0 rfl) ?_
  refine lv_iload C0.x C0.b dL_law_804 (lv_at hl 4 rfl) ?_
  refine lv_iconst (v := 2) C0.x C0.b dL_law_806 (by decide) ?_
  refine lv_iadd C0.x C0.b dL_law_807 ?_
  refine r_scr 2 C0 hX hbl hbA hw (by omega) hL dL_law_808 ?_
  refine lv_i2l C0.x C0.b dL_law_809 rfl ?_
  refine lv_ldc2 (v := 4294967295) C0.x C0.b C0.ow (C0.ts _ cw_L_law_58) dL_law_810 ?_
  refine lv_land C0.x C0.b dL_law_813 ?_
  refine lv_lor C0.x C0.b dL_law_814 ?_
  refine lv_aload_n C0.x C0.b dL_law_815 rfl (lv_at hl 0 rfl) ?_
  refine lv_iload C0.x C0.b dL_law_816 (lv_at hl 4 rfl) ?_
  refine lv_iconst (v := 3) C0.x C0.b dL_law_818 (by decide) ?_
  refine lv_iadd C0.x C0.b dL_law_819 ?_
  refine r_scr 3 C0 hX hbl hbA hw (by omega) hL dL_law_820 ?_
  refine lv_i2l C0.x C0.b dL_law_821 rfl ?_
  refine lv_bipush (v := 32) C0.x C0.b dL_law_822 (by decide) ?_
  refine lv_lshl C0.x C0.b dL_law_824 rfl ?_
  refine lv_aload_n C0.x C0.b dL_law_825 rfl (lv_at hl 0 rfl) ?_
  refine lv_iload C0.x C0.b dL_law_826 (lv_at hl 4 rfl) ?_
  refine lv_iconst (v := 4) C0.x C0.b dL_law_828 (by decide) ?_
  refine lv_iadd C0.x C0.b dL_law_829 ?_
  refine r_scr 4 C0 hX hbl hbA hw (by omega) hL dL_law_830 ?_
  refine lv_i2l C0.x C0.b dL_law_831 rfl ?_
  refine lv_ldc2 (v := 4294967295) C0.x C0.b C0.ow (C0.ts _ cw_L_law_58) dL_law_832 ?_
  refine lv_land C0.x C0.b dL_law_835 ?_
  refine lv_lor C0.x C0.b dL_law_836 ?_
  refine lv_aload_n C0.x C0.b dL_law_837 rfl (lv_at hl 0 rfl) ?_
  refine lv_iload C0.x C0.b dL_law_838 (lv_at hl 4 rfl) ?_
  refine lv_iconst (v := 5) C0.x C0.b dL_law_840 (by decide) ?_
  refine lv_iadd C0.x C0.b dL_law_841 ?_
  refine r_scr 5 C0 hX hbl hbA hw (by omega) hL dL_law_842 ?_
  refine r_cV_i (As := [.long (((xs (i + 1)).toInt64 <<< ((32 : Int32).toInt64 &&& 63)) ||| ((xs (i + 2)).toInt64 &&& (4294967295 : Int64))), .long (((xs (i + 3)).toInt64 <<< ((32 : Int32).toInt64 &&& 63)) ||| ((xs (i + 4)).toInt64 &&& (4294967295 : Int64))), .int (xs (i + 5))]) (rest := []) C0 hw (c_X7_until hV) (cwV 3 C0.ts ngL_law_X7_until rfl rfl rfl hd_X7_until ⟨Nat.le_of_ble_eq_true rfl, Nat.le_of_ble_eq_true rfl⟩) (lg_0 ad cI cJ [] S) rfl rfl hl.1 rfl (Nat.le_of_ble_eq_true rfl) ⟨by omega, by omega⟩ dL_law_843 (fun r1 S2 H locs hV hw => ?_)
  refine lv_aload_n C0.x C0.b dL_law_846 rfl (lv_at hl 2 rfl) ?_
  refine lv_aload_n C0.x C0.b dL_law_847 rfl (lv_at hl 0 rfl) ?_
  refine lv_iload C0.x C0.b dL_law_848 (lv_at hl 4 rfl) ?_
  refine lv_iconst (v := 1) C0.x C0.b dL_law_850 (by decide) ?_
  refine lv_iadd C0.x C0.b dL_law_851 ?_
  refine r_scr 1 C0 hX hbl hbA hw (by omega) hL dL_law_852 ?_
  refine lv_i2l C0.x C0.b dL_law_853 rfl ?_
  refine lv_bipush (v := 32) C0.x C0.b dL_law_854 (by decide) ?_
  refine lv_lshl C0.x C0.b dL_law_856 rfl ?_
  refine lv_aload_n C0.x C0.b dL_law_857 rfl (lv_at hl 0 rfl) ?_
  refine lv_iload C0.x C0.b dL_law_858 (lv_at hl 4 rfl) ?_
  refine lv_iconst (v := 2) C0.x C0.b dL_law_860 (by decide) ?_
  refine lv_iadd C0.x C0.b dL_law_861 ?_
  refine r_scr 2 C0 hX hbl hbA hw (by omega) hL dL_law_862 ?_
  refine lv_i2l C0.x C0.b dL_law_863 rfl ?_
  refine lv_ldc2 (v := 4294967295) C0.x C0.b C0.ow (C0.ts _ cw_L_law_58) dL_law_864 ?_
  refine lv_land C0.x C0.b dL_law_867 ?_
  refine lv_lor C0.x C0.b dL_law_868 ?_
  refine lv_aload_n C0.x C0.b dL_law_869 rfl (lv_at hl 0 rfl) ?_
  refine lv_iload C0.x C0.b dL_law_870 (lv_at hl 4 rfl) ?_
  refine lv_iconst (v := 3) C0.x C0.b dL_law_872 (by decide) ?_
  refine lv_iadd C0.x C0.b dL_law_873 ?_
  refine r_scr 3 C0 hX hbl hbA hw (by omega) hL dL_law_874 ?_
  refine lv_i2l C0.x C0.b dL_law_875 rfl ?_
  refine lv_bipush (v := 32) C0.x C0.b dL_law_876 (by decide) ?_
  refine lv_lshl C0.x C0.b dL_law_878 rfl ?_
  refine lv_aload_n C0.x C0.b dL_law_879 rfl (lv_at hl 0 rfl) ?_
  refine lv_iload C0.x C0.b dL_law_880 (lv_at hl 4 rfl) ?_
  refine lv_iconst (v := 4) C0.x C0.b dL_law_882 (by decide) ?_
  refine lv_iadd C0.x C0.b dL_law_883 ?_
  refine r_scr 4 C0 hX hbl hbA hw (by omega) hL dL_law_884 ?_
  refine lv_i2l C0.x C0.b dL_law_885 rfl ?_
  refine lv_ldc2 (v := 4294967295) C0.x C0.b C0.ow (C0.ts _ cw_L_law_58) dL_law_886 ?_
  refine lv_land C0.x C0.b dL_law_889 ?_
  refine lv_lor C0.x C0.b dL_law_890 ?_
  refine lv_aload_n C0.x C0.b dL_law_891 rfl (lv_at hl 0 rfl) ?_
  refine lv_iload C0.x C0.b dL_law_892 (lv_at hl 4 rfl) ?_
  refine lv_iconst (v := 5) C0.x C0.b dL_law_894 (by decide) ?_
  refine lv_iadd C0.x C0.b dL_law_895 ?_
  refine r_scr 5 C0 hX hbl hbA hw (by omega) hL dL_law_896 ?_
  refine r_cV_i (As := [.long (((xs (i + 1)).toInt64 <<< ((32 : Int32).toInt64 &&& 63)) ||| ((xs (i + 2)).toInt64 &&& (4294967295 : Int64))), .long (((xs (i + 3)).toInt64 <<< ((32 : Int32).toInt64 &&& 63)) ||| ((xs (i + 4)).toInt64 &&& (4294967295 : Int64))), .int (xs (i + 5))]) (rest := [.int r1]) C0 hw (c_X8_until hV) (cwV 3 C0.ts ngL_law_X8_until rfl rfl rfl hd_X8_until ⟨Nat.le_of_ble_eq_true rfl, Nat.le_of_ble_eq_true rfl⟩) (lg_48 ad cI cJ [] S2) rfl rfl hl.1 rfl (Nat.le_of_ble_eq_true rfl) ⟨by omega, by omega⟩ dL_law_897 (fun r3 S4 H locs hV hw => ?_)
  refine lv_icmp_eq (tgt := 1908) C0.x C0.b dL_law_900 (by decide) (fun c5 => ?_) (fun c5 => ?_)
  · have hV := hV.1 c5
    refine W.widen (k := cl + 2) (n := sl + 12) (by omega) (by omega) ?_
    exact kk _ hV _ _ hw _ (lv_sub hl [0, 1, 2, 3, 4] rfl)
  · have hV := hV.2 c5
    refine lv_iconst (v := 0) C0.x C0.b dL_law_903 (by decide) ?_
    exact hV.elim
def VL_12 (a : Nat → Int32) (S : SS) (K : SS → Prop) : Prop :=
  (V_X7_height (((a 1).toInt64 <<< ((32 : Int32).toInt64 &&& 63)) ||| ((a 2).toInt64 &&& (4294967295 : Int64))) (a 3) S (fun (r1 : Int32) (S2 : SS) => (V_X8_height (((a 1).toInt64 <<< ((32 : Int32).toInt64 &&& 63)) ||| ((a 2).toInt64 &&& (4294967295 : Int64))) (a 3) S2 (fun (r3 : Int32) (S4 : SS) => ((r1 = r3 → (K S4)) ∧ (¬ r1 = r3 → False))))))
set_option maxHeartbeats 8000000 in
set_option maxRecDepth 100000 in
theorem lc_12 (C0 : Bd p s m meth c #[.ref b] code 8 ret wsnL_law RL D n0 cI cJ) (hlt : l.stackTraces = false) (hX : va_X b L xs s s.heap) (hbl : b < s.heap.size) (hbA : ¬ fr n0 b) (K : SS → Prop) (hc : cl + 2 ≤ room_1.cells) (hs : sl + 12 ≤ room_1.slots) (hi : i + 6 ≤ L) (hL : L ≤ 3072) (S : SS) (hV : VL_12 (fun j => xs (i + j)) S K) (hw : Wh D n0 ad cI cJ [] S s H locs) {ls : Array Slot} (hl : lv_has ls 8 [(0, .ref b), (1, .ref (ad 0)), (2, .ref (ad 48)), (3, .ref (ad 64)), (4, .int (nI i))]) (kk : ∀ S1 : SS, K S1 → ∀ (H1 : Heap) (locs1 : List Loc), Wh D n0 ad cI cJ [] S1 s H1 locs1 → ∀ ls1 : Array Slot, lv_has ls1 8 [(0, .ref b), (1, .ref (ad 0)), (2, .ref (ad 48)), (3, .ref (ad 64)), (4, .int (nI i))] → W p l e room_1 s m #[.ref b] below meth c H1 locs1 (cl + 2) (sl + 12) Q (F0 m 1908 ls1 [])) : W p l e room_1 s m #[.ref b] below meth c H locs cl sl Q (F0 m 905 ls []) := by
  unfold VL_12 at hV
  refine lv_aload_n C0.x C0.b dL_law_905 rfl (lv_at hl 1 rfl) ?_
  refine lv_aload_n C0.x C0.b dL_law_906 rfl (lv_at hl 0 rfl) ?_
  refine lv_iload C0.x C0.b dL_law_907 (lv_at hl 4 rfl) ?_
  refine lv_iconst (v := 1) C0.x C0.b dL_law_909 (by decide) ?_
  refine lv_iadd C0.x C0.b dL_law_910 ?_
  refine r_scr 1 C0 hX hbl hbA hw (by omega) hL dL_law_911 ?_
  refine lv_i2l C0.x C0.b dL_law_912 rfl ?_
  refine lv_bipush (v := 32) C0.x C0.b dL_law_913 (by decide) ?_
  refine lv_lshl C0.x C0.b dL_law_915 rfl ?_
  refine lv_aload_n C0.x C0.b dL_law_916 rfl (lv_at hl 0 rfl) ?_
  refine lv_iload C0.x C0.b dL_law_917 (lv_at hl 4 rfl) ?_
  refine lv_iconst (v := 2) C0.x C0.b dL_law_919 (by decide) ?_
  refine lv_iadd C0.x C0.b dL_law_920 ?_
  refine r_scr 2 C0 hX hbl hbA hw (by omega) hL dL_law_921 ?_
  refine lv_i2l C0.x C0.b dL_law_922 rfl ?_
  refine lv_ldc2 (v := 4294967295) C0.x C0.b C0.ow (C0.ts _ cw_L_law_58) dL_law_923 ?_
  refine lv_land C0.x C0.b dL_law_926 ?_
  refine lv_lor C0.x C0.b dL_law_927 ?_
  refine lv_aload_n C0.x C0.b dL_law_928 rfl (lv_at hl 0 rfl) ?_
  refine lv_iload C0.x C0.b dL_law_929 (lv_at hl 4 rfl) ?_
  refine lv_iconst (v := 3) C0.x C0.b dL_law_931 (by decide) ?_
  refine lv_iadd C0.x C0.b dL_law_932 ?_
  refine r_scr 3 C0 hX hbl hbA hw (by omega) hL dL_law_933 ?_
  refine r_cV_i (As := [.long (((xs (i + 1)).toInt64 <<< ((32 : Int32).toInt64 &&& 63)) ||| ((xs (i + 2)).toInt64 &&& (4294967295 : Int64))), .int (xs (i + 3))]) (rest := []) C0 hw (c_X7_height hV) (cwV 2 C0.ts ngL_law_X7_height rfl rfl rfl hd_X7_height ⟨Nat.le_of_ble_eq_true rfl, Nat.le_of_ble_eq_true rfl⟩) (lg_0 ad cI cJ [] S) rfl rfl hl.1 rfl (Nat.le_of_ble_eq_true rfl) ⟨by omega, by omega⟩ dL_law_934 (fun r1 S2 H locs hV hw => ?_)
  refine lv_aload_n C0.x C0.b dL_law_937 rfl (lv_at hl 2 rfl) ?_
  refine lv_aload_n C0.x C0.b dL_law_938 rfl (lv_at hl 0 rfl) ?_
  refine lv_iload C0.x C0.b dL_law_939 (lv_at hl 4 rfl) ?_
  refine lv_iconst (v := 1) C0.x C0.b dL_law_941 (by decide) ?_
  refine lv_iadd C0.x C0.b dL_law_942 ?_
  refine r_scr 1 C0 hX hbl hbA hw (by omega) hL dL_law_943 ?_
  refine lv_i2l C0.x C0.b dL_law_944 rfl ?_
  refine lv_bipush (v := 32) C0.x C0.b dL_law_945 (by decide) ?_
  refine lv_lshl C0.x C0.b dL_law_947 rfl ?_
  refine lv_aload_n C0.x C0.b dL_law_948 rfl (lv_at hl 0 rfl) ?_
  refine lv_iload C0.x C0.b dL_law_949 (lv_at hl 4 rfl) ?_
  refine lv_iconst (v := 2) C0.x C0.b dL_law_951 (by decide) ?_
  refine lv_iadd C0.x C0.b dL_law_952 ?_
  refine r_scr 2 C0 hX hbl hbA hw (by omega) hL dL_law_953 ?_
  refine lv_i2l C0.x C0.b dL_law_954 rfl ?_
  refine lv_ldc2 (v := 4294967295) C0.x C0.b C0.ow (C0.ts _ cw_L_law_58) dL_law_955 ?_
  refine lv_land C0.x C0.b dL_law_958 ?_
  refine lv_lor C0.x C0.b dL_law_959 ?_
  refine lv_aload_n C0.x C0.b dL_law_960 rfl (lv_at hl 0 rfl) ?_
  refine lv_iload C0.x C0.b dL_law_961 (lv_at hl 4 rfl) ?_
  refine lv_iconst (v := 3) C0.x C0.b dL_law_963 (by decide) ?_
  refine lv_iadd C0.x C0.b dL_law_964 ?_
  refine r_scr 3 C0 hX hbl hbA hw (by omega) hL dL_law_965 ?_
  refine r_cV_i (As := [.long (((xs (i + 1)).toInt64 <<< ((32 : Int32).toInt64 &&& 63)) ||| ((xs (i + 2)).toInt64 &&& (4294967295 : Int64))), .int (xs (i + 3))]) (rest := [.int r1]) C0 hw (c_X8_height hV) (cwV 2 C0.ts ngL_law_X8_height rfl rfl rfl hd_X8_height ⟨Nat.le_of_ble_eq_true rfl, Nat.le_of_ble_eq_true rfl⟩) (lg_48 ad cI cJ [] S2) rfl rfl hl.1 rfl (Nat.le_of_ble_eq_true rfl) ⟨by omega, by omega⟩ dL_law_966 (fun r3 S4 H locs hV hw => ?_)
  refine lv_icmp_eq (tgt := 1908) C0.x C0.b dL_law_969 (by decide) (fun c5 => ?_) (fun c5 => ?_)
  · have hV := hV.1 c5
    refine W.widen (k := cl + 2) (n := sl + 12) (by omega) (by omega) ?_
    exact kk _ hV _ _ hw _ (lv_sub hl [0, 1, 2, 3, 4] rfl)
  · have hV := hV.2 c5
    refine lv_iconst (v := 0) C0.x C0.b dL_law_972 (by decide) ?_
    exact hV.elim
def VL_13 (a : Nat → Int32) (S : SS) (K : SS → Prop) : Prop :=
  (V_L_peak (((a 1).toInt64 <<< ((32 : Int32).toInt64 &&& 63)) ||| ((a 2).toInt64 &&& (4294967295 : Int64))) (a 3) S (fun (r1 : Int32) (S2 : SS) => (V_X8_peak (((a 1).toInt64 <<< ((32 : Int32).toInt64 &&& 63)) ||| ((a 2).toInt64 &&& (4294967295 : Int64))) (a 3) S2 (fun (r3 : Int64) (S4 : SS) => (V_X8_thrown  S4 (fun (r5 : Int32) (S6 : SS) => ((r5 = r1 → ((r1 = 0 → (vp_in (0 : Int32) 1 ∧ (((gA S6 41 (0 : Int32).toNatClampNeg) = r3 → (K S6)) ∧ (¬ (gA S6 41 (0 : Int32).toNatClampNeg) = r3 → False)))) ∧ (¬ r1 = 0 → (K S6)))) ∧ (¬ r5 = r1 → False))))))))
set_option maxHeartbeats 8000000 in
set_option maxRecDepth 100000 in
theorem lc_13 (C0 : Bd p s m meth c #[.ref b] code 8 ret wsnL_law RL D n0 cI cJ) (hlt : l.stackTraces = false) (hX : va_X b L xs s s.heap) (hbl : b < s.heap.size) (hbA : ¬ fr n0 b) (K : SS → Prop) (hc : cl + 2 ≤ room_1.cells) (hs : sl + 12 ≤ room_1.slots) (hi : i + 6 ≤ L) (hL : L ≤ 3072) (S : SS) (hV : VL_13 (fun j => xs (i + j)) S K) (hw : Wh D n0 ad cI cJ [] S s H locs) {ls : Array Slot} (hl : lv_has ls 8 [(0, .ref b), (1, .ref (ad 0)), (2, .ref (ad 48)), (3, .ref (ad 64)), (4, .int (nI i))]) (kk : ∀ S1 : SS, K S1 → ∀ (H1 : Heap) (locs1 : List Loc), Wh D n0 ad cI cJ [] S1 s H1 locs1 → ∀ ls1 : Array Slot, lv_has ls1 8 [(0, .ref b), (1, .ref (ad 0)), (2, .ref (ad 48)), (3, .ref (ad 64)), (4, .int (nI i))] → W p l e room_1 s m #[.ref b] below meth c H1 locs1 (cl + 2) (sl + 12) Q (F0 m 1908 ls1 [])) : W p l e room_1 s m #[.ref b] below meth c H locs cl sl Q (F0 m 974 ls []) := by
  unfold VL_13 at hV
  refine lv_aload_n C0.x C0.b dL_law_974 rfl (lv_at hl 1 rfl) ?_
  refine lv_aload_n C0.x C0.b dL_law_975 rfl (lv_at hl 0 rfl) ?_
  refine lv_iload C0.x C0.b dL_law_976 (lv_at hl 4 rfl) ?_
  refine lv_iconst (v := 1) C0.x C0.b dL_law_978 (by decide) ?_
  refine lv_iadd C0.x C0.b dL_law_979 ?_
  refine r_scr 1 C0 hX hbl hbA hw (by omega) hL dL_law_980 ?_
  refine lv_i2l C0.x C0.b dL_law_981 rfl ?_
  refine lv_bipush (v := 32) C0.x C0.b dL_law_982 (by decide) ?_
  refine lv_lshl C0.x C0.b dL_law_984 rfl ?_
  refine lv_aload_n C0.x C0.b dL_law_985 rfl (lv_at hl 0 rfl) ?_
  refine lv_iload C0.x C0.b dL_law_986 (lv_at hl 4 rfl) ?_
  refine lv_iconst (v := 2) C0.x C0.b dL_law_988 (by decide) ?_
  refine lv_iadd C0.x C0.b dL_law_989 ?_
  refine r_scr 2 C0 hX hbl hbA hw (by omega) hL dL_law_990 ?_
  refine lv_i2l C0.x C0.b dL_law_991 rfl ?_
  refine lv_ldc2 (v := 4294967295) C0.x C0.b C0.ow (C0.ts _ cw_L_law_58) dL_law_992 ?_
  refine lv_land C0.x C0.b dL_law_995 ?_
  refine lv_lor C0.x C0.b dL_law_996 ?_
  refine lv_aload_n C0.x C0.b dL_law_997 rfl (lv_at hl 0 rfl) ?_
  refine lv_iload C0.x C0.b dL_law_998 (lv_at hl 4 rfl) ?_
  refine lv_iconst (v := 3) C0.x C0.b dL_law_1000 (by decide) ?_
  refine lv_iadd C0.x C0.b dL_law_1001 ?_
  refine r_scr 3 C0 hX hbl hbA hw (by omega) hL dL_law_1002 ?_
  refine lv_aload_n C0.x C0.b dL_law_1003 rfl (lv_at hl 3 rfl) ?_
  refine r_cSW_i (As := [.ref (ad 0), .long (((xs (i + 1)).toInt64 <<< ((32 : Int32).toInt64 &&& 63)) ||| ((xs (i + 2)).toInt64 &&& (4294967295 : Int64))), .int (xs (i + 3)), .ref (ad 64)]) (rest := []) C0 hw (c_L_peak hlt hV) (vx_cwSW 4 C0.ts ngL_law_L_peak rfl rfl rfl hd_L_peak ⟨Nat.le_of_ble_eq_true rfl, Nat.le_of_ble_eq_true rfl⟩) rfl hl.1 rfl (Nat.le_of_ble_eq_true rfl) ⟨by omega, by omega⟩ dL_law_1004 (fun r1 S2 H locs hV hw => ?_)
  refine lv_istore (lv' := [(5, .int r1), (0, .ref b), (1, .ref (ad 0)), (2, .ref (ad 48)), (3, .ref (ad 64)), (4, .int (nI i))]) C0.x C0.b dL_law_1007 hl (by decide) rfl (fun ls hl => ?_)
  refine lv_aload_n C0.x C0.b dL_law_1009 rfl (lv_at hl 3 rfl) ?_
  refine lv_aload_n C0.x C0.b dL_law_1010 rfl (lv_at hl 1 rfl) ?_
  refine lv_iload C0.x C0.b dL_law_1011 (lv_at hl 5 rfl) ?_
  refine lv_iconst (v := 1) C0.x C0.b dL_law_1013 (by decide) ?_
  refine lv_iadd C0.x C0.b dL_law_1014 ?_
  refine r_scr 1 C0 hX hbl hbA hw (by omega) hL dL_law_1015 ?_
  refine lv_i2l C0.x C0.b dL_law_1016 rfl ?_
  refine lv_bipush (v := 32) C0.x C0.b dL_law_1017 (by decide) ?_
  refine lv_lshl C0.x C0.b dL_law_1019 rfl ?_
  refine lv_aload_n C0.x C0.b dL_law_1020 rfl (lv_at hl 1 rfl) ?_
  refine lv_iload C0.x C0.b dL_law_1021 (lv_at hl 5 rfl) ?_
  refine lv_iconst (v := 2) C0.x C0.b dL_law_1023 (by decide) ?_
  refine lv_iadd C0.x C0.b dL_law_1024 ?_
  refine r_scr 2 C0 hX hbl hbA hw (by omega) hL dL_law_1025 ?_
  refine lv_i2l C0.x C0.b dL_law_1026 rfl ?_
  refine lv_ldc2 (v := 4294967295) C0.x C0.b C0.ow (C0.ts _ cw_L_law_58) dL_law_1027 ?_
  refine lv_land C0.x C0.b dL_law_1030 ?_
  refine lv_lor C0.x C0.b dL_law_1031 ?_
  refine lv_aload_n C0.x C0.b dL_law_1032 rfl (lv_at hl 1 rfl) ?_
  refine lv_iload C0.x C0.b dL_law_1033 (lv_at hl 5 rfl) ?_
  refine lv_iconst (v := 3) C0.x C0.b dL_law_1035 (by decide) ?_
  refine lv_iadd C0.x C0.b dL_law_1036 ?_
  refine r_scr 3 C0 hX hbl hbA hw (by omega) hL dL_law_1037 ?_
  refine r_cV_l (As := [.long (((xs (i + 1)).toInt64 <<< ((32 : Int32).toInt64 &&& 63)) ||| ((xs (i + 2)).toInt64 &&& (4294967295 : Int64))), .int (xs (i + 3))]) (rest := []) C0 hw (c_X8_peak hV) (cwV 2 C0.ts ngL_law_X8_peak rfl rfl rfl hd_X8_peak ⟨Nat.le_of_ble_eq_true rfl, Nat.le_of_ble_eq_true rfl⟩) (lg_48 ad cI cJ [] S2) rfl rfl hl.1 rfl (Nat.le_of_ble_eq_true rfl) ⟨by omega, by omega⟩ dL_law_1038 (fun r3 S4 H locs hV hw => ?_)
  refine lv_lstore (lv' := [(6, .long r3), (5, .int r1), (0, .ref b), (1, .ref (ad 0)), (2, .ref (ad 48)), (3, .ref (ad 64)), (4, .int (nI i))]) C0.x C0.b dL_law_1041 hl (by decide) rfl (fun ls hl => ?_)
  refine lv_aload_n C0.x C0.b dL_law_1043 rfl (lv_at hl 4 rfl) ?_
  refine r_cV_i (As := []) (rest := []) C0 hw (c_X8_thrown hV) (cwV 0 C0.ts ngL_law_X8_thrown rfl rfl rfl hd_X8_thrown ⟨Nat.le_of_ble_eq_true rfl, Nat.le_of_ble_eq_true rfl⟩) (lg_48 ad cI cJ [] S4) rfl rfl hl.1 rfl (Nat.le_of_ble_eq_true rfl) ⟨by omega, by omega⟩ dL_law_1044 (fun r5 S6 H locs hV hw => ?_)
  refine lv_iload C0.x C0.b dL_law_1047 (lv_at hl 1 rfl) ?_
  refine lv_icmp_eq (tgt := 1054) C0.x C0.b dL_law_1049 (by decide) (fun c7 => ?_) (fun c7 => ?_)
  · have hV := hV.1 c7
    refine lv_iload C0.x C0.b dL_law_1054 (lv_at hl 1 rfl) ?_
    refine lv_if_ne (tgt := 1070) C0.x C0.b dL_law_1056 (by decide) (fun c8 => ?_) (fun c8 => ?_)
    · have hV := hV.2 c8
      refine lv_goto (tgt := 1908) C0.x C0.b dL_law_1070 (by decide) ?_
      refine W.widen (k := cl + 2) (n := sl + 12) (by omega) (by omega) ?_
      exact kk _ hV _ _ hw _ (lv_sub hl [2, 3, 4, 5, 6] rfl)
    · have hV := hV.1 c8
      refine lv_aload_n C0.x C0.b dL_law_1059 rfl (lv_at hl 5 rfl) ?_
      refine lv_iconst (v := 0) C0.x C0.b dL_law_1060 (by decide) ?_
      refine r_lald C0 hw (lg_64 ad cI cJ [] S6) hV.1 dL_law_1061 ?_
      have hV := hV.2
      refine lv_lload C0.x C0.b dL_law_1062 (lv_at hl 0 rfl) ?_
      refine r_lcmp C0 dL_law_1064 ?_
      refine lv_if_eq (tgt := 1070) C0.x C0.b dL_law_1065 (by decide) (fun c9 => ?_) (fun c9 => ?_)
      · have hV := hV.1 ((lc_eq _ _).mp c9)
        refine lv_goto (tgt := 1908) C0.x C0.b dL_law_1070 (by decide) ?_
        refine W.widen (k := cl + 2) (n := sl + 12) (by omega) (by omega) ?_
        exact kk _ hV _ _ hw _ (lv_sub hl [2, 3, 4, 5, 6] rfl)
      · have hV := hV.2 (fun h => c9 ((lc_eq _ _).mpr h))
        refine lv_iconst (v := 0) C0.x C0.b dL_law_1068 (by decide) ?_
        exact hV.elim
  · have hV := hV.2 c7
    refine lv_iconst (v := 0) C0.x C0.b dL_law_1052 (by decide) ?_
    exact hV.elim
def VL_14 (a : Nat → Int32) (S : SS) (K : SS → Prop) : Prop :=
  (V_X7_word (((a 1).toInt64 <<< ((32 : Int32).toInt64 &&& 63)) ||| ((a 2).toInt64 &&& (4294967295 : Int64))) (a 3) S (fun (r1 : Int32) (S2 : SS) => (V_X8_word (((a 1).toInt64 <<< ((32 : Int32).toInt64 &&& 63)) ||| ((a 2).toInt64 &&& (4294967295 : Int64))) (a 3) S2 (fun (r3 : Int32) (S4 : SS) => ((r1 = r3 → (K S4)) ∧ (¬ r1 = r3 → False))))))
set_option maxHeartbeats 8000000 in
set_option maxRecDepth 100000 in
theorem lc_14 (C0 : Bd p s m meth c #[.ref b] code 8 ret wsnL_law RL D n0 cI cJ) (hlt : l.stackTraces = false) (hX : va_X b L xs s s.heap) (hbl : b < s.heap.size) (hbA : ¬ fr n0 b) (K : SS → Prop) (hc : cl + 2 ≤ room_1.cells) (hs : sl + 12 ≤ room_1.slots) (hi : i + 6 ≤ L) (hL : L ≤ 3072) (S : SS) (hV : VL_14 (fun j => xs (i + j)) S K) (hw : Wh D n0 ad cI cJ [] S s H locs) {ls : Array Slot} (hl : lv_has ls 8 [(0, .ref b), (1, .ref (ad 0)), (2, .ref (ad 48)), (3, .ref (ad 64)), (4, .int (nI i))]) (kk : ∀ S1 : SS, K S1 → ∀ (H1 : Heap) (locs1 : List Loc), Wh D n0 ad cI cJ [] S1 s H1 locs1 → ∀ ls1 : Array Slot, lv_has ls1 8 [(0, .ref b), (1, .ref (ad 0)), (2, .ref (ad 48)), (3, .ref (ad 64)), (4, .int (nI i))] → W p l e room_1 s m #[.ref b] below meth c H1 locs1 (cl + 2) (sl + 12) Q (F0 m 1908 ls1 [])) : W p l e room_1 s m #[.ref b] below meth c H locs cl sl Q (F0 m 1073 ls []) := by
  unfold VL_14 at hV
  refine lv_aload_n C0.x C0.b dL_law_1073 rfl (lv_at hl 1 rfl) ?_
  refine lv_aload_n C0.x C0.b dL_law_1074 rfl (lv_at hl 0 rfl) ?_
  refine lv_iload C0.x C0.b dL_law_1075 (lv_at hl 4 rfl) ?_
  refine lv_iconst (v := 1) C0.x C0.b dL_law_1077 (by decide) ?_
  refine lv_iadd C0.x C0.b dL_law_1078 ?_
  refine r_scr 1 C0 hX hbl hbA hw (by omega) hL dL_law_1079 ?_
  refine lv_i2l C0.x C0.b dL_law_1080 rfl ?_
  refine lv_bipush (v := 32) C0.x C0.b dL_law_1081 (by decide) ?_
  refine lv_lshl C0.x C0.b dL_law_1083 rfl ?_
  refine lv_aload_n C0.x C0.b dL_law_1084 rfl (lv_at hl 0 rfl) ?_
  refine lv_iload C0.x C0.b dL_law_1085 (lv_at hl 4 rfl) ?_
  refine lv_iconst (v := 2) C0.x C0.b dL_law_1087 (by decide) ?_
  refine lv_iadd C0.x C0.b dL_law_1088 ?_
  refine r_scr 2 C0 hX hbl hbA hw (by omega) hL dL_law_1089 ?_
  refine lv_i2l C0.x C0.b dL_law_1090 rfl ?_
  refine lv_ldc2 (v := 4294967295) C0.x C0.b C0.ow (C0.ts _ cw_L_law_58) dL_law_1091 ?_
  refine lv_land C0.x C0.b dL_law_1094 ?_
  refine lv_lor C0.x C0.b dL_law_1095 ?_
  refine lv_aload_n C0.x C0.b dL_law_1096 rfl (lv_at hl 0 rfl) ?_
  refine lv_iload C0.x C0.b dL_law_1097 (lv_at hl 4 rfl) ?_
  refine lv_iconst (v := 3) C0.x C0.b dL_law_1099 (by decide) ?_
  refine lv_iadd C0.x C0.b dL_law_1100 ?_
  refine r_scr 3 C0 hX hbl hbA hw (by omega) hL dL_law_1101 ?_
  refine r_cV_i (As := [.long (((xs (i + 1)).toInt64 <<< ((32 : Int32).toInt64 &&& 63)) ||| ((xs (i + 2)).toInt64 &&& (4294967295 : Int64))), .int (xs (i + 3))]) (rest := []) C0 hw (c_X7_word hV) (cwV 2 C0.ts ngL_law_X7_word rfl rfl rfl hd_X7_word ⟨Nat.le_of_ble_eq_true rfl, Nat.le_of_ble_eq_true rfl⟩) (lg_0 ad cI cJ [] S) rfl rfl hl.1 rfl (Nat.le_of_ble_eq_true rfl) ⟨by omega, by omega⟩ dL_law_1102 (fun r1 S2 H locs hV hw => ?_)
  refine lv_aload_n C0.x C0.b dL_law_1105 rfl (lv_at hl 2 rfl) ?_
  refine lv_aload_n C0.x C0.b dL_law_1106 rfl (lv_at hl 0 rfl) ?_
  refine lv_iload C0.x C0.b dL_law_1107 (lv_at hl 4 rfl) ?_
  refine lv_iconst (v := 1) C0.x C0.b dL_law_1109 (by decide) ?_
  refine lv_iadd C0.x C0.b dL_law_1110 ?_
  refine r_scr 1 C0 hX hbl hbA hw (by omega) hL dL_law_1111 ?_
  refine lv_i2l C0.x C0.b dL_law_1112 rfl ?_
  refine lv_bipush (v := 32) C0.x C0.b dL_law_1113 (by decide) ?_
  refine lv_lshl C0.x C0.b dL_law_1115 rfl ?_
  refine lv_aload_n C0.x C0.b dL_law_1116 rfl (lv_at hl 0 rfl) ?_
  refine lv_iload C0.x C0.b dL_law_1117 (lv_at hl 4 rfl) ?_
  refine lv_iconst (v := 2) C0.x C0.b dL_law_1119 (by decide) ?_
  refine lv_iadd C0.x C0.b dL_law_1120 ?_
  refine r_scr 2 C0 hX hbl hbA hw (by omega) hL dL_law_1121 ?_
  refine lv_i2l C0.x C0.b dL_law_1122 rfl ?_
  refine lv_ldc2 (v := 4294967295) C0.x C0.b C0.ow (C0.ts _ cw_L_law_58) dL_law_1123 ?_
  refine lv_land C0.x C0.b dL_law_1126 ?_
  refine lv_lor C0.x C0.b dL_law_1127 ?_
  refine lv_aload_n C0.x C0.b dL_law_1128 rfl (lv_at hl 0 rfl) ?_
  refine lv_iload C0.x C0.b dL_law_1129 (lv_at hl 4 rfl) ?_
  refine lv_iconst (v := 3) C0.x C0.b dL_law_1131 (by decide) ?_
  refine lv_iadd C0.x C0.b dL_law_1132 ?_
  refine r_scr 3 C0 hX hbl hbA hw (by omega) hL dL_law_1133 ?_
  refine r_cV_i (As := [.long (((xs (i + 1)).toInt64 <<< ((32 : Int32).toInt64 &&& 63)) ||| ((xs (i + 2)).toInt64 &&& (4294967295 : Int64))), .int (xs (i + 3))]) (rest := [.int r1]) C0 hw (c_X8_word hV) (cwV 2 C0.ts ngL_law_X8_word rfl rfl rfl hd_X8_word ⟨Nat.le_of_ble_eq_true rfl, Nat.le_of_ble_eq_true rfl⟩) (lg_48 ad cI cJ [] S2) rfl rfl hl.1 rfl (Nat.le_of_ble_eq_true rfl) ⟨by omega, by omega⟩ dL_law_1134 (fun r3 S4 H locs hV hw => ?_)
  refine lv_icmp_eq (tgt := 1908) C0.x C0.b dL_law_1137 (by decide) (fun c5 => ?_) (fun c5 => ?_)
  · have hV := hV.1 c5
    refine W.widen (k := cl + 2) (n := sl + 12) (by omega) (by omega) ?_
    exact kk _ hV _ _ hw _ (lv_sub hl [0, 1, 2, 3, 4] rfl)
  · have hV := hV.2 c5
    refine lv_iconst (v := 0) C0.x C0.b dL_law_1140 (by decide) ?_
    exact hV.elim
def VL_15 (a : Nat → Int32) (S : SS) (K : SS → Prop) : Prop :=
  (V_X7_rest (a 1) S (fun (r1 : Int32) (S2 : SS) => (V_X8_rest (a 1) S2 (fun (r3 : Int32) (S4 : SS) => ((r1 = r3 → (K S4)) ∧ (¬ r1 = r3 → False))))))
set_option maxHeartbeats 8000000 in
set_option maxRecDepth 100000 in
theorem lc_15 (C0 : Bd p s m meth c #[.ref b] code 8 ret wsnL_law RL D n0 cI cJ) (hlt : l.stackTraces = false) (hX : va_X b L xs s s.heap) (hbl : b < s.heap.size) (hbA : ¬ fr n0 b) (K : SS → Prop) (hc : cl + 2 ≤ room_1.cells) (hs : sl + 12 ≤ room_1.slots) (hi : i + 6 ≤ L) (hL : L ≤ 3072) (S : SS) (hV : VL_15 (fun j => xs (i + j)) S K) (hw : Wh D n0 ad cI cJ [] S s H locs) {ls : Array Slot} (hl : lv_has ls 8 [(0, .ref b), (1, .ref (ad 0)), (2, .ref (ad 48)), (3, .ref (ad 64)), (4, .int (nI i))]) (kk : ∀ S1 : SS, K S1 → ∀ (H1 : Heap) (locs1 : List Loc), Wh D n0 ad cI cJ [] S1 s H1 locs1 → ∀ ls1 : Array Slot, lv_has ls1 8 [(0, .ref b), (1, .ref (ad 0)), (2, .ref (ad 48)), (3, .ref (ad 64)), (4, .int (nI i))] → W p l e room_1 s m #[.ref b] below meth c H1 locs1 (cl + 2) (sl + 12) Q (F0 m 1908 ls1 [])) : W p l e room_1 s m #[.ref b] below meth c H locs cl sl Q (F0 m 1142 ls []) := by
  unfold VL_15 at hV
  refine lv_aload_n C0.x C0.b dL_law_1142 rfl (lv_at hl 1 rfl) ?_
  refine lv_aload_n C0.x C0.b dL_law_1143 rfl (lv_at hl 0 rfl) ?_
  refine lv_iload C0.x C0.b dL_law_1144 (lv_at hl 4 rfl) ?_
  refine lv_iconst (v := 1) C0.x C0.b dL_law_1146 (by decide) ?_
  refine lv_iadd C0.x C0.b dL_law_1147 ?_
  refine r_scr 1 C0 hX hbl hbA hw (by omega) hL dL_law_1148 ?_
  refine r_cV_i (As := [.int (xs (i + 1))]) (rest := []) C0 hw (c_X7_rest hV) (cwV 1 C0.ts ngL_law_X7_rest rfl rfl rfl hd_X7_rest ⟨Nat.le_of_ble_eq_true rfl, Nat.le_of_ble_eq_true rfl⟩) (lg_0 ad cI cJ [] S) rfl rfl hl.1 rfl (Nat.le_of_ble_eq_true rfl) ⟨by omega, by omega⟩ dL_law_1149 (fun r1 S2 H locs hV hw => ?_)
  refine lv_aload_n C0.x C0.b dL_law_1152 rfl (lv_at hl 2 rfl) ?_
  refine lv_aload_n C0.x C0.b dL_law_1153 rfl (lv_at hl 0 rfl) ?_
  refine lv_iload C0.x C0.b dL_law_1154 (lv_at hl 4 rfl) ?_
  refine lv_iconst (v := 1) C0.x C0.b dL_law_1156 (by decide) ?_
  refine lv_iadd C0.x C0.b dL_law_1157 ?_
  refine r_scr 1 C0 hX hbl hbA hw (by omega) hL dL_law_1158 ?_
  refine r_cV_i (As := [.int (xs (i + 1))]) (rest := [.int r1]) C0 hw (c_X8_rest hV) (cwV 1 C0.ts ngL_law_X8_rest rfl rfl rfl hd_X8_rest ⟨Nat.le_of_ble_eq_true rfl, Nat.le_of_ble_eq_true rfl⟩) (lg_48 ad cI cJ [] S2) rfl rfl hl.1 rfl (Nat.le_of_ble_eq_true rfl) ⟨by omega, by omega⟩ dL_law_1159 (fun r3 S4 H locs hV hw => ?_)
  refine lv_icmp_eq (tgt := 1908) C0.x C0.b dL_law_1162 (by decide) (fun c5 => ?_) (fun c5 => ?_)
  · have hV := hV.1 c5
    refine W.widen (k := cl + 2) (n := sl + 12) (by omega) (by omega) ?_
    exact kk _ hV _ _ hw _ (lv_sub hl [0, 1, 2, 3, 4] rfl)
  · have hV := hV.2 c5
    refine lv_iconst (v := 0) C0.x C0.b dL_law_1165 (by decide) ?_
    exact hV.elim
def VL_16 (a : Nat → Int32) (S : SS) (K : SS → Prop) : Prop :=
  (V_X7_clear  S (fun (r1 : Int32) (S2 : SS) => (V_X8_clear  S2 (fun (r3 : Int32) (S4 : SS) => ((r1 = r3 → (K S4)) ∧ (¬ r1 = r3 → False))))))
set_option maxHeartbeats 8000000 in
set_option maxRecDepth 100000 in
theorem lc_16 (C0 : Bd p s m meth c #[.ref b] code 8 ret wsnL_law RL D n0 cI cJ) (hlt : l.stackTraces = false) (hX : va_X b L xs s s.heap) (hbl : b < s.heap.size) (hbA : ¬ fr n0 b) (K : SS → Prop) (hc : cl + 2 ≤ room_1.cells) (hs : sl + 12 ≤ room_1.slots) (hi : i + 6 ≤ L) (hL : L ≤ 3072) (S : SS) (hV : VL_16 (fun j => xs (i + j)) S K) (hw : Wh D n0 ad cI cJ [] S s H locs) {ls : Array Slot} (hl : lv_has ls 8 [(0, .ref b), (1, .ref (ad 0)), (2, .ref (ad 48)), (3, .ref (ad 64)), (4, .int (nI i))]) (kk : ∀ S1 : SS, K S1 → ∀ (H1 : Heap) (locs1 : List Loc), Wh D n0 ad cI cJ [] S1 s H1 locs1 → ∀ ls1 : Array Slot, lv_has ls1 8 [(0, .ref b), (1, .ref (ad 0)), (2, .ref (ad 48)), (3, .ref (ad 64)), (4, .int (nI i))] → W p l e room_1 s m #[.ref b] below meth c H1 locs1 (cl + 2) (sl + 12) Q (F0 m 1908 ls1 [])) : W p l e room_1 s m #[.ref b] below meth c H locs cl sl Q (F0 m 1167 ls []) := by
  unfold VL_16 at hV
  refine lv_aload_n C0.x C0.b dL_law_1167 rfl (lv_at hl 1 rfl) ?_
  refine r_cV_i (As := []) (rest := []) C0 hw (c_X7_clear hV) (cwV 0 C0.ts ngL_law_X7_clear rfl rfl rfl hd_X7_clear ⟨Nat.le_of_ble_eq_true rfl, Nat.le_of_ble_eq_true rfl⟩) (lg_0 ad cI cJ [] S) rfl rfl hl.1 rfl (Nat.le_of_ble_eq_true rfl) ⟨by omega, by omega⟩ dL_law_1168 (fun r1 S2 H locs hV hw => ?_)
  refine lv_aload_n C0.x C0.b dL_law_1171 rfl (lv_at hl 2 rfl) ?_
  refine r_cV_i (As := []) (rest := [.int r1]) C0 hw (c_X8_clear hV) (cwV 0 C0.ts ngL_law_X8_clear rfl rfl rfl hd_X8_clear ⟨Nat.le_of_ble_eq_true rfl, Nat.le_of_ble_eq_true rfl⟩) (lg_48 ad cI cJ [] S2) rfl rfl hl.1 rfl (Nat.le_of_ble_eq_true rfl) ⟨by omega, by omega⟩ dL_law_1172 (fun r3 S4 H locs hV hw => ?_)
  refine lv_icmp_eq (tgt := 1908) C0.x C0.b dL_law_1175 (by decide) (fun c5 => ?_) (fun c5 => ?_)
  · have hV := hV.1 c5
    refine W.widen (k := cl + 2) (n := sl + 12) (by omega) (by omega) ?_
    exact kk _ hV _ _ hw _ (lv_sub hl [0, 1, 2, 3, 4] rfl)
  · have hV := hV.2 c5
    refine lv_iconst (v := 0) C0.x C0.b dL_law_1178 (by decide) ?_
    exact hV.elim
def VL_17 (a : Nat → Int32) (S : SS) (K : SS → Prop) : Prop :=
  (V_X7_shape  S (fun (r1 : Int32) (S2 : SS) => (V_X8_shape  S2 (fun (r3 : Int32) (S4 : SS) => ((r1 = r3 → (K S4)) ∧ (¬ r1 = r3 → False))))))
set_option maxHeartbeats 8000000 in
set_option maxRecDepth 100000 in
theorem lc_17 (C0 : Bd p s m meth c #[.ref b] code 8 ret wsnL_law RL D n0 cI cJ) (hlt : l.stackTraces = false) (hX : va_X b L xs s s.heap) (hbl : b < s.heap.size) (hbA : ¬ fr n0 b) (K : SS → Prop) (hc : cl + 2 ≤ room_1.cells) (hs : sl + 12 ≤ room_1.slots) (hi : i + 6 ≤ L) (hL : L ≤ 3072) (S : SS) (hV : VL_17 (fun j => xs (i + j)) S K) (hw : Wh D n0 ad cI cJ [] S s H locs) {ls : Array Slot} (hl : lv_has ls 8 [(0, .ref b), (1, .ref (ad 0)), (2, .ref (ad 48)), (3, .ref (ad 64)), (4, .int (nI i))]) (kk : ∀ S1 : SS, K S1 → ∀ (H1 : Heap) (locs1 : List Loc), Wh D n0 ad cI cJ [] S1 s H1 locs1 → ∀ ls1 : Array Slot, lv_has ls1 8 [(0, .ref b), (1, .ref (ad 0)), (2, .ref (ad 48)), (3, .ref (ad 64)), (4, .int (nI i))] → W p l e room_1 s m #[.ref b] below meth c H1 locs1 (cl + 2) (sl + 12) Q (F0 m 1908 ls1 [])) : W p l e room_1 s m #[.ref b] below meth c H locs cl sl Q (F0 m 1180 ls []) := by
  unfold VL_17 at hV
  refine lv_aload_n C0.x C0.b dL_law_1180 rfl (lv_at hl 1 rfl) ?_
  refine r_cV_i (As := []) (rest := []) C0 hw (c_X7_shape hV) (cwV 0 C0.ts ngL_law_X7_shape rfl rfl rfl hd_X7_shape ⟨Nat.le_of_ble_eq_true rfl, Nat.le_of_ble_eq_true rfl⟩) (lg_0 ad cI cJ [] S) rfl rfl hl.1 rfl (Nat.le_of_ble_eq_true rfl) ⟨by omega, by omega⟩ dL_law_1181 (fun r1 S2 H locs hV hw => ?_)
  refine lv_aload_n C0.x C0.b dL_law_1184 rfl (lv_at hl 2 rfl) ?_
  refine r_cV_i (As := []) (rest := [.int r1]) C0 hw (c_X8_shape hV) (cwV 0 C0.ts ngL_law_X8_shape rfl rfl rfl hd_X8_shape ⟨Nat.le_of_ble_eq_true rfl, Nat.le_of_ble_eq_true rfl⟩) (lg_48 ad cI cJ [] S2) rfl rfl hl.1 rfl (Nat.le_of_ble_eq_true rfl) ⟨by omega, by omega⟩ dL_law_1185 (fun r3 S4 H locs hV hw => ?_)
  refine lv_icmp_eq (tgt := 1908) C0.x C0.b dL_law_1188 (by decide) (fun c5 => ?_) (fun c5 => ?_)
  · have hV := hV.1 c5
    refine W.widen (k := cl + 2) (n := sl + 12) (by omega) (by omega) ?_
    exact kk _ hV _ _ hw _ (lv_sub hl [0, 1, 2, 3, 4] rfl)
  · have hV := hV.2 c5
    refine lv_iconst (v := 0) C0.x C0.b dL_law_1191 (by decide) ?_
    exact hV.elim
end
