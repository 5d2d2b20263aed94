section
variable {p : Program} {l : Launch} {e : Env} {s : State} {m : MethodId} {below : List Frame} {meth : Method} {c : Code} {H : Heap} {locs : List Loc} {Q : State → Prop}
variable {D : va_G} {n0 : Nat} {ad : Nat → Nat} {cI cJ : ClassId} {b L i cl sl : Nat} {xs : Nat → Int32}
def VL_18 (a : Nat → Int32) (S : SS) (K : SS → Prop) : Prop :=
  (V_X7_ring  S (fun (r1 : Int32) (S2 : SS) => (V_X8_ring  S2 (fun (r3 : Int32) (S4 : SS) => ((r1 = r3 → (K S4)) ∧ (¬ r1 = r3 → False))))))
set_option maxHeartbeats 8000000 in
set_option maxRecDepth 100000 in
theorem lc_18 (C0 : Bd p s m meth c #[.ref b] code 8 ret wsnL_law RL D n0 cI cJ) (hlt : l.stackTraces = false) (hX : va_X b L xs s s.heap) (hbl : b < s.heap.size) (hbA : ¬ fr n0 b) (K : SS → Prop) (hc : cl + 2 ≤ room_1.cells) (hs : sl + 12 ≤ room_1.slots) (hi : i + 6 ≤ L) (hL : L ≤ 3072) (S : SS) (hV : VL_18 (fun j => xs (i + j)) S K) (hw : Wh D n0 ad cI cJ [] S s H locs) {ls : Array Slot} (hl : lv_has ls 8 [(0, .ref b), (1, .ref (ad 0)), (2, .ref (ad 48)), (3, .ref (ad 64)), (4, .int (nI i))]) (kk : ∀ S1 : SS, K S1 → ∀ (H1 : Heap) (locs1 : List Loc), Wh D n0 ad cI cJ [] S1 s H1 locs1 → ∀ ls1 : Array Slot, lv_has ls1 8 [(0, .ref b), (1, .ref (ad 0)), (2, .ref (ad 48)), (3, .ref (ad 64)), (4, .int (nI i))] → W p l e room_1 s m #[.ref b] below meth c H1 locs1 (cl + 2) (sl + 12) Q (F0 m 1908 ls1 [])) : W p l e room_1 s m #[.ref b] below meth c H locs cl sl Q (F0 m 1193 ls []) := by
  unfold VL_18 at hV
  refine lv_aload_n C0.x C0.b dL_law_1193 rfl (lv_at hl 1 rfl) ?_
  refine r_cV_i (As := []) (rest := []) C0 hw (c_X7_ring hV) (cwV 0 C0.ts ngL_law_X7_ring rfl rfl rfl hd_X7_ring ⟨Nat.le_of_ble_eq_true rfl, Nat.le_of_ble_eq_true rfl⟩) (lg_0 ad cI cJ [] S) rfl rfl hl.1 rfl (Nat.le_of_ble_eq_true rfl) ⟨by omega, by omega⟩ dL_law_1194 (fun r1 S2 H locs hV hw => ?_)
  refine lv_aload_n C0.x C0.b dL_law_1197 rfl (lv_at hl 2 rfl) ?_
  refine r_cV_i (As := []) (rest := [.int r1]) C0 hw (c_X8_ring hV) (cwV 0 C0.ts ngL_law_X8_ring rfl rfl rfl hd_X8_ring ⟨Nat.le_of_ble_eq_true rfl, Nat.le_of_ble_eq_true rfl⟩) (lg_48 ad cI cJ [] S2) rfl rfl hl.1 rfl (Nat.le_of_ble_eq_true rfl) ⟨by omega, by omega⟩ dL_law_1198 (fun r3 S4 H locs hV hw => ?_)
  refine lv_icmp_eq (tgt := 1908) C0.x C0.b dL_law_1201 (by decide) (fun c5 => ?_) (fun c5 => ?_)
  · have hV := hV.1 c5
    refine W.widen (k := cl + 2) (n := sl + 12) (by omega) (by omega) ?_
    exact kk _ hV _ _ hw _ (lv_sub hl [0, 1, 2, 3, 4] rfl)
  · have hV := hV.2 c5
    refine lv_iconst (v := 0) C0.x C0.b dL_law_1204 (by decide) ?_
    exact hV.elim
def VL_19 (a : Nat → Int32) (S : SS) (K : SS → Prop) : Prop :=
  (V_X7_rings (a 1) S (fun (r1 : Int32) (S2 : SS) => (V_X8_rings (a 1) S2 (fun (r3 : Int32) (S4 : SS) => ((r1 = r3 → (K S4)) ∧ (¬ r1 = r3 → False))))))
set_option maxHeartbeats 8000000 in
set_option maxRecDepth 100000 in
theorem lc_19 (C0 : Bd p s m meth c #[.ref b] code 8 ret wsnL_law RL D n0 cI cJ) (hlt : l.stackTraces = false) (hX : va_X b L xs s s.heap) (hbl : b < s.heap.size) (hbA : ¬ fr n0 b) (K : SS → Prop) (hc : cl + 2 ≤ room_1.cells) (hs : sl + 12 ≤ room_1.slots) (hi : i + 6 ≤ L) (hL : L ≤ 3072) (S : SS) (hV : VL_19 (fun j => xs (i + j)) S K) (hw : Wh D n0 ad cI cJ [] S s H locs) {ls : Array Slot} (hl : lv_has ls 8 [(0, .ref b), (1, .ref (ad 0)), (2, .ref (ad 48)), (3, .ref (ad 64)), (4, .int (nI i))]) (kk : ∀ S1 : SS, K S1 → ∀ (H1 : Heap) (locs1 : List Loc), Wh D n0 ad cI cJ [] S1 s H1 locs1 → ∀ ls1 : Array Slot, lv_has ls1 8 [(0, .ref b), (1, .ref (ad 0)), (2, .ref (ad 48)), (3, .ref (ad 64)), (4, .int (nI i))] → W p l e room_1 s m #[.ref b] below meth c H1 locs1 (cl + 2) (sl + 12) Q (F0 m 1908 ls1 [])) : W p l e room_1 s m #[.ref b] below meth c H locs cl sl Q (F0 m 1206 ls []) := by
  unfold VL_19 at hV
  refine lv_aload_n C0.x C0.b dL_law_1206 rfl (lv_at hl 1 rfl) ?_
  refine lv_aload_n C0.x C0.b dL_law_1207 rfl (lv_at hl 0 rfl) ?_
  refine lv_iload C0.x C0.b dL_law_1208 (lv_at hl 4 rfl) ?_
  refine lv_iconst (v := 1) C0.x C0.b dL_law_1210 (by decide) ?_
  refine lv_iadd C0.x C0.b dL_law_1211 ?_
  refine r_scr 1 C0 hX hbl hbA hw (by omega) hL dL_law_1212 ?_
  refine r_cV_i (As := [.int (xs (i + 1))]) (rest := []) C0 hw (c_X7_rings hV) (cwV 1 C0.ts ngL_law_X7_rings rfl rfl rfl hd_X7_rings ⟨Nat.le_of_ble_eq_true rfl, Nat.le_of_ble_eq_true rfl⟩) (lg_0 ad cI cJ [] S) rfl rfl hl.1 rfl (Nat.le_of_ble_eq_true rfl) ⟨by omega, by omega⟩ dL_law_1213 (fun r1 S2 H locs hV hw => ?_)
  refine lv_aload_n C0.x C0.b dL_law_1216 rfl (lv_at hl 2 rfl) ?_
  refine lv_aload_n C0.x C0.b dL_law_1217 rfl (lv_at hl 0 rfl) ?_
  refine lv_iload C0.x C0.b dL_law_1218 (lv_at hl 4 rfl) ?_
  refine lv_iconst (v := 1) C0.x C0.b dL_law_1220 (by decide) ?_
  refine lv_iadd C0.x C0.b dL_law_1221 ?_
  refine r_scr 1 C0 hX hbl hbA hw (by omega) hL dL_law_1222 ?_
  refine r_cV_i (As := [.int (xs (i + 1))]) (rest := [.int r1]) C0 hw (c_X8_rings hV) (cwV 1 C0.ts ngL_law_X8_rings rfl rfl rfl hd_X8_rings ⟨Nat.le_of_ble_eq_true rfl, Nat.le_of_ble_eq_true rfl⟩) (lg_48 ad cI cJ [] S2) rfl rfl hl.1 rfl (Nat.le_of_ble_eq_true rfl) ⟨by omega, by omega⟩ dL_law_1223 (fun r3 S4 H locs hV hw => ?_)
  refine lv_icmp_eq (tgt := 1908) C0.x C0.b dL_law_1226 (by decide) (fun c5 => ?_) (fun c5 => ?_)
  · have hV := hV.1 c5
    refine W.widen (k := cl + 2) (n := sl + 12) (by omega) (by omega) ?_
    exact kk _ hV _ _ hw _ (lv_sub hl [0, 1, 2, 3, 4] rfl)
  · have hV := hV.2 c5
    refine lv_iconst (v := 0) C0.x C0.b dL_law_1229 (by decide) ?_
    exact hV.elim
def VL_20 (a : Nat → Int32) (S : SS) (K : SS → Prop) : Prop :=
  (V_X7_falls (a 1) S (fun (r1 : Int32) (S2 : SS) => (V_X8_falls (a 1) S2 (fun (r3 : Int32) (S4 : SS) => ((r1 = r3 → (K S4)) ∧ (¬ r1 = r3 → False))))))
set_option maxHeartbeats 8000000 in
set_option maxRecDepth 100000 in
theorem lc_20 (C0 : Bd p s m meth c #[.ref b] code 8 ret wsnL_law RL D n0 cI cJ) (hlt : l.stackTraces = false) (hX : va_X b L xs s s.heap) (hbl : b < s.heap.size) (hbA : ¬ fr n0 b) (K : SS → Prop) (hc : cl + 2 ≤ room_1.cells) (hs : sl + 12 ≤ room_1.slots) (hi : i + 6 ≤ L) (hL : L ≤ 3072) (S : SS) (hV : VL_20 (fun j => xs (i + j)) S K) (hw : Wh D n0 ad cI cJ [] S s H locs) {ls : Array Slot} (hl : lv_has ls 8 [(0, .ref b), (1, .ref (ad 0)), (2, .ref (ad 48)), (3, .ref (ad 64)), (4, .int (nI i))]) (kk : ∀ S1 : SS, K S1 → ∀ (H1 : Heap) (locs1 : List Loc), Wh D n0 ad cI cJ [] S1 s H1 locs1 → ∀ ls1 : Array Slot, lv_has ls1 8 [(0, .ref b), (1, .ref (ad 0)), (2, .ref (ad 48)), (3, .ref (ad 64)), (4, .int (nI i))] → W p l e room_1 s m #[.ref b] below meth c H1 locs1 (cl + 2) (sl + 12) Q (F0 m 1908 ls1 [])) : W p l e room_1 s m #[.ref b] below meth c H locs cl sl Q (F0 m 1231 ls []) := by
  unfold VL_20 at hV
  refine lv_aload_n C0.x C0.b dL_law_1231 rfl (lv_at hl 1 rfl) ?_
  refine lv_aload_n C0.x C0.b dL_law_1232 rfl (lv_at hl 0 rfl) ?_
  refine lv_iload C0.x C0.b dL_law_1233 (lv_at hl 4 rfl) ?_
  refine lv_iconst (v := 1) C0.x C0.b dL_law_1235 (by decide) ?_
  refine lv_iadd C0.x C0.b dL_law_1236 ?_
  refine r_scr 1 C0 hX hbl hbA hw (by omega) hL dL_law_1237 ?_
  refine r_cV_i (As := [.int (xs (i + 1))]) (rest := []) C0 hw (c_X7_falls hV) (cwV 1 C0.ts ngL_law_X7_falls rfl rfl rfl hd_X7_falls ⟨Nat.le_of_ble_eq_true rfl, Nat.le_of_ble_eq_true rfl⟩) (lg_0 ad cI cJ [] S) rfl rfl hl.1 rfl (Nat.le_of_ble_eq_true rfl) ⟨by omega, by omega⟩ dL_law_1238 (fun r1 S2 H locs hV hw => ?_)
  refine lv_aload_n C0.x C0.b dL_law_1241 rfl (lv_at hl 2 rfl) ?_
  refine lv_aload_n C0.x C0.b dL_law_1242 rfl (lv_at hl 0 rfl) ?_
  refine lv_iload C0.x C0.b dL_law_1243 (lv_at hl 4 rfl) ?_
  refine lv_iconst (v := 1) C0.x C0.b dL_law_1245 (by decide) ?_
  refine lv_iadd C0.x C0.b dL_law_1246 ?_
  refine r_scr 1 C0 hX hbl hbA hw (by omega) hL dL_law_1247 ?_
  refine r_cV_i (As := [.int (xs (i + 1))]) (rest := [.int r1]) C0 hw (c_X8_falls hV) (cwV 1 C0.ts ngL_law_X8_falls rfl rfl rfl hd_X8_falls ⟨Nat.le_of_ble_eq_true rfl, Nat.le_of_ble_eq_true rfl⟩) (lg_48 ad cI cJ [] S2) rfl rfl hl.1 rfl (Nat.le_of_ble_eq_true rfl) ⟨by omega, by omega⟩ dL_law_1248 (fun r3 S4 H locs hV hw => ?_)
  refine lv_icmp_eq (tgt := 1908) C0.x C0.b dL_law_1251 (by decide) (fun c5 => ?_) (fun c5 => ?_)
  · have hV := hV.1 c5
    refine W.widen (k := cl + 2) (n := sl + 12) (by omega) (by omega) ?_
    exact kk _ hV _ _ hw _ (lv_sub hl [0, 1, 2, 3, 4] rfl)
  · have hV := hV.2 c5
    refine lv_iconst (v := 0) C0.x C0.b dL_law_1254 (by decide) ?_
    exact hV.elim
def VL_21 (a : Nat → Int32) (S : SS) (K : SS → Prop) : Prop :=
  (V_X7_least (a 1) (a 2) S (fun (r1 : Int32) (S2 : SS) => (V_X8_least (a 1) (a 2) S2 (fun (r3 : Int32) (S4 : SS) => ((r1 = r3 → (K S4)) ∧ (¬ r1 = r3 → False))))))
set_option maxHeartbeats 8000000 in
set_option maxRecDepth 100000 in
theorem lc_21 (C0 : Bd p s m meth c #[.ref b] code 8 ret wsnL_law RL D n0 cI cJ) (hlt : l.stackTraces = false) (hX : va_X b L xs s s.heap) (hbl : b < s.heap.size) (hbA : ¬ fr n0 b) (K : SS → Prop) (hc : cl + 2 ≤ room_1.cells) (hs : sl + 12 ≤ room_1.slots) (hi : i + 6 ≤ L) (hL : L ≤ 3072) (S : SS) (hV : VL_21 (fun j => xs (i + j)) S K) (hw : Wh D n0 ad cI cJ [] S s H locs) {ls : Array Slot} (hl : lv_has ls 8 [(0, .ref b), (1, .ref (ad 0)), (2, .ref (ad 48)), (3, .ref (ad 64)), (4, .int (nI i))]) (kk : ∀ S1 : SS, K S1 → ∀ (H1 : Heap) (locs1 : List Loc), Wh D n0 ad cI cJ [] S1 s H1 locs1 → ∀ ls1 : Array Slot, lv_has ls1 8 [(0, .ref b), (1, .ref (ad 0)), (2, .ref (ad 48)), (3, .ref (ad 64)), (4, .int (nI i))] → W p l e room_1 s m #[.ref b] below meth c H1 locs1 (cl + 2) (sl + 12) Q (F0 m 1908 ls1 [])) : W p l e room_1 s m #[.ref b] below meth c H locs cl sl Q (F0 m 1256 ls []) := by
  unfold VL_21 at hV
  refine lv_aload_n C0.x C0.b dL_law_1256 rfl (lv_at hl 1 rfl) ?_
  refine lv_aload_n C0.x C0.b dL_law_1257 rfl (lv_at hl 0 rfl) ?_
  refine lv_iload C0.x C0.b dL_law_1258 (lv_at hl 4 rfl) ?_
  refine lv_iconst (v := 1) C0.x C0.b dL_law_1260 (by decide) ?_
  refine lv_iadd C0.x C0.b dL_law_1261 ?_
  refine r_scr 1 C0 hX hbl hbA hw (by omega) hL dL_law_1262 ?_
  refine lv_aload_n C0.x C0.b dL_law_1263 rfl (lv_at hl 0 rfl) ?_
  refine lv_iload C0.x C0.b dL_law_1264 (lv_at hl 4 rfl) ?_
  refine lv_iconst (v := 2) C0.x C0.b dL_law_1266 (by decide) ?_
  refine lv_iadd C0.x C0.b dL_law_1267 ?_
  refine r_scr 2 C0 hX hbl hbA hw (by omega) hL dL_law_1268 ?_
  refine r_cV_i (As := [.int (xs (i + 1)), .int (xs (i + 2))]) (rest := []) C0 hw (c_X7_least hV) (cwV 2 C0.ts ngL_law_X7_least rfl rfl rfl hd_X7_least ⟨Nat.le_of_ble_eq_true rfl, Nat.le_of_ble_eq_true rfl⟩) (lg_0 ad cI cJ [] S) rfl rfl hl.1 rfl (Nat.le_of_ble_eq_true rfl) ⟨by omega, by omega⟩ dL_law_1269 (fun r1 S2 H locs hV hw => ?_)
  refine lv_aload_n C0.x C0.b dL_law_1272 rfl (lv_at hl 2 rfl) ?_
  refine lv_aload_n C0.x C0.b dL_law_1273 rfl (lv_at hl 0 rfl) ?_
  refine lv_iload C0.x C0.b dL_law_1274 (lv_at hl 4 rfl) ?_
  refine lv_iconst (v := 1) C0.x C0.b dL_law_1276 (by decide) ?_
  refine lv_iadd C0.x C0.b dL_law_1277 ?_
  refine r_scr 1 C0 hX hbl hbA hw (by omega) hL dL_law_1278 ?_
  refine lv_aload_n C0.x C0.b dL_law_1279 rfl (lv_at hl 0 rfl) ?_
  refine lv_iload C0.x C0.b dL_law_1280 (lv_at hl 4 rfl) ?_
  refine lv_iconst (v := 2) C0.x C0.b dL_law_1282 (by decide) ?_
  refine lv_iadd C0.x C0.b dL_law_1283 ?_
  refine r_scr 2 C0 hX hbl hbA hw (by omega) hL dL_law_1284 ?_
  refine r_cV_i (As := [.int (xs (i + 1)), .int (xs (i + 2))]) (rest := [.int r1]) C0 hw (c_X8_least hV) (cwV 2 C0.ts ngL_law_X8_least rfl rfl rfl hd_X8_least ⟨Nat.le_of_ble_eq_true rfl, Nat.le_of_ble_eq_true rfl⟩) (lg_48 ad cI cJ [] S2) rfl rfl hl.1 rfl (Nat.le_of_ble_eq_true rfl) ⟨by omega, by omega⟩ dL_law_1285 (fun r3 S4 H locs hV hw => ?_)
  refine lv_icmp_eq (tgt := 1908) C0.x C0.b dL_law_1288 (by decide) (fun c5 => ?_) (fun c5 => ?_)
  · have hV := hV.1 c5
    refine W.widen (k := cl + 2) (n := sl + 12) (by omega) (by omega) ?_
    exact kk _ hV _ _ hw _ (lv_sub hl [0, 1, 2, 3, 4] rfl)
  · have hV := hV.2 c5
    refine lv_iconst (v := 0) C0.x C0.b dL_law_1291 (by decide) ?_
    exact hV.elim
def VL_22 (a : Nat → Int32) (S : SS) (K : SS → Prop) : Prop :=
  (V_X7_back (((a 1).toInt64 <<< ((32 : Int32).toInt64 &&& 63)) ||| ((a 2).toInt64 &&& (4294967295 : Int64))) S (fun (r1 : Int32) (S2 : SS) => (V_X8_back (((a 1).toInt64 <<< ((32 : Int32).toInt64 &&& 63)) ||| ((a 2).toInt64 &&& (4294967295 : Int64))) S2 (fun (r3 : Int32) (S4 : SS) => ((r1 = r3 → (K S4)) ∧ (¬ r1 = r3 → False))))))
set_option maxHeartbeats 8000000 in
set_option maxRecDepth 100000 in
theorem lc_22 (C0 : Bd p s m meth c #[.ref b] code 8 ret wsnL_law RL D n0 cI cJ) (hlt : l.stackTraces = false) (hX : va_X b L xs s s.heap) (hbl : b < s.heap.size) (hbA : ¬ fr n0 b) (K : SS → Prop) (hc : cl + 2 ≤ room_1.cells) (hs : sl + 12 ≤ room_1.slots) (hi : i + 6 ≤ L) (hL : L ≤ 3072) (S : SS) (hV : VL_22 (fun j => xs (i + j)) S K) (hw : Wh D n0 ad cI cJ [] S s H locs) {ls : Array Slot} (hl : lv_has ls 8 [(0, .ref b), (1, .ref (ad 0)), (2, .ref (ad 48)), (3, .ref (ad 64)), (4, .int (nI i))]) (kk : ∀ S1 : SS, K S1 → ∀ (H1 : Heap) (locs1 : List Loc), Wh D n0 ad cI cJ [] S1 s H1 locs1 → ∀ ls1 : Array Slot, lv_has ls1 8 [(0, .ref b), (1, .ref (ad 0)), (2, .ref (ad 48)), (3, .ref (ad 64)), (4, .int (nI i))] → W p l e room_1 s m #[.ref b] below meth c H1 locs1 (cl + 2) (sl + 12) Q (F0 m 1908 ls1 [])) : W p l e room_1 s m #[.ref b] below meth c H locs cl sl Q (F0 m 1293 ls []) := by
  unfold VL_22 at hV
  refine lv_aload_n C0.x C0.b dL_law_1293 rfl (lv_at hl 1 rfl) ?_
  refine lv_aload_n C0.x C0.b dL_law_1294 rfl (lv_at hl 0 rfl) ?_
  refine lv_iload C0.x C0.b dL_law_1295 (lv_at hl 4 rfl) ?_
  refine lv_iconst (v := 1) C0.x C0.b dL_law_1297 (by decide) ?_
  refine lv_iadd C0.x C0.b dL_law_1298 ?_
  refine r_scr 1 C0 hX hbl hbA hw (by omega) hL dL_law_1299 ?_
  refine lv_i2l C0.x C0.b dL_law_1300 rfl ?_
  refine lv_bipush (v := 32) C0.x C0.b dL_law_1301 (by decide) ?_
  refine lv_lshl C0.x C0.b dL_law_1303 rfl ?_
  refine lv_aload_n C0.x C0.b dL_law_1304 rfl (lv_at hl 0 rfl) ?_
  refine lv_iload C0.x C0.b dL_law_1305 (lv_at hl 4 rfl) ?_
  refine lv_iconst (v := 2) C0.x C0.b dL_law_1307 (by decide) ?_
  refine lv_iadd C0.x C0.b dL_law_1308 ?_
  refine r_scr 2 C0 hX hbl hbA hw (by omega) hL dL_law_1309 ?_
  refine lv_i2l C0.x C0.b dL_law_1310 rfl ?_
  refine lv_ldc2 (v := 4294967295) C0.x C0.b C0.ow (C0.ts _ cw_L_law_58) dL_law_1311 ?_
  refine lv_land C0.x C0.b dL_law_1314 ?_
  refine lv_lor C0.x C0.b dL_law_1315 ?_
  refine r_cV_i (As := [.long (((xs (i + 1)).toInt64 <<< ((32 : Int32).toInt64 &&& 63)) ||| ((xs (i + 2)).toInt64 &&& (4294967295 : Int64)))]) (rest := []) C0 hw (c_X7_back hV) (cwV 1 C0.ts ngL_law_X7_back rfl rfl rfl hd_X7_back ⟨Nat.le_of_ble_eq_true rfl, Nat.le_of_ble_eq_true rfl⟩) (lg_0 ad cI cJ [] S) rfl rfl hl.1 rfl (Nat.le_of_ble_eq_true rfl) ⟨by omega, by omega⟩ dL_law_1316 (fun r1 S2 H locs hV hw => ?_)
  refine lv_aload_n C0.x C0.b dL_law_1319 rfl (lv_at hl 2 rfl) ?_
  refine lv_aload_n C0.x C0.b dL_law_1320 rfl (lv_at hl 0 rfl) ?_
  refine lv_iload C0.x C0.b dL_law_1321 (lv_at hl 4 rfl) ?_
  refine lv_iconst (v := 1) C0.x C0.b dL_law_1323 (by decide) ?_
  refine lv_iadd C0.x C0.b dL_law_1324 ?_
  refine r_scr 1 C0 hX hbl hbA hw (by omega) hL dL_law_1325 ?_
  refine lv_i2l C0.x C0.b dL_law_1326 rfl ?_
  refine lv_bipush (v := 32) C0.x C0.b dL_law_1327 (by decide) ?_
  refine lv_lshl C0.x C0.b dL_law_1329 rfl ?_
  refine lv_aload_n C0.x C0.b dL_law_1330 rfl (lv_at hl 0 rfl) ?_
  refine lv_iload C0.x C0.b dL_law_1331 (lv_at hl 4 rfl) ?_
  refine lv_iconst (v := 2) C0.x C0.b dL_law_1333 (by decide) ?_
  refine lv_iadd C0.x C0.b dL_law_1334 ?_
  refine r_scr 2 C0 hX hbl hbA hw (by omega) hL dL_law_1335 ?_
  refine lv_i2l C0.x C0.b dL_law_1336 rfl ?_
  refine lv_ldc2 (v := 4294967295) C0.x C0.b C0.ow (C0.ts _ cw_L_law_58) dL_law_1337 ?_
  refine lv_land C0.x C0.b dL_law_1340 ?_
  refine lv_lor C0.x C0.b dL_law_1341 ?_
  refine r_cV_i (As := [.long (((xs (i + 1)).toInt64 <<< ((32 : Int32).toInt64 &&& 63)) ||| ((xs (i + 2)).toInt64 &&& (4294967295 : Int64)))]) (rest := [.int r1]) C0 hw (c_X8_back hV) (cwV 1 C0.ts ngL_law_X8_back rfl rfl rfl hd_X8_back ⟨Nat.le_of_ble_eq_true rfl, Nat.le_of_ble_eq_true rfl⟩) (lg_48 ad cI cJ [] S2) rfl rfl hl.1 rfl (Nat.le_of_ble_eq_true rfl) ⟨by omega, by omega⟩ dL_law_1342 (fun r3 S4 H locs hV hw => ?_)
  refine lv_icmp_eq (tgt := 1908) C0.x C0.b dL_law_1345 (by decide) (fun c5 => ?_) (fun c5 => ?_)
  · have hV := hV.1 c5
    refine W.widen (k := cl + 2) (n := sl + 12) (by omega) (by omega) ?_
    exact kk _ hV _ _ hw _ (lv_sub hl [0, 1, 2, 3, 4] rfl)
  · have hV := hV.2 c5
    refine lv_iconst (v := 0) C0.x C0.b dL_law_1348 (by decide) ?_
    exact hV.elim
def VL_23 (a : Nat → Int32) (S : SS) (K : SS → Prop) : Prop :=
  (V_X7_whole (((a 1).toInt64 <<< ((32 : Int32).toInt64 &&& 63)) ||| ((a 2).toInt64 &&& (4294967295 : Int64))) S (fun (r1 : Int64) (S2 : SS) => (V_X8_whole (((a 1).toInt64 <<< ((32 : Int32).toInt64 &&& 63)) ||| ((a 2).toInt64 &&& (4294967295 : Int64))) S2 (fun (r3 : Int64) (S4 : SS) => ((r1 = r3 → (K S4)) ∧ (¬ r1 = r3 → False))))))
set_option maxHeartbeats 8000000 in
set_option maxRecDepth 100000 in
theorem lc_23 (C0 : Bd p s m meth c #[.ref b] code 8 ret wsnL_law RL D n0 cI cJ) (hlt : l.stackTraces = false) (hX : va_X b L xs s s.heap) (hbl : b < s.heap.size) (hbA : ¬ fr n0 b) (K : SS → Prop) (hc : cl + 2 ≤ room_1.cells) (hs : sl + 12 ≤ room_1.slots) (hi : i + 6 ≤ L) (hL : L ≤ 3072) (S : SS) (hV : VL_23 (fun j => xs (i + j)) S K) (hw : Wh D n0 ad cI cJ [] S s H locs) {ls : Array Slot} (hl : lv_has ls 8 [(0, .ref b), (1, .ref (ad 0)), (2, .ref (ad 48)), (3, .ref (ad 64)), (4, .int (nI i))]) (kk : ∀ S1 : SS, K S1 → ∀ (H1 : Heap) (locs1 : List Loc), Wh D n0 ad cI cJ [] S1 s H1 locs1 → ∀ ls1 : Array Slot, lv_has ls1 8 [(0, .ref b), (1, .ref (ad 0)), (2, .ref (ad 48)), (3, .ref (ad 64)), (4, .int (nI i))] → W p l e room_1 s m #[.ref b] below meth c H1 locs1 (cl + 2) (sl + 12) Q (F0 m 1908 ls1 [])) : W p l e room_1 s m #[.ref b] below meth c H locs cl sl Q (F0 m 1350 ls []) := by
  unfold VL_23 at hV
  refine lv_aload_n C0.x C0.b dL_law_1350 rfl (lv_at hl 1 rfl) ?_
  refine lv_aload_n C0.x C0.b dL_law_1351 rfl (lv_at hl 0 rfl) ?_
  refine lv_iload C0.x C0.b dL_law_1352 (lv_at hl 4 rfl) ?_
  refine lv_iconst (v := 1) C0.x C0.b dL_law_1354 (by decide) ?_
  refine lv_iadd C0.x C0.b dL_law_1355 ?_
  refine r_scr 1 C0 hX hbl hbA hw (by omega) hL dL_law_1356 ?_
  refine lv_i2l C0.x C0.b dL_law_1357 rfl ?_
  refine lv_bipush (v := 32) C0.x C0.b dL_law_1358 (by decide) ?_
  refine lv_lshl C0.x C0.b dL_law_1360 rfl ?_
  refine lv_aload_n C0.x C0.b dL_law_1361 rfl (lv_at hl 0 rfl) ?_
  refine lv_iload C0.x C0.b dL_law_1362 (lv_at hl 4 rfl) ?_
  refine lv_iconst (v := 2) C0.x C0.b dL_law_1364 (by decide) ?_
  refine lv_iadd C0.x C0.b dL_law_1365 ?_
  refine r_scr 2 C0 hX hbl hbA hw (by omega) hL dL_law_1366 ?_
  refine lv_i2l C0.x C0.b dL_law_1367 rfl ?_
  refine lv_ldc2 (v := 4294967295) C0.x C0.b C0.ow (C0.ts _ cw_L_law_58) dL_law_1368 ?_
  refine lv_land C0.x C0.b dL_law_1371 ?_
  refine lv_lor C0.x C0.b dL_law_1372 ?_
  refine r_cV_l (As := [.long (((xs (i + 1)).toInt64 <<< ((32 : Int32).toInt64 &&& 63)) ||| ((xs (i + 2)).toInt64 &&& (4294967295 : Int64)))]) (rest := []) C0 hw (c_X7_whole hV) (cwV 1 C0.ts ngL_law_X7_whole rfl rfl rfl hd_X7_whole ⟨Nat.le_of_ble_eq_true rfl, Nat.le_of_ble_eq_true rfl⟩) (lg_0 ad cI cJ [] S) rfl rfl hl.1 rfl (Nat.le_of_ble_eq_true rfl) ⟨by omega, by omega⟩ dL_law_1373 (fun r1 S2 H locs hV hw => ?_)
  refine lv_aload_n C0.x C0.b dL_law_1376 rfl (lv_at hl 2 rfl) ?_
  refine lv_aload_n C0.x C0.b dL_law_1377 rfl (lv_at hl 0 rfl) ?_
  refine lv_iload C0.x C0.b dL_law_1378 (lv_at hl 4 rfl) ?_
  refine lv_iconst (v := 1) C0.x C0.b dL_law_1380 (by decide) ?_
  refine lv_iadd C0.x C0.b dL_law_1381 ?_
  refine r_scr 1 C0 hX hbl hbA hw (by omega) hL dL_law_1382 ?_
  refine lv_i2l C0.x C0.b dL_law_1383 rfl ?_
  refine lv_bipush (v := 32) C0.x C0.b dL_law_1384 (by decide) ?_
  refine lv_lshl C0.x C0.b dL_law_1386 rfl ?_
  refine lv_aload_n C0.x C0.b dL_law_1387 rfl (lv_at hl 0 rfl) ?_
  refine lv_iload C0.x C0.b dL_law_1388 (lv_at hl 4 rfl) ?_
  refine lv_iconst (v := 2) C0.x C0.b dL_law_1390 (by decide) ?_
  refine lv_iadd C0.x C0.b dL_law_1391 ?_
  refine r_scr 2 C0 hX hbl hbA hw (by omega) hL dL_law_1392 ?_
  refine lv_i2l C0.x C0.b dL_law_1393 rfl ?_
  refine lv_ldc2 (v := 4294967295) C0.x C0.b C0.ow (C0.ts _ cw_L_law_58) dL_law_1394 ?_
  refine lv_land C0.x C0.b dL_law_1397 ?_
  refine lv_lor C0.x C0.b dL_law_1398 ?_
  refine r_cV_l (As := [.long (((xs (i + 1)).toInt64 <<< ((32 : Int32).toInt64 &&& 63)) ||| ((xs (i + 2)).toInt64 &&& (4294967295 : Int64)))]) (rest := [.long r1]) C0 hw (c_X8_whole hV) (cwV 1 C0.ts ngL_law_X8_whole rfl rfl rfl hd_X8_whole ⟨Nat.le_of_ble_eq_true rfl, Nat.le_of_ble_eq_true rfl⟩) (lg_48 ad cI cJ [] S2) rfl rfl hl.1 rfl (Nat.le_of_ble_eq_true rfl) ⟨by omega, by omega⟩ dL_law_1399 (fun r3 S4 H locs hV hw => ?_)
  refine r_lcmp C0 dL_law_1402 ?_
  refine lv_if_eq (tgt := 1908) C0.x C0.b dL_law_1403 (by decide) (fun c5 => ?_) (fun c5 => ?_)
  · have hV := hV.1 ((lc_eq _ _).mp c5)
    refine W.widen (k := cl + 2) (n := sl + 12) (by omega) (by omega) ?_
    exact kk _ hV _ _ hw _ (lv_sub hl [0, 1, 2, 3, 4] rfl)
  · have hV := hV.2 (fun h => c5 ((lc_eq _ _).mpr h))
    refine lv_iconst (v := 0) C0.x C0.b dL_law_1406 (by decide) ?_
    exact hV.elim
def VL_24 (a : Nat → Int32) (S : SS) (K : SS → Prop) : Prop :=
  (V_X7_backs (((a 1).toInt64 <<< ((32 : Int32).toInt64 &&& 63)) ||| ((a 2).toInt64 &&& (4294967295 : Int64))) (a 3) S (fun (r1 : Int32) (S2 : SS) => (V_X8_backs (((a 1).toInt64 <<< ((32 : Int32).toInt64 &&& 63)) ||| ((a 2).toInt64 &&& (4294967295 : Int64))) (a 3) S2 (fun (r3 : Int32) (S4 : SS) => ((r1 = r3 → (K S4)) ∧ (¬ r1 = r3 → False))))))
set_option maxHeartbeats 8000000 in
set_option maxRecDepth 100000 in
theorem lc_24 (C0 : Bd p s m meth c #[.ref b] code 8 ret wsnL_law RL D n0 cI cJ) (hlt : l.stackTraces = false) (hX : va_X b L xs s s.heap) (hbl : b < s.heap.size) (hbA : ¬ fr n0 b) (K : SS → Prop) (hc : cl + 2 ≤ room_1.cells) (hs : sl + 12 ≤ room_1.slots) (hi : i + 6 ≤ L) (hL : L ≤ 3072) (S : SS) (hV : VL_24 (fun j => xs (i + j)) S K) (hw : Wh D n0 ad cI cJ [] S s H locs) {ls : Array Slot} (hl : lv_has ls 8 [(0, .ref b), (1, .ref (ad 0)), (2, .ref (ad 48)), (3, .ref (ad 64)), (4, .int (nI i))]) (kk : ∀ S1 : SS, K S1 → ∀ (H1 : Heap) (locs1 : List Loc), Wh D n0 ad cI cJ [] S1 s H1 locs1 → ∀ ls1 : Array Slot, lv_has ls1 8 [(0, .ref b), (1, .ref (ad 0)), (2, .ref (ad 48)), (3, .ref (ad 64)), (4, .int (nI i))] → W p l e room_1 s m #[.ref b] below meth c H1 locs1 (cl + 2) (sl + 12) Q (F0 m 1908 ls1 [])) : W p l e room_1 s m #[.ref b] below meth c H locs cl sl Q (F0 m 1408 ls []) := by
  unfold VL_24 at hV
  refine lv_aload_n C0.x C0.b dL_law_1408 rfl (lv_at hl 1 rfl) ?_
  refine lv_aload_n C0.x C0.b dL_law_1409 rfl (lv_at hl 0 rfl) ?_
  refine lv_iload C0.x C0.b dL_law_1410 (lv_at hl 4 rfl) ?_
  refine lv_iconst (v := 1) C0.x C0.b dL_law_1412 (by decide) ?_
  refine lv_iadd C0.x C0.b dL_law_1413 ?_
  refine r_scr 1 C0 hX hbl hbA hw (by omega) hL dL_law_1414 ?_
  refine lv_i2l C0.x C0.b dL_law_1415 rfl ?_
  refine lv_bipush (v := 32) C0.x C0.b dL_law_1416 (by decide) ?_
  refine lv_lshl C0.x C0.b dL_law_1418 rfl ?_
  refine lv_aload_n C0.x C0.b dL_law_1419 rfl (lv_at hl 0 rfl) ?_
  refine lv_iload C0.x C0.b dL_law_1420 (lv_at hl 4 rfl) ?_
  refine lv_iconst (v := 2) C0.x C0.b dL_law_1422 (by decide) ?_
  refine lv_iadd C0.x C0.b dL_law_1423 ?_
  refine r_scr 2 C0 hX hbl hbA hw (by omega) hL dL_law_1424 ?_
  refine lv_i2l C0.x C0.b dL_law_1425 rfl ?_
  refine lv_ldc2 (v := 4294967295) C0.x C0.b C0.ow (C0.ts _ cw_L_law_58) dL_law_1426 ?_
  refine lv_land C0.x C0.b dL_law_1429 ?_
  refine lv_lor C0.x C0.b dL_law_1430 ?_
  refine lv_aload_n C0.x C0.b dL_law_1431 rfl (lv_at hl 0 rfl) ?_
  refine lv_iload C0.x C0.b dL_law_1432 (lv_at hl 4 rfl) ?_
  refine lv_iconst (v := 3) C0.x C0.b dL_law_1434 (by decide) ?_
  refine lv_iadd C0.x C0.b dL_law_1435 ?_
  refine r_scr 3 C0 hX hbl hbA hw (by omega) hL dL_law_1436 ?_
  refine r_cV_i (As := [.long (((xs (i + 1)).toInt64 <<< ((32 : Int32).toInt64 &&& 63)) ||| ((xs (i + 2)).toInt64 &&& (4294967295 : Int64))), .int (xs (i + 3))]) (rest := []) C0 hw (c_X7_backs hV) (cwV 2 C0.ts ngL_law_X7_backs rfl rfl rfl hd_X7_backs ⟨Nat.le_of_ble_eq_true rfl, Nat.le_of_ble_eq_true rfl⟩) (lg_0 ad cI cJ [] S) rfl rfl hl.1 rfl (Nat.le_of_ble_eq_true rfl) ⟨by omega, by omega⟩ dL_law_1437 (fun r1 S2 H locs hV hw => ?_)
  refine lv_aload_n C0.x C0.b dL_law_1440 rfl (lv_at hl 2 rfl) ?_
  refine lv_aload_n C0.x C0.b dL_law_1441 rfl (lv_at hl 0 rfl) ?_
  refine lv_iload C0.x C0.b dL_law_1442 (lv_at hl 4 rfl) ?_
  refine lv_iconst (v := 1) C0.x C0.b dL_law_1444 (by decide) ?_
  refine lv_iadd C0.x C0.b dL_law_1445 ?_
  refine r_scr 1 C0 hX hbl hbA hw (by omega) hL dL_law_1446 ?_
  refine lv_i2l C0.x C0.b dL_law_1447 rfl ?_
  refine lv_bipush (v := 32) C0.x C0.b dL_law_1448 (by decide) ?_
  refine lv_lshl C0.x C0.b dL_law_1450 rfl ?_
  refine lv_aload_n C0.x C0.b dL_law_1451 rfl (lv_at hl 0 rfl) ?_
  refine lv_iload C0.x C0.b dL_law_1452 (lv_at hl 4 rfl) ?_
  refine lv_iconst (v := 2) C0.x C0.b dL_law_1454 (by decide) ?_
  refine lv_iadd C0.x C0.b dL_law_1455 ?_
  refine r_scr 2 C0 hX hbl hbA hw (by omega) hL dL_law_1456 ?_
  refine lv_i2l C0.x C0.b dL_law_1457 rfl ?_
  refine lv_ldc2 (v := 4294967295) C0.x C0.b C0.ow (C0.ts _ cw_L_law_58) dL_law_1458 ?_
  refine lv_land C0.x C0.b dL_law_1461 ?_
  refine lv_lor C0.x C0.b dL_law_1462 ?_
  refine lv_aload_n C0.x C0.b dL_law_1463 rfl (lv_at hl 0 rfl) ?_
  refine lv_iload C0.x C0.b dL_law_1464 (lv_at hl 4 rfl) ?_
  refine lv_iconst (v := 3) C0.x C0.b dL_law_1466 (by decide) ?_
  refine lv_iadd C0.x C0.b dL_law_1467 ?_
  refine r_scr 3 C0 hX hbl hbA hw (by omega) hL dL_law_1468 ?_
  refine r_cV_i (As := [.long (((xs (i + 1)).toInt64 <<< ((32 : Int32).toInt64 &&& 63)) ||| ((xs (i + 2)).toInt64 &&& (4294967295 : Int64))), .int (xs (i + 3))]) (rest := [.int r1]) C0 hw (c_X8_backs hV) (cwV 2 C0.ts ngL_law_X8_backs rfl rfl rfl hd_X8_backs ⟨Nat.le_of_ble_eq_true rfl, Nat.le_of_ble_eq_true rfl⟩) (lg_48 ad cI cJ [] S2) rfl rfl hl.1 rfl (Nat.le_of_ble_eq_true rfl) ⟨by omega, by omega⟩ dL_law_1469 (fun r3 S4 H locs hV hw => ?_)
  refine lv_icmp_eq (tgt := 1908) C0.x C0.b dL_law_1472 (by decide) (fun c5 => ?_) (fun c5 => ?_)
  · have hV := hV.1 c5
    refine W.widen (k := cl + 2) (n := sl + 12) (by omega) (by omega) ?_
    exact kk _ hV _ _ hw _ (lv_sub hl [0, 1, 2, 3, 4] rfl)
  · have hV := hV.2 c5
    refine lv_iconst (v := 0) C0.x C0.b dL_law_1475 (by decide) ?_
    exact hV.elim
def VL_25 (a : Nat → Int32) (S : SS) (K : SS → Prop) : Prop :=
  (V_X7_both  S (fun (r1 : Int32) (S2 : SS) => (V_X8_both  S2 (fun (r3 : Int32) (S4 : SS) => ((r1 = r3 → (K S4)) ∧ (¬ r1 = r3 → False))))))
set_option maxHeartbeats 8000000 in
set_option maxRecDepth 100000 in
theorem lc_25 (C0 : Bd p s m meth c #[.ref b] code 8 ret wsnL_law RL D n0 cI cJ) (hlt : l.stackTraces = false) (hX : va_X b L xs s s.heap) (hbl : b < s.heap.size) (hbA : ¬ fr n0 b) (K : SS → Prop) (hc : cl + 2 ≤ room_1.cells) (hs : sl + 12 ≤ room_1.slots) (hi : i + 6 ≤ L) (hL : L ≤ 3072) (S : SS) (hV : VL_25 (fun j => xs (i + j)) S K) (hw : Wh D n0 ad cI cJ [] S s H locs) {ls : Array Slot} (hl : lv_has ls 8 [(0, .ref b), (1, .ref (ad 0)), (2, .ref (ad 48)), (3, .ref (ad 64)), (4, .int (nI i))]) (kk : ∀ S1 : SS, K S1 → ∀ (H1 : Heap) (locs1 : List Loc), Wh D n0 ad cI cJ [] S1 s H1 locs1 → ∀ ls1 : Array Slot, lv_has ls1 8 [(0, .ref b), (1, .ref (ad 0)), (2, .ref (ad 48)), (3, .ref (ad 64)), (4, .int (nI i))] → W p l e room_1 s m #[.ref b] below meth c H1 locs1 (cl + 2) (sl + 12) Q (F0 m 1908 ls1 [])) : W p l e room_1 s m #[.ref b] below meth c H locs cl sl Q (F0 m 1477 ls []) := by
  unfold VL_25 at hV
  refine lv_aload_n C0.x C0.b dL_law_1477 rfl (lv_at hl 1 rfl) ?_
  refine r_cV_i (As := []) (rest := []) C0 hw (c_X7_both hV) (cwV 0 C0.ts ngL_law_X7_both rfl rfl rfl hd_X7_both ⟨Nat.le_of_ble_eq_true rfl, Nat.le_of_ble_eq_true rfl⟩) (lg_0 ad cI cJ [] S) rfl rfl hl.1 rfl (Nat.le_of_ble_eq_true rfl) ⟨by omega, by omega⟩ dL_law_1478 (fun r1 S2 H locs hV hw => ?_)
  refine lv_aload_n C0.x C0.b dL_law_1481 rfl (lv_at hl 2 rfl) ?_
  refine r_cV_i (As := []) (rest := [.int r1]) C0 hw (c_X8_both hV) (cwV 0 C0.ts ngL_law_X8_both rfl rfl rfl hd_X8_both ⟨Nat.le_of_ble_eq_true rfl, Nat.le_of_ble_eq_true rfl⟩) (lg_48 ad cI cJ [] S2) rfl rfl hl.1 rfl (Nat.le_of_ble_eq_true rfl) ⟨by omega, by omega⟩ dL_law_1482 (fun r3 S4 H locs hV hw => ?_)
  refine lv_icmp_eq (tgt := 1908) C0.x C0.b dL_law_1485 (by decide) (fun c5 => ?_) (fun c5 => ?_)
  · have hV := hV.1 c5
    refine W.widen (k := cl + 2) (n := sl + 12) (by omega) (by omega) ?_
    exact kk _ hV _ _ hw _ (lv_sub hl [0, 1, 2, 3, 4] rfl)
  · have hV := hV.2 c5
    refine lv_iconst (v := 0) C0.x C0.b dL_law_1488 (by decide) ?_
    exact hV.elim
def VL_26 (a : Nat → Int32) (S : SS) (K : SS → Prop) : Prop :=
  (V_X7_turn  S (fun (r1 : Int32) (S2 : SS) => (V_X8_turn  S2 (fun (r3 : Int32) (S4 : SS) => ((r1 = r3 → (K S4)) ∧ (¬ r1 = r3 → False))))))
set_option maxHeartbeats 8000000 in
set_option maxRecDepth 100000 in
theorem lc_26 (C0 : Bd p s m meth c #[.ref b] code 8 ret wsnL_law RL D n0 cI cJ) (hlt : l.stackTraces = false) (hX : va_X b L xs s s.heap) (hbl : b < s.heap.size) (hbA : ¬ fr n0 b) (K : SS → Prop) (hc : cl + 2 ≤ room_1.cells) (hs : sl + 12 ≤ room_1.slots) (hi : i + 6 ≤ L) (hL : L ≤ 3072) (S : SS) (hV : VL_26 (fun j => xs (i + j)) S K) (hw : Wh D n0 ad cI cJ [] S s H locs) {ls : Array Slot} (hl : lv_has ls 8 [(0, .ref b), (1, .ref (ad 0)), (2, .ref (ad 48)), (3, .ref (ad 64)), (4, .int (nI i))]) (kk : ∀ S1 : SS, K S1 → ∀ (H1 : Heap) (locs1 : List Loc), Wh D n0 ad cI cJ [] S1 s H1 locs1 → ∀ ls1 : Array Slot, lv_has ls1 8 [(0, .ref b), (1, .ref (ad 0)), (2, .ref (ad 48)), (3, .ref (ad 64)), (4, .int (nI i))] → W p l e room_1 s m #[.ref b] below meth c H1 locs1 (cl + 2) (sl + 12) Q (F0 m 1908 ls1 [])) : W p l e room_1 s m #[.ref b] below meth c H locs cl sl Q (F0 m 1490 ls []) := by
  unfold VL_26 at hV
  refine lv_aload_n C0.x C0.b dL_law_1490 rfl (lv_at hl 1 rfl) ?_
  refine r_cV_i (As := []) (rest := []) C0 hw (c_X7_turn hV) (cwV 0 C0.ts ngL_law_X7_turn rfl rfl rfl hd_X7_turn ⟨Nat.le_of_ble_eq_true rfl, Nat.le_of_ble_eq_true rfl⟩) (lg_0 ad cI cJ [] S) rfl rfl hl.1 rfl (Nat.le_of_ble_eq_true rfl) ⟨by omega, by omega⟩ dL_law_1491 (fun r1 S2 H locs hV hw => ?_)
  refine lv_aload_n C0.x C0.b dL_law_1494 rfl (lv_at hl 2 rfl) ?_
  refine r_cV_i (As := []) (rest := [.int r1]) C0 hw (c_X8_turn hV) (cwV 0 C0.ts ngL_law_X8_turn rfl rfl rfl hd_X8_turn ⟨Nat.le_of_ble_eq_true rfl, Nat.le_of_ble_eq_true rfl⟩) (lg_48 ad cI cJ [] S2) rfl rfl hl.1 rfl (Nat.le_of_ble_eq_true rfl) ⟨by omega, by omega⟩ dL_law_1495 (fun r3 S4 H locs hV hw => ?_)
  refine lv_icmp_eq (tgt := 1908) C0.x C0.b dL_law_1498 (by decide) (fun c5 => ?_) (fun c5 => ?_)
  · have hV := hV.1 c5
    refine W.widen (k := cl + 2) (n := sl + 12) (by omega) (by omega) ?_
    exact kk _ hV _ _ hw _ (lv_sub hl [0, 1, 2, 3, 4] rfl)
  · have hV := hV.2 c5
    refine lv_iconst (v := 0) C0.x C0.b dL_law_1501 (by decide) ?_
    exact hV.elim
def VL_27 (a : Nat → Int32) (S : SS) (K : SS → Prop) : Prop :=
  (V_X7_drift  S (fun (r1 : Int32) (S2 : SS) => (V_X8_drift  S2 (fun (r3 : Int32) (S4 : SS) => ((r1 = r3 → (K S4)) ∧ (¬ r1 = r3 → False))))))
set_option maxHeartbeats 8000000 in
set_option maxRecDepth 100000 in
theorem lc_27 (C0 : Bd p s m meth c #[.ref b] code 8 ret wsnL_law RL D n0 cI cJ) (hlt : l.stackTraces = false) (hX : va_X b L xs s s.heap) (hbl : b < s.heap.size) (hbA : ¬ fr n0 b) (K : SS → Prop) (hc : cl + 2 ≤ room_1.cells) (hs : sl + 12 ≤ room_1.slots) (hi : i + 6 ≤ L) (hL : L ≤ 3072) (S : SS) (hV : VL_27 (fun j => xs (i + j)) S K) (hw : Wh D n0 ad cI cJ [] S s H locs) {ls : Array Slot} (hl : lv_has ls 8 [(0, .ref b), (1, .ref (ad 0)), (2, .ref (ad 48)), (3, .ref (ad 64)), (4, .int (nI i))]) (kk : ∀ S1 : SS, K S1 → ∀ (H1 : Heap) (locs1 : List Loc), Wh D n0 ad cI cJ [] S1 s H1 locs1 → ∀ ls1 : Array Slot, lv_has ls1 8 [(0, .ref b), (1, .ref (ad 0)), (2, .ref (ad 48)), (3, .ref (ad 64)), (4, .int (nI i))] → W p l e room_1 s m #[.ref b] below meth c H1 locs1 (cl + 2) (sl + 12) Q (F0 m 1908 ls1 [])) : W p l e room_1 s m #[.ref b] below meth c H locs cl sl Q (F0 m 1503 ls []) := by
  unfold VL_27 at hV
  refine lv_aload_n C0.x C0.b dL_law_1503 rfl (lv_at hl 1 rfl) ?_
  refine r_cV_i (As := []) (rest := []) C0 hw (c_X7_drift hV) (cwV 0 C0.ts ngL_law_X7_drift rfl rfl rfl hd_X7_drift ⟨Nat.le_of_ble_eq_true rfl, Nat.le_of_ble_eq_true rfl⟩) (lg_0 ad cI cJ [] S) rfl rfl hl.1 rfl (Nat.le_of_ble_eq_true rfl) ⟨by omega, by omega⟩ dL_law_1504 (fun r1 S2 H locs hV hw => ?_)
  refine lv_aload_n C0.x C0.b dL_law_1507 rfl (lv_at hl 2 rfl) ?_
  refine r_cV_i (As := []) (rest := [.int r1]) C0 hw (c_X8_drift hV) (cwV 0 C0.ts ngL_law_X8_drift rfl rfl rfl hd_X8_drift ⟨Nat.le_of_ble_eq_true rfl, Nat.le_of_ble_eq_true rfl⟩) (lg_48 ad cI cJ [] S2) rfl rfl hl.1 rfl (Nat.le_of_ble_eq_true rfl) ⟨by omega, by omega⟩ dL_law_1508 (fun r3 S4 H locs hV hw => ?_)
  refine lv_icmp_eq (tgt := 1908) C0.x C0.b dL_law_1511 (by decide) (fun c5 => ?_) (fun c5 => ?_)
  · have hV := hV.1 c5
    refine W.widen (k := cl + 2) (n := sl + 12) (by omega) (by omega) ?_
    exact kk _ hV _ _ hw _ (lv_sub hl [0, 1, 2, 3, 4] rfl)
  · have hV := hV.2 c5
    refine lv_iconst (v := 0) C0.x C0.b dL_law_1514 (by decide) ?_
    exact hV.elim
def VL_28 (a : Nat → Int32) (S : SS) (K : SS → Prop) : Prop :=
  (V_X7_fixed  S (fun (r1 : Int32) (S2 : SS) => (V_X8_fixed  S2 (fun (r3 : Int32) (S4 : SS) => ((r1 = r3 → (K S4)) ∧ (¬ r1 = r3 → False))))))
set_option maxHeartbeats 8000000 in
set_option maxRecDepth 100000 in
theorem lc_28 (C0 : Bd p s m meth c #[.ref b] code 8 ret wsnL_law RL D n0 cI cJ) (hlt : l.stackTraces = false) (hX : va_X b L xs s s.heap) (hbl : b < s.heap.size) (hbA : ¬ fr n0 b) (K : SS → Prop) (hc : cl + 2 ≤ room_1.cells) (hs : sl + 12 ≤ room_1.slots) (hi : i + 6 ≤ L) (hL : L ≤ 3072) (S : SS) (hV : VL_28 (fun j => xs (i + j)) S K) (hw : Wh D n0 ad cI cJ [] S s H locs) {ls : Array Slot} (hl : lv_has ls 8 [(0, .ref b), (1, .ref (ad 0)), (2, .ref (ad 48)), (3, .ref (ad 64)), (4, .int (nI i))]) (kk : ∀ S1 : SS, K S1 → ∀ (H1 : Heap) (locs1 : List Loc), Wh D n0 ad cI cJ [] S1 s H1 locs1 → ∀ ls1 : Array Slot, lv_has ls1 8 [(0, .ref b), (1, .ref (ad 0)), (2, .ref (ad 48)), (3, .ref (ad 64)), (4, .int (nI i))] → W p l e room_1 s m #[.ref b] below meth c H1 locs1 (cl + 2) (sl + 12) Q (F0 m 1908 ls1 [])) : W p l e room_1 s m #[.ref b] below meth c H locs cl sl Q (F0 m 1516 ls []) := by
  unfold VL_28 at hV
  refine lv_aload_n C0.x C0.b dL_law_1516 rfl (lv_at hl 1 rfl) ?_
  refine r_cV_i (As := []) (rest := []) C0 hw (c_X7_fixed hV) (cwV 0 C0.ts ngL_law_X7_fixed rfl rfl rfl hd_X7_fixed ⟨Nat.le_of_ble_eq_true rfl, Nat.le_of_ble_eq_true rfl⟩) (lg_0 ad cI cJ [] S) rfl rfl hl.1 rfl (Nat.le_of_ble_eq_true rfl) ⟨by omega, by omega⟩ dL_law_1517 (fun r1 S2 H locs hV hw => ?_)
  refine lv_aload_n C0.x C0.b dL_law_1520 rfl (lv_at hl 2 rfl) ?_
  refine r_cV_i (As := []) (rest := [.int r1]) C0 hw (c_X8_fixed hV) (cwV 0 C0.ts ngL_law_X8_fixed rfl rfl rfl hd_X8_fixed ⟨Nat.le_of_ble_eq_true rfl, Nat.le_of_ble_eq_true rfl⟩) (lg_48 ad cI cJ [] S2) rfl rfl hl.1 rfl (Nat.le_of_ble_eq_true rfl) ⟨by omega, by omega⟩ dL_law_1521 (fun r3 S4 H locs hV hw => ?_)
  refine lv_icmp_eq (tgt := 1908) C0.x C0.b dL_law_1524 (by decide) (fun c5 => ?_) (fun c5 => ?_)
  · have hV := hV.1 c5
    refine W.widen (k := cl + 2) (n := sl + 12) (by omega) (by omega) ?_
    exact kk _ hV _ _ hw _ (lv_sub hl [0, 1, 2, 3, 4] rfl)
  · have hV := hV.2 c5
    refine lv_iconst (v := 0) C0.x C0.b dL_law_1527 (by decide) ?_
    exact hV.elim
def VL_29 (a : Nat → Int32) (S : SS) (K : SS → Prop) : Prop :=
  (V_X7_act (a 1) (a 2) (a 3) (a 4) S (fun (r1 : Int32) (S2 : SS) => (V_X8_act (a 1) (a 2) (a 3) (a 4) S2 (fun (r3 : Int32) (S4 : SS) => ((r1 = r3 → (K S4)) ∧ (¬ r1 = r3 → False))))))
set_option maxHeartbeats 8000000 in
set_option maxRecDepth 100000 in
theorem lc_29 (C0 : Bd p s m meth c #[.ref b] code 8 ret wsnL_law RL D n0 cI cJ) (hlt : l.stackTraces = false) (hX : va_X b L xs s s.heap) (hbl : b < s.heap.size) (hbA : ¬ fr n0 b) (K : SS → Prop) (hc : cl + 2 ≤ room_1.cells) (hs : sl + 12 ≤ room_1.slots) (hi : i + 6 ≤ L) (hL : L ≤ 3072) (S : SS) (hV : VL_29 (fun j => xs (i + j)) S K) (hw : Wh D n0 ad cI cJ [] S s H locs) {ls : Array Slot} (hl : lv_has ls 8 [(0, .ref b), (1, .ref (ad 0)), (2, .ref (ad 48)), (3, .ref (ad 64)), (4, .int (nI i))]) (kk : ∀ S1 : SS, K S1 → ∀ (H1 : Heap) (locs1 : List Loc), Wh D n0 ad cI cJ [] S1 s H1 locs1 → ∀ ls1 : Array Slot, lv_has ls1 8 [(0, .ref b), (1, .ref (ad 0)), (2, .ref (ad 48)), (3, .ref (ad 64)), (4, .int (nI i))] → W p l e room_1 s m #[.ref b] below meth c H1 locs1 (cl + 2) (sl + 12) Q (F0 m 1908 ls1 [])) : W p l e room_1 s m #[.ref b] below meth c H locs cl sl Q (F0 m 1529 ls []) := by
  unfold VL_29 at hV
  refine lv_aload_n C0.x C0.b dL_law_1529 rfl (lv_at hl 1 rfl) ?_
  refine lv_aload_n C0.x C0.b dL_law_1530 rfl (lv_at hl 0 rfl) ?_
  refine lv_iload C0.x C0.b dL_law_1531 (lv_at hl 4 rfl) ?_
  refine lv_iconst (v := 1) C0.x C0.b dL_law_1533 (by decide) ?_
  refine lv_iadd C0.x C0.b dL_law_1534 ?_
  refine r_scr 1 C0 hX hbl hbA hw (by omega) hL dL_law_1535 ?_
  refine lv_aload_n C0.x C0.b dL_law_1536 rfl (lv_at hl 0 rfl) ?_
  refine lv_iload C0.x C0.b dL_law_1537 (lv_at hl 4 rfl) ?_
  refine lv_iconst (v := 2) C0.x C0.b dL_law_1539 (by decide) ?_
  refine lv_iadd C0.x C0.b dL_law_1540 ?_
  refine r_scr 2 C0 hX hbl hbA hw (by omega) hL dL_law_1541 ?_
  refine lv_aload_n C0.x C0.b dL_law_1542 rfl (lv_at hl 0 rfl) ?_
  refine lv_iload C0.x C0.b dL_law_1543 (lv_at hl 4 rfl) ?_
  refine lv_iconst (v := 3) C0.x C0.b dL_law_1545 (by decide) ?_
  refine lv_iadd C0.x C0.b dL_law_1546 ?_
  refine r_scr 3 C0 hX hbl hbA hw (by omega) hL dL_law_1547 ?_
  refine lv_aload_n C0.x C0.b dL_law_1548 rfl (lv_at hl 0 rfl) ?_
  refine lv_iload C0.x C0.b dL_law_1549 (lv_at hl 4 rfl) ?_
  refine lv_iconst (v := 4) C0.x C0.b dL_law_1551 (by decide) ?_
  refine lv_iadd C0.x C0.b dL_law_1552 ?_
  refine r_scr 4 C0 hX hbl hbA hw (by omega) hL dL_law_1553 ?_
  refine r_cV_i (As := [.int (xs (i + 1)), .int (xs (i + 2)), .int (xs (i + 3)), .int (xs (i + 4))]) (rest := []) C0 hw (c_X7_act hV) (cwV 4 C0.ts ngL_law_X7_act rfl rfl rfl hd_X7_act ⟨Nat.le_of_ble_eq_true rfl, Nat.le_of_ble_eq_true rfl⟩) (lg_0 ad cI cJ [] S) rfl rfl hl.1 rfl (Nat.le_of_ble_eq_true rfl) ⟨by omega, by omega⟩ dL_law_1554 (fun r1 S2 H locs hV hw => ?_)
  refine lv_aload_n C0.x C0.b dL_law_1557 rfl (lv_at hl 2 rfl) ?_
  refine lv_aload_n C0.x C0.b dL_law_1558 rfl (lv_at hl 0 rfl) ?_
  refine lv_iload C0.x C0.b dL_law_1559 (lv_at hl 4 rfl) ?_
  refine lv_iconst (v := 1) C0.x C0.b dL_law_1561 (by decide) ?_
  refine lv_iadd C0.x C0.b dL_law_1562 ?_
  refine r_scr 1 C0 hX hbl hbA hw (by omega) hL dL_law_1563 ?_
  refine lv_aload_n C0.x C0.b dL_law_1564 rfl (lv_at hl 0 rfl) ?_
  refine lv_iload C0.x C0.b dL_law_1565 (lv_at hl 4 rfl) ?_
  refine lv_iconst (v := 2) C0.x C0.b dL_law_1567 (by decide) ?_
  refine lv_iadd C0.x C0.b dL_law_1568 ?_
  refine r_scr 2 C0 hX hbl hbA hw (by omega) hL dL_law_1569 ?_
  refine lv_aload_n C0.x C0.b dL_law_1570 rfl (lv_at hl 0 rfl) ?_
  refine lv_iload C0.x C0.b dL_law_1571 (lv_at hl 4 rfl) ?_
  refine lv_iconst (v := 3) C0.x C0.b dL_law_1573 (by decide) ?_
  refine lv_iadd C0.x C0.b dL_law_1574 ?_
  refine r_scr 3 C0 hX hbl hbA hw (by omega) hL dL_law_1575 ?_
  refine lv_aload_n C0.x C0.b dL_law_1576 rfl (lv_at hl 0 rfl) ?_
  refine lv_iload C0.x C0.b dL_law_1577 (lv_at hl 4 rfl) ?_
  refine lv_iconst (v := 4) C0.x C0.b dL_law_1579 (by decide) ?_
  refine lv_iadd C0.x C0.b dL_law_1580 ?_
  refine r_scr 4 C0 hX hbl hbA hw (by omega) hL dL_law_1581 ?_
  refine r_cV_i (As := [.int (xs (i + 1)), .int (xs (i + 2)), .int (xs (i + 3)), .int (xs (i + 4))]) (rest := [.int r1]) C0 hw (c_X8_act hV) (cwV 4 C0.ts ngL_law_X8_act rfl rfl rfl hd_X8_act ⟨Nat.le_of_ble_eq_true rfl, Nat.le_of_ble_eq_true rfl⟩) (lg_48 ad cI cJ [] S2) rfl rfl hl.1 rfl (Nat.le_of_ble_eq_true rfl) ⟨by omega, by omega⟩ dL_law_1582 (fun r3 S4 H locs hV hw => ?_)
  refine lv_icmp_eq (tgt := 1908) C0.x C0.b dL_law_1585 (by decide) (fun c5 => ?_) (fun c5 => ?_)
  · have hV := hV.1 c5
    refine W.widen (k := cl + 2) (n := sl + 12) (by omega) (by omega) ?_
    exact kk _ hV _ _ hw _ (lv_sub hl [0, 1, 2, 3, 4] rfl)
  · have hV := hV.2 c5
    refine lv_iconst (v := 0) C0.x C0.b dL_law_1588 (by decide) ?_
    exact hV.elim
def VL_30 (a : Nat → Int32) (S : SS) (K : SS → Prop) : Prop :=
  (V_X7_scrap  S (fun (r1 : Int32) (S2 : SS) => (V_X8_scrap  S2 (fun (r3 : Int32) (S4 : SS) => ((r1 = r3 → (K S4)) ∧ (¬ r1 = r3 → False))))))
set_option maxHeartbeats 8000000 in
set_option maxRecDepth 100000 in
theorem lc_30 (C0 : Bd p s m meth c #[.ref b] code 8 ret wsnL_law RL D n0 cI cJ) (hlt : l.stackTraces = false) (hX : va_X b L xs s s.heap) (hbl : b < s.heap.size) (hbA : ¬ fr n0 b) (K : SS → Prop) (hc : cl + 2 ≤ room_1.cells) (hs : sl + 12 ≤ room_1.slots) (hi : i + 6 ≤ L) (hL : L ≤ 3072) (S : SS) (hV : VL_30 (fun j => xs (i + j)) S K) (hw : Wh D n0 ad cI cJ [] S s H locs) {ls : Array Slot} (hl : lv_has ls 8 [(0, .ref b), (1, .ref (ad 0)), (2, .ref (ad 48)), (3, .ref (ad 64)), (4, .int (nI i))]) (kk : ∀ S1 : SS, K S1 → ∀ (H1 : Heap) (locs1 : List Loc), Wh D n0 ad cI cJ [] S1 s H1 locs1 → ∀ ls1 : Array Slot, lv_has ls1 8 [(0, .ref b), (1, .ref (ad 0)), (2, .ref (ad 48)), (3, .ref (ad 64)), (4, .int (nI i))] → W p l e room_1 s m #[.ref b] below meth c H1 locs1 (cl + 2) (sl + 12) Q (F0 m 1908 ls1 [])) : W p l e room_1 s m #[.ref b] below meth c H locs cl sl Q (F0 m 1590 ls []) := by
  unfold VL_30 at hV
  refine lv_aload_n C0.x C0.b dL_law_1590 rfl (lv_at hl 1 rfl) ?_
  refine r_cV_i (As := []) (rest := []) C0 hw (c_X7_scrap hV) (cwV 0 C0.ts ngL_law_X7_scrap rfl rfl rfl hd_X7_scrap ⟨Nat.le_of_ble_eq_true rfl, Nat.le_of_ble_eq_true rfl⟩) (lg_0 ad cI cJ [] S) rfl rfl hl.1 rfl (Nat.le_of_ble_eq_true rfl) ⟨by omega, by omega⟩ dL_law_1591 (fun r1 S2 H locs hV hw => ?_)
  refine lv_aload_n C0.x C0.b dL_law_1594 rfl (lv_at hl 2 rfl) ?_
  refine r_cV_i (As := []) (rest := [.int r1]) C0 hw (c_X8_scrap hV) (cwV 0 C0.ts ngL_law_X8_scrap rfl rfl rfl hd_X8_scrap ⟨Nat.le_of_ble_eq_true rfl, Nat.le_of_ble_eq_true rfl⟩) (lg_48 ad cI cJ [] S2) rfl rfl hl.1 rfl (Nat.le_of_ble_eq_true rfl) ⟨by omega, by omega⟩ dL_law_1595 (fun r3 S4 H locs hV hw => ?_)
  refine lv_icmp_eq (tgt := 1908) C0.x C0.b dL_law_1598 (by decide) (fun c5 => ?_) (fun c5 => ?_)
  · have hV := hV.1 c5
    refine W.widen (k := cl + 2) (n := sl + 12) (by omega) (by omega) ?_
    exact kk _ hV _ _ hw _ (lv_sub hl [0, 1, 2, 3, 4] rfl)
  · have hV := hV.2 c5
    refine lv_iconst (v := 0) C0.x C0.b dL_law_1601 (by decide) ?_
    exact hV.elim
def VL_31 (a : Nat → Int32) (S : SS) (K : SS → Prop) : Prop :=
  (V_X7_go (a 1) (a 2) (a 3) (a 4) (a 5) S (fun (r1 : Int32) (S2 : SS) => (V_X8_go (a 1) (a 2) (a 3) (a 4) (a 5) S2 (fun (r3 : Int32) (S4 : SS) => ((r1 = r3 → (K S4)) ∧ (¬ r1 = r3 → False))))))
set_option maxHeartbeats 8000000 in
set_option maxRecDepth 100000 in
theorem lc_31 (C0 : Bd p s m meth c #[.ref b] code 8 ret wsnL_law RL D n0 cI cJ) (hlt : l.stackTraces = false) (hX : va_X b L xs s s.heap) (hbl : b < s.heap.size) (hbA : ¬ fr n0 b) (K : SS → Prop) (hc : cl + 2 ≤ room_1.cells) (hs : sl + 12 ≤ room_1.slots) (hi : i + 6 ≤ L) (hL : L ≤ 3072) (S : SS) (hV : VL_31 (fun j => xs (i + j)) S K) (hw : Wh D n0 ad cI cJ [] S s H locs) {ls : Array Slot} (hl : lv_has ls 8 [(0, .ref b), (1, .ref (ad 0)), (2, .ref (ad 48)), (3, .ref (ad 64)), (4, .int (nI i))]) (kk : ∀ S1 : SS, K S1 → ∀ (H1 : Heap) (locs1 : List Loc), Wh D n0 ad cI cJ [] S1 s H1 locs1 → ∀ ls1 : Array Slot, lv_has ls1 8 [(0, .ref b), (1, .ref (ad 0)), (2, .ref (ad 48)), (3, .ref (ad 64)), (4, .int (nI i))] → W p l e room_1 s m #[.ref b] below meth c H1 locs1 (cl + 2) (sl + 12) Q (F0 m 1908 ls1 [])) : W p l e room_1 s m #[.ref b] below meth c H locs cl sl Q (F0 m 1603 ls []) := by
  unfold VL_31 at hV
  refine lv_aload_n C0.x C0.b dL_law_1603 rfl (lv_at hl 1 rfl) ?_
  refine lv_aload_n C0.x C0.b dL_law_1604 rfl (lv_at hl 0 rfl) ?_
  refine lv_iload C0.x C0.b dL_law_1605 (lv_at hl 4 rfl) ?_
  refine lv_iconst (v := 1) C0.x C0.b dL_law_1607 (by decide) ?_
  refine lv_iadd C0.x C0.b dL_law_1608 ?_
  refine r_scr 1 C0 hX hbl hbA hw (by omega) hL dL_law_1609 ?_
  refine lv_aload_n C0.x C0.b dL_law_1610 rfl (lv_at hl 0 rfl) ?_
  refine lv_iload C0.x C0.b dL_law_1611 (lv_at hl 4 rfl) ?_
  refine lv_iconst (v := 2) C0.x C0.b dL_law_1613 (by decide) ?_
  refine lv_iadd C0.x C0.b dL_law_1614 ?_
  refine r_scr 2 C0 hX hbl hbA hw (by omega) hL dL_law_1615 ?_
  refine lv_aload_n C0.x C0.b dL_law_1616 rfl (lv_at hl 0 rfl) ?_
  refine lv_iload C0.x C0.b dL_law_1617 (lv_at hl 4 rfl) ?_
  refine lv_iconst (v := 3) C0.x C0.b dL_law_1619 (by decide) ?_
  refine lv_iadd C0.x C0.b dL_law_1620 ?_
  refine r_scr 3 C0 hX hbl hbA hw (by omega) hL dL_law_1621 ?_
  refine lv_aload_n C0.x C0.b dL_law_1622 rfl (lv_at hl 0 rfl) ?_
  refine lv_iload C0.x C0.b dL_law_1623 (lv_at hl 4 rfl) ?_
  refine lv_iconst (v := 4) C0.x C0.b dL_law_1625 (by decide) ?_
  refine lv_iadd C0.x C0.b dL_law_1626 ?_
  refine r_scr 4 C0 hX hbl hbA hw (by omega) hL dL_law_1627 ?_
  refine lv_aload_n C0.x C0.b dL_law_1628 rfl (lv_at hl 0 rfl) ?_
  refine lv_iload C0.x C0.b dL_law_1629 (lv_at hl 4 rfl) ?_
  refine lv_iconst (v := 5) C0.x C0.b dL_law_1631 (by decide) ?_
  refine lv_iadd C0.x C0.b dL_law_1632 ?_
  refine r_scr 5 C0 hX hbl hbA hw (by omega) hL dL_law_1633 ?_
  refine r_cV_i (As := [.int (xs (i + 1)), .int (xs (i + 2)), .int (xs (i + 3)), .int (xs (i + 4)), .int (xs (i + 5))]) (rest := []) C0 hw (c_X7_go hV) (cwV 5 C0.ts ngL_law_X7_go rfl rfl rfl hd_X7_go ⟨Nat.le_of_ble_eq_true rfl, Nat.le_of_ble_eq_true rfl⟩) (lg_0 ad cI cJ [] S) rfl rfl hl.1 rfl (Nat.le_of_ble_eq_true rfl) ⟨by omega, by omega⟩ dL_law_1634 (fun r1 S2 H locs hV hw => ?_)
  refine lv_aload_n C0.x C0.b dL_law_1637 rfl (lv_at hl 2 rfl) ?_
  refine lv_aload_n C0.x C0.b dL_law_1638 rfl (lv_at hl 0 rfl) ?_
  refine lv_iload C0.x C0.b dL_law_1639 (lv_at hl 4 rfl) ?_
  refine lv_iconst (v := 1) C0.x C0.b dL_law_1641 (by decide) ?_
  refine lv_iadd C0.x C0.b dL_law_1642 ?_
  refine r_scr 1 C0 hX hbl hbA hw (by omega) hL dL_law_1643 ?_
  refine lv_aload_n C0.x C0.b dL_law_1644 rfl (lv_at hl 0 rfl) ?_
  refine lv_iload C0.x C0.b dL_law_1645 (lv_at hl 4 rfl) ?_
  refine lv_iconst (v := 2) C0.x C0.b dL_law_1647 (by decide) ?_
  refine lv_iadd C0.x C0.b dL_law_1648 ?_
  refine r_scr 2 C0 hX hbl hbA hw (by omega) hL dL_law_1649 ?_
  refine lv_aload_n C0.x C0.b dL_law_1650 rfl (lv_at hl 0 rfl) ?_
  refine lv_iload C0.x C0.b dL_law_1651 (lv_at hl 4 rfl) ?_
  refine lv_iconst (v := 3) C0.x C0.b dL_law_1653 (by decide) ?_
  refine lv_iadd C0.x C0.b dL_law_1654 ?_
  refine r_scr 3 C0 hX hbl hbA hw (by omega) hL dL_law_1655 ?_
  refine lv_aload_n C0.x C0.b dL_law_1656 rfl (lv_at hl 0 rfl) ?_
  refine lv_iload C0.x C0.b dL_law_1657 (lv_at hl 4 rfl) ?_
  refine lv_iconst (v := 4) C0.x C0.b dL_law_1659 (by decide) ?_
  refine lv_iadd C0.x C0.b dL_law_1660 ?_
  refine r_scr 4 C0 hX hbl hbA hw (by omega) hL dL_law_1661 ?_
  refine lv_aload_n C0.x C0.b dL_law_1662 rfl (lv_at hl 0 rfl) ?_
  refine lv_iload C0.x C0.b dL_law_1663 (lv_at hl 4 rfl) ?_
  refine lv_iconst (v := 5) C0.x C0.b dL_law_1665 (by decide) ?_
  refine lv_iadd C0.x C0.b dL_law_1666 ?_
  refine r_scr 5 C0 hX hbl hbA hw (by omega) hL dL_law_1667 ?_
  refine r_cV_i (As := [.int (xs (i + 1)), .int (xs (i + 2)), .int (xs (i + 3)), .int (xs (i + 4)), .int (xs (i + 5))]) (rest := [.int r1]) C0 hw (c_X8_go hV) (cwV 5 C0.ts ngL_law_X8_go rfl rfl rfl hd_X8_go ⟨Nat.le_of_ble_eq_true rfl, Nat.le_of_ble_eq_true rfl⟩) (lg_48 ad cI cJ [] S2) rfl rfl hl.1 rfl (Nat.le_of_ble_eq_true rfl) ⟨by omega, by omega⟩ dL_law_1668 (fun r3 S4 H locs hV hw => ?_)
  refine lv_icmp_eq (tgt := 1908) C0.x C0.b dL_law_1671 (by decide) (fun c5 => ?_) (fun c5 => ?_)
  · have hV := hV.1 c5
    refine W.widen (k := cl + 2) (n := sl + 12) (by omega) (by omega) ?_
    exact kk _ hV _ _ hw _ (lv_sub hl [0, 1, 2, 3, 4] rfl)
  · have hV := hV.2 c5
    refine lv_iconst (v := 0) C0.x C0.b dL_law_1674 (by decide) ?_
    exact hV.elim
def VL_32 (a : Nat → Int32) (S : SS) (K : SS → Prop) : Prop :=
  (V_X7_made  S (fun (r1 : Int32) (S2 : SS) => (V_X8_made  S2 (fun (r3 : Int32) (S4 : SS) => ((r1 = r3 → (K S4)) ∧ (¬ r1 = r3 → False))))))
set_option maxHeartbeats 8000000 in
set_option maxRecDepth 100000 in
theorem lc_32 (C0 : Bd p s m meth c #[.ref b] code 8 ret wsnL_law RL D n0 cI cJ) (hlt : l.stackTraces = false) (hX : va_X b L xs s s.heap) (hbl : b < s.heap.size) (hbA : ¬ fr n0 b) (K : SS → Prop) (hc : cl + 2 ≤ room_1.cells) (hs : sl + 12 ≤ room_1.slots) (hi : i + 6 ≤ L) (hL : L ≤ 3072) (S : SS) (hV : VL_32 (fun j => xs (i + j)) S K) (hw : Wh D n0 ad cI cJ [] S s H locs) {ls : Array Slot} (hl : lv_has ls 8 [(0, .ref b), (1, .ref (ad 0)), (2, .ref (ad 48)), (3, .ref (ad 64)), (4, .int (nI i))]) (kk : ∀ S1 : SS, K S1 → ∀ (H1 : Heap) (locs1 : List Loc), Wh D n0 ad cI cJ [] S1 s H1 locs1 → ∀ ls1 : Array Slot, lv_has ls1 8 [(0, .ref b), (1, .ref (ad 0)), (2, .ref (ad 48)), (3, .ref (ad 64)), (4, .int (nI i))] → W p l e room_1 s m #[.ref b] below meth c H1 locs1 (cl + 2) (sl + 12) Q (F0 m 1908 ls1 [])) : W p l e room_1 s m #[.ref b] below meth c H locs cl sl Q (F0 m 1676 ls []) := by
  unfold VL_32 at hV
  refine lv_aload_n C0.x C0.b dL_law_1676 rfl (lv_at hl 1 rfl) ?_
  refine r_cV_i (As := []) (rest := []) C0 hw (c_X7_made hV) (cwV 0 C0.ts ngL_law_X7_made rfl rfl rfl hd_X7_made ⟨Nat.le_of_ble_eq_true rfl, Nat.le_of_ble_eq_true rfl⟩) (lg_0 ad cI cJ [] S) rfl rfl hl.1 rfl (Nat.le_of_ble_eq_true rfl) ⟨by omega, by omega⟩ dL_law_1677 (fun r1 S2 H locs hV hw => ?_)
  refine lv_aload_n C0.x C0.b dL_law_1680 rfl (lv_at hl 2 rfl) ?_
  refine r_cV_i (As := []) (rest := [.int r1]) C0 hw (c_X8_made hV) (cwV 0 C0.ts ngL_law_X8_made rfl rfl rfl hd_X8_made ⟨Nat.le_of_ble_eq_true rfl, Nat.le_of_ble_eq_true rfl⟩) (lg_48 ad cI cJ [] S2) rfl rfl hl.1 rfl (Nat.le_of_ble_eq_true rfl) ⟨by omega, by omega⟩ dL_law_1681 (fun r3 S4 H locs hV hw => ?_)
  refine lv_icmp_eq (tgt := 1908) C0.x C0.b dL_law_1684 (by decide) (fun c5 => ?_) (fun c5 => ?_)
  · have hV := hV.1 c5
    refine W.widen (k := cl + 2) (n := sl + 12) (by omega) (by omega) ?_
    exact kk _ hV _ _ hw _ (lv_sub hl [0, 1, 2, 3, 4] rfl)
  · have hV := hV.2 c5
    refine lv_iconst (v := 0) C0.x C0.b dL_law_1687 (by decide) ?_
    exact hV.elim
def VL_33 (a : Nat → Int32) (S : SS) (K : SS → Prop) : Prop :=
  (V_L_begins (a 1) (a 2) (a 3) (a 4) S (fun (r1 : Int32) (S2 : SS) => (V_X8_begins (a 1) (a 2) (a 3) (a 4) S2 (fun (r3 : Int64) (S4 : SS) => (V_X8_thrown  S4 (fun (r5 : Int32) (S6 : SS) => ((r5 = r1 → ((r1 = 0 → (vp_in (0 : Int32) 1 ∧ (((gA S6 41 (0 : Int32).toNatClampNeg) = r3 → (K S6)) ∧ (¬ (gA S6 41 (0 : Int32).toNatClampNeg) = r3 → False)))) ∧ (¬ r1 = 0 → (K S6)))) ∧ (¬ r5 = r1 → False))))))))
set_option maxHeartbeats 8000000 in
set_option maxRecDepth 100000 in
theorem lc_33 (C0 : Bd p s m meth c #[.ref b] code 8 ret wsnL_law RL D n0 cI cJ) (hlt : l.stackTraces = false) (hX : va_X b L xs s s.heap) (hbl : b < s.heap.size) (hbA : ¬ fr n0 b) (K : SS → Prop) (hc : cl + 2 ≤ room_1.cells) (hs : sl + 12 ≤ room_1.slots) (hi : i + 6 ≤ L) (hL : L ≤ 3072) (S : SS) (hV : VL_33 (fun j => xs (i + j)) S K) (hw : Wh D n0 ad cI cJ [] S s H locs) {ls : Array Slot} (hl : lv_has ls 8 [(0, .ref b), (1, .ref (ad 0)), (2, .ref (ad 48)), (3, .ref (ad 64)), (4, .int (nI i))]) (kk : ∀ S1 : SS, K S1 → ∀ (H1 : Heap) (locs1 : List Loc), Wh D n0 ad cI cJ [] S1 s H1 locs1 → ∀ ls1 : Array Slot, lv_has ls1 8 [(0, .ref b), (1, .ref (ad 0)), (2, .ref (ad 48)), (3, .ref (ad 64)), (4, .int (nI i))] → W p l e room_1 s m #[.ref b] below meth c H1 locs1 (cl + 2) (sl + 12) Q (F0 m 1908 ls1 [])) : W p l e room_1 s m #[.ref b] below meth c H locs cl sl Q (F0 m 1689 ls []) := by
  unfold VL_33 at hV
  refine lv_aload_n C0.x C0.b dL_law_1689 rfl (lv_at hl 1 rfl) ?_
  refine lv_aload_n C0.x C0.b dL_law_1690 rfl (lv_at hl 0 rfl) ?_
  refine lv_iload C0.x C0.b dL_law_1691 (lv_at hl 4 rfl) ?_
  refine lv_iconst (v := 1) C0.x C0.b dL_law_1693 (by decide) ?_
  refine lv_iadd C0.x C0.b dL_law_1694 ?_
  refine r_scr 1 C0 hX hbl hbA hw (by omega) hL dL_law_1695 ?_
  refine lv_aload_n C0.x C0.b dL_law_1696 rfl (lv_at hl 0 rfl) ?_
  refine lv_iload C0.x C0.b dL_law_1697 (lv_at hl 4 rfl) ?_
  refine lv_iconst (v := 2) C0.x C0.b dL_law_1699 (by decide) ?_
  refine lv_iadd C0.x C0.b dL_law_1700 ?_
  refine r_scr 2 C0 hX hbl hbA hw (by omega) hL dL_law_1701 ?_
  refine lv_aload_n C0.x C0.b dL_law_1702 rfl (lv_at hl 0 rfl) ?_
  refine lv_iload C0.x C0.b dL_law_1703 (lv_at hl 4 rfl) ?_
  refine lv_iconst (v := 3) C0.x C0.b dL_law_1705 (by decide) ?_
  refine lv_iadd C0.x C0.b dL_law_1706 ?_
  refine r_scr 3 C0 hX hbl hbA hw (by omega) hL dL_law_1707 ?_
  refine lv_aload_n C0.x C0.b dL_law_1708 rfl (lv_at hl 0 rfl) ?_
  refine lv_iload C0.x C0.b dL_law_1709 (lv_at hl 4 rfl) ?_
  refine lv_iconst (v := 4) C0.x C0.b dL_law_1711 (by decide) ?_
  refine lv_iadd C0.x C0.b dL_law_1712 ?_
  refine r_scr 4 C0 hX hbl hbA hw (by omega) hL dL_law_1713 ?_
  refine lv_aload_n C0.x C0.b dL_law_1714 rfl (lv_at hl 3 rfl) ?_
  refine r_cSW_i (As := [.ref (ad 0), .int (xs (i + 1)), .int (xs (i + 2)), .int (xs (i + 3)), .int (xs (i + 4)), .ref (ad 64)]) (rest := []) C0 hw (c_L_begins hlt hV) (vx_cwSW 6 C0.ts ngL_law_L_begins rfl rfl rfl hd_L_begins ⟨Nat.le_of_ble_eq_true rfl, Nat.le_of_ble_eq_true rfl⟩) rfl hl.1 rfl (Nat.le_of_ble_eq_true rfl) ⟨by omega, by omega⟩ dL_law_1715 (fun r1 S2 H locs hV hw => ?_)
  refine lv_istore (lv' := [(5, .int r1), (0, .ref b), (1, .ref (ad 0)), (2, .ref (ad 48)), (3, .ref (ad 64)), (4, .int (nI i))]) C0.x C0.b dL_law_1718 hl (by decide) rfl (fun ls hl => ?_)
  refine lv_aload_n C0.x C0.b dL_law_1720 rfl (lv_at hl 3 rfl) ?_
  refine lv_aload_n C0.x C0.b dL_law_1721 rfl (lv_at hl 1 rfl) ?_
  refine lv_iload C0.x C0.b dL_law_1722 (lv_at hl 5 rfl) ?_
  refine lv_iconst (v := 1) C0.x C0.b dL_law_1724 (by decide) ?_
  refine lv_iadd C0.x C0.b dL_law_1725 ?_
  refine r_scr 1 C0 hX hbl hbA hw (by omega) hL dL_law_1726 ?_
  refine lv_aload_n C0.x C0.b dL_law_1727 rfl (lv_at hl 1 rfl) ?_
  refine lv_iload C0.x C0.b dL_law_1728 (lv_at hl 5 rfl) ?_
  refine lv_iconst (v := 2) C0.x C0.b dL_law_1730 (by decide) ?_
  refine lv_iadd C0.x C0.b dL_law_1731 ?_
  refine r_scr 2 C0 hX hbl hbA hw (by omega) hL dL_law_1732 ?_
  refine lv_aload_n C0.x C0.b dL_law_1733 rfl (lv_at hl 1 rfl) ?_
  refine lv_iload C0.x C0.b dL_law_1734 (lv_at hl 5 rfl) ?_
  refine lv_iconst (v := 3) C0.x C0.b dL_law_1736 (by decide) ?_
  refine lv_iadd C0.x C0.b dL_law_1737 ?_
  refine r_scr 3 C0 hX hbl hbA hw (by omega) hL dL_law_1738 ?_
  refine lv_aload_n C0.x C0.b dL_law_1739 rfl (lv_at hl 1 rfl) ?_
  refine lv_iload C0.x C0.b dL_law_1740 (lv_at hl 5 rfl) ?_
  refine lv_iconst (v := 4) C0.x C0.b dL_law_1742 (by decide) ?_
  refine lv_iadd C0.x C0.b dL_law_1743 ?_
  refine r_scr 4 C0 hX hbl hbA hw (by omega) hL dL_law_1744 ?_
  refine r_cVm_l (As := [.int (xs (i + 1)), .int (xs (i + 2)), .int (xs (i + 3)), .int (xs (i + 4))]) (rest := []) C0 hw (c_X8_begins hV) (cwV 4 C0.ts ngL_law_X8_begins rfl rfl rfl hd_X8_begins ⟨Nat.le_of_ble_eq_true rfl, Nat.le_of_ble_eq_true rfl⟩) (lg_48 ad cI cJ [] S2) rfl rfl hl.1 rfl (Nat.le_of_ble_eq_true rfl) ⟨by omega, by omega⟩ dL_law_1745 (fun r3 S4 H locs hV hw => ?_)
  refine lv_lstore (lv' := [(6, .long r3), (5, .int r1), (0, .ref b), (1, .ref (ad 0)), (2, .ref (ad 48)), (3, .ref (ad 64)), (4, .int (nI i))]) C0.x C0.b dL_law_1748 hl (by decide) rfl (fun ls hl => ?_)
  refine lv_aload_n C0.x C0.b dL_law_1750 rfl (lv_at hl 4 rfl) ?_
  refine r_cV_i (As := []) (rest := []) C0 hw (c_X8_thrown hV) (cwV 0 C0.ts ngL_law_X8_thrown rfl rfl rfl hd_X8_thrown ⟨Nat.le_of_ble_eq_true rfl, Nat.le_of_ble_eq_true rfl⟩) (lg_48 ad cI cJ [] S4) rfl rfl hl.1 rfl (Nat.le_of_ble_eq_true rfl) ⟨by omega, by omega⟩ dL_law_1751 (fun r5 S6 H locs hV hw => ?_)
  refine lv_iload C0.x C0.b dL_law_1754 (lv_at hl 1 rfl) ?_
  refine lv_icmp_eq (tgt := 1761) C0.x C0.b dL_law_1756 (by decide) (fun c7 => ?_) (fun c7 => ?_)
  · have hV := hV.1 c7
    refine lv_iload C0.x C0.b dL_law_1761 (lv_at hl 1 rfl) ?_
    refine lv_if_ne (tgt := 1777) C0.x C0.b dL_law_1763 (by decide) (fun c8 => ?_) (fun c8 => ?_)
    · have hV := hV.2 c8
      refine lv_goto (tgt := 1908) C0.x C0.b dL_law_1777 (by decide) ?_
      refine W.widen (k := cl + 2) (n := sl + 12) (by omega) (by omega) ?_
      exact kk _ hV _ _ hw _ (lv_sub hl [2, 3, 4, 5, 6] rfl)
    · have hV := hV.1 c8
      refine lv_aload_n C0.x C0.b dL_law_1766 rfl (lv_at hl 5 rfl) ?_
      refine lv_iconst (v := 0) C0.x C0.b dL_law_1767 (by decide) ?_
      refine r_lald C0 hw (lg_64 ad cI cJ [] S6) hV.1 dL_law_1768 ?_
      have hV := hV.2
      refine lv_lload C0.x C0.b dL_law_1769 (lv_at hl 0 rfl) ?_
      refine r_lcmp C0 dL_law_1771 ?_
      refine lv_if_eq (tgt := 1777) C0.x C0.b dL_law_1772 (by decide) (fun c9 => ?_) (fun c9 => ?_)
      · have hV := hV.1 ((lc_eq _ _).mp c9)
        refine lv_goto (tgt := 1908) C0.x C0.b dL_law_1777 (by decide) ?_
        refine W.widen (k := cl + 2) (n := sl + 12) (by omega) (by omega) ?_
        exact kk _ hV _ _ hw _ (lv_sub hl [2, 3, 4, 5, 6] rfl)
      · have hV := hV.2 (fun h => c9 ((lc_eq _ _).mpr h))
        refine lv_iconst (v := 0) C0.x C0.b dL_law_1775 (by decide) ?_
        exact hV.elim
  · have hV := hV.2 c7
    refine lv_iconst (v := 0) C0.x C0.b dL_law_1759 (by decide) ?_
    exact hV.elim
def VL_34 (a : Nat → Int32) (S : SS) (K : SS → Prop) : Prop :=
  (V_X7_law (a 1) (a 2) (a 3) (a 4) (a 5) S (fun (r1 : Int32) (S2 : SS) => (V_X8_law (a 1) (a 2) (a 3) (a 4) (a 5) S2 (fun (r3 : Int32) (S4 : SS) => ((r1 = r3 → (K S4)) ∧ (¬ r1 = r3 → False))))))
set_option maxHeartbeats 8000000 in
set_option maxRecDepth 100000 in
theorem lc_34 (C0 : Bd p s m meth c #[.ref b] code 8 ret wsnL_law RL D n0 cI cJ) (hlt : l.stackTraces = false) (hX : va_X b L xs s s.heap) (hbl : b < s.heap.size) (hbA : ¬ fr n0 b) (K : SS → Prop) (hc : cl + 2 ≤ room_1.cells) (hs : sl + 12 ≤ room_1.slots) (hi : i + 6 ≤ L) (hL : L ≤ 3072) (S : SS) (hV : VL_34 (fun j => xs (i + j)) S K) (hw : Wh D n0 ad cI cJ [] S s H locs) {ls : Array Slot} (hl : lv_has ls 8 [(0, .ref b), (1, .ref (ad 0)), (2, .ref (ad 48)), (3, .ref (ad 64)), (4, .int (nI i))]) (kk : ∀ S1 : SS, K S1 → ∀ (H1 : Heap) (locs1 : List Loc), Wh D n0 ad cI cJ [] S1 s H1 locs1 → ∀ ls1 : Array Slot, lv_has ls1 8 [(0, .ref b), (1, .ref (ad 0)), (2, .ref (ad 48)), (3, .ref (ad 64)), (4, .int (nI i))] → W p l e room_1 s m #[.ref b] below meth c H1 locs1 (cl + 2) (sl + 12) Q (F0 m 1908 ls1 [])) : W p l e room_1 s m #[.ref b] below meth c H locs cl sl Q (F0 m 1780 ls []) := by
  unfold VL_34 at hV
  refine lv_aload_n C0.x C0.b dL_law_1780 rfl (lv_at hl 1 rfl) ?_
  refine lv_aload_n C0.x C0.b dL_law_1781 rfl (lv_at hl 0 rfl) ?_
  refine lv_iload C0.x C0.b dL_law_1782 (lv_at hl 4 rfl) ?_
  refine lv_iconst (v := 1) C0.x C0.b dL_law_1784 (by decide) ?_
  refine lv_iadd C0.x C0.b dL_law_1785 ?_
  refine r_scr 1 C0 hX hbl hbA hw (by omega) hL dL_law_1786 ?_
  refine lv_aload_n C0.x C0.b dL_law_1787 rfl (lv_at hl 0 rfl) ?_
  refine lv_iload C0.x C0.b dL_law_1788 (lv_at hl 4 rfl) ?_
  refine lv_iconst (v := 2) C0.x C0.b dL_law_1790 (by decide) ?_
  refine lv_iadd C0.x C0.b dL_law_1791 ?_
  refine r_scr 2 C0 hX hbl hbA hw (by omega) hL dL_law_1792 ?_
  refine lv_aload_n C0.x C0.b dL_law_1793 rfl (lv_at hl 0 rfl) ?_
  refine lv_iload C0.x C0.b dL_law_1794 (lv_at hl 4 rfl) ?_
  refine lv_iconst (v := 3) C0.x C0.b dL_law_1796 (by decide) ?_
  refine lv_iadd C0.x C0.b dL_law_1797 ?_
  refine r_scr 3 C0 hX hbl hbA hw (by omega) hL dL_law_1798 ?_
  refine lv_aload_n C0.x C0.b dL_law_1799 rfl (lv_at hl 0 rfl) ?_
  refine lv_iload C0.x C0.b dL_law_1800 (lv_at hl 4 rfl) ?_
  refine lv_iconst (v := 4) C0.x C0.b dL_law_1802 (by decide) ?_
  refine lv_iadd C0.x C0.b dL_law_1803 ?_
  refine r_scr 4 C0 hX hbl hbA hw (by omega) hL dL_law_1804 ?_
  refine lv_aload_n C0.x C0.b dL_law_1805 rfl (lv_at hl 0 rfl) ?_
  refine lv_iload C0.x C0.b dL_law_1806 (lv_at hl 4 rfl) ?_
  refine lv_iconst (v := 5) C0.x C0.b dL_law_1808 (by decide) ?_
  refine lv_iadd C0.x C0.b dL_law_1809 ?_
  refine r_scr 5 C0 hX hbl hbA hw (by omega) hL dL_law_1810 ?_
  refine r_cV_i (As := [.int (xs (i + 1)), .int (xs (i + 2)), .int (xs (i + 3)), .int (xs (i + 4)), .int (xs (i + 5))]) (rest := []) C0 hw (c_X7_law hV) (cwV 5 C0.ts ngL_law_X7_law rfl rfl rfl hd_X7_law ⟨Nat.le_of_ble_eq_true rfl, Nat.le_of_ble_eq_true rfl⟩) (lg_0 ad cI cJ [] S) rfl rfl hl.1 rfl (Nat.le_of_ble_eq_true rfl) ⟨by omega, by omega⟩ dL_law_1811 (fun r1 S2 H locs hV hw => ?_)
  refine lv_aload_n C0.x C0.b dL_law_1814 rfl (lv_at hl 2 rfl) ?_
  refine lv_aload_n C0.x C0.b dL_law_1815 rfl (lv_at hl 0 rfl) ?_
  refine lv_iload C0.x C0.b dL_law_1816 (lv_at hl 4 rfl) ?_
  refine lv_iconst (v := 1) C0.x C0.b dL_law_1818 (by decide) ?_
  refine lv_iadd C0.x C0.b dL_law_1819 ?_
  refine r_scr 1 C0 hX hbl hbA hw (by omega) hL dL_law_1820 ?_
  refine lv_aload_n C0.x C0.b dL_law_1821 rfl (lv_at hl 0 rfl) ?_
  refine lv_iload C0.x C0.b dL_law_1822 (lv_at hl 4 rfl) ?_
  refine lv_iconst (v := 2) C0.x C0.b dL_law_1824 (by decide) ?_
  refine lv_iadd C0.x C0.b dL_law_1825 ?_
  refine r_scr 2 C0 hX hbl hbA hw (by omega) hL dL_law_1826 ?_
  refine lv_aload_n C0.x C0.b dL_law_1827 rfl (lv_at hl 0 rfl) ?_
  refine lv_iload C0.x C0.b dL_law_1828 (lv_at hl 4 rfl) ?_
  refine lv_iconst (v := 3) C0.x C0.b dL_law_1830 (by decide) ?_
  refine lv_iadd C0.x C0.b dL_law_1831 ?_
  refine r_scr 3 C0 hX hbl hbA hw (by omega) hL dL_law_1832 ?_
  refine lv_aload_n C0.x C0.b dL_law_1833 rfl (lv_at hl 0 rfl) ?_
  refine lv_iload C0.x C0.b dL_law_1834 (lv_at hl 4 rfl) ?_
  refine lv_iconst (v := 4) C0.x C0.b dL_law_1836 (by decide) ?_
  refine lv_iadd C0.x C0.b dL_law_1837 ?_
  refine r_scr 4 C0 hX hbl hbA hw (by omega) hL dL_law_1838 ?_
  refine lv_aload_n C0.x C0.b dL_law_1839 rfl (lv_at hl 0 rfl) ?_
  refine lv_iload C0.x C0.b dL_law_1840 (lv_at hl 4 rfl) ?_
  refine lv_iconst (v := 5) C0.x C0.b dL_law_1842 (by decide) ?_
  refine lv_iadd C0.x C0.b dL_law_1843 ?_
  refine r_scr 5 C0 hX hbl hbA hw (by omega) hL dL_law_1844 ?_
  refine r_cVm_i (As := [.int (xs (i + 1)), .int (xs (i + 2)), .int (xs (i + 3)), .int (xs (i + 4)), .int (xs (i + 5))]) (rest := [.int r1]) C0 hw (c_X8_law hV) (cwV 5 C0.ts ngL_law_X8_law rfl rfl rfl hd_X8_law ⟨Nat.le_of_ble_eq_true rfl, Nat.le_of_ble_eq_true rfl⟩) (lg_48 ad cI cJ [] S2) rfl rfl hl.1 rfl (Nat.le_of_ble_eq_true rfl) ⟨by omega, by omega⟩ dL_law_1845 (fun r3 S4 H locs hV hw => ?_)
  refine lv_icmp_eq (tgt := 1908) C0.x C0.b dL_law_1848 (by decide) (fun c5 => ?_) (fun c5 => ?_)
  · have hV := hV.1 c5
    refine W.widen (k := cl + 2) (n := sl + 12) (by omega) (by omega) ?_
    exact kk _ hV _ _ hw _ (lv_sub hl [0, 1, 2, 3, 4] rfl)
  · have hV := hV.2 c5
    refine lv_iconst (v := 0) C0.x C0.b dL_law_1851 (by decide) ?_
    exact hV.elim
def VL_35 (a : Nat → Int32) (S : SS) (K : SS → Prop) : Prop :=
  (V_L_row (a 1) S (fun (r1 : Int32) (S2 : SS) => (V_X8_row (a 1) S2 (fun (r3 : Int64) (S4 : SS) => (V_X8_thrown  S4 (fun (r5 : Int32) (S6 : SS) => ((r5 = r1 → ((r1 = 0 → (vp_in (0 : Int32) 1 ∧ (((gA S6 41 (0 : Int32).toNatClampNeg) = r3 → (K S6)) ∧ (¬ (gA S6 41 (0 : Int32).toNatClampNeg) = r3 → False)))) ∧ (¬ r1 = 0 → (K S6)))) ∧ (¬ r5 = r1 → False))))))))
set_option maxHeartbeats 8000000 in
set_option maxRecDepth 100000 in
theorem lc_35 (C0 : Bd p s m meth c #[.ref b] code 8 ret wsnL_law RL D n0 cI cJ) (hlt : l.stackTraces = false) (hX : va_X b L xs s s.heap) (hbl : b < s.heap.size) (hbA : ¬ fr n0 b) (K : SS → Prop) (hc : cl + 2 ≤ room_1.cells) (hs : sl + 12 ≤ room_1.slots) (hi : i + 6 ≤ L) (hL : L ≤ 3072) (S : SS) (hV : VL_35 (fun j => xs (i + j)) S K) (hw : Wh D n0 ad cI cJ [] S s H locs) {ls : Array Slot} (hl : lv_has ls 8 [(0, .ref b), (1, .ref (ad 0)), (2, .ref (ad 48)), (3, .ref (ad 64)), (4, .int (nI i))]) (kk : ∀ S1 : SS, K S1 → ∀ (H1 : Heap) (locs1 : List Loc), Wh D n0 ad cI cJ [] S1 s H1 locs1 → ∀ ls1 : Array Slot, lv_has ls1 8 [(0, .ref b), (1, .ref (ad 0)), (2, .ref (ad 48)), (3, .ref (ad 64)), (4, .int (nI i))] → W p l e room_1 s m #[.ref b] below meth c H1 locs1 (cl + 2) (sl + 12) Q (F0 m 1908 ls1 [])) : W p l e room_1 s m #[.ref b] below meth c H locs cl sl Q (F0 m 1853 ls []) := by
  unfold VL_35 at hV
  refine lv_aload_n C0.x C0.b dL_law_1853 rfl (lv_at hl 1 rfl) ?_
  refine lv_aload_n C0.x C0.b dL_law_1854 rfl (lv_at hl 0 rfl) ?_
  refine lv_iload C0.x C0.b dL_law_1855 (lv_at hl 4 rfl) ?_
  refine lv_iconst (v := 1) C0.x C0.b dL_law_1857 (by decide) ?_
  refine lv_iadd C0.x C0.b dL_law_1858 ?_
  refine r_scr 1 C0 hX hbl hbA hw (by omega) hL dL_law_1859 ?_
  refine lv_aload_n C0.x C0.b dL_law_1860 rfl (lv_at hl 3 rfl) ?_
  refine r_cSW_i (As := [.ref (ad 0), .int (xs (i + 1)), .ref (ad 64)]) (rest := []) C0 hw (c_L_row hlt hV) (vx_cwSW 3 C0.ts ngL_law_L_row rfl rfl rfl hd_L_row ⟨Nat.le_of_ble_eq_true rfl, Nat.le_of_ble_eq_true rfl⟩) rfl hl.1 rfl (Nat.le_of_ble_eq_true rfl) ⟨by omega, by omega⟩ dL_law_1861 (fun r1 S2 H locs hV hw => ?_)
  refine lv_istore (lv' := [(5, .int r1), (0, .ref b), (1, .ref (ad 0)), (2, .ref (ad 48)), (3, .ref (ad 64)), (4, .int (nI i))]) C0.x C0.b dL_law_1864 hl (by decide) rfl (fun ls hl => ?_)
  refine lv_aload_n C0.x C0.b dL_law_1866 rfl (lv_at hl 3 rfl) ?_
  refine lv_aload_n C0.x C0.b dL_law_1867 rfl (lv_at hl 1 rfl) ?_
  refine lv_iload C0.x C0.b dL_law_1868 (lv_at hl 5 rfl) ?_
  refine lv_iconst (v := 1) C0.x C0.b dL_law_1870 (by decide) ?_
  refine lv_iadd C0.x C0.b dL_law_1871 ?_
  refine r_scr 1 C0 hX hbl hbA hw (by omega) hL dL_law_1872 ?_
  refine r_cV_l (As := [.int (xs (i + 1))]) (rest := []) C0 hw (c_X8_row hV) (cwV 1 C0.ts ngL_law_X8_row rfl rfl rfl hd_X8_row ⟨Nat.le_of_ble_eq_true rfl, Nat.le_of_ble_eq_true rfl⟩) (lg_48 ad cI cJ [] S2) rfl rfl hl.1 rfl (Nat.le_of_ble_eq_true rfl) ⟨by omega, by omega⟩ dL_law_1873 (fun r3 S4 H locs hV hw => ?_)
  refine lv_lstore (lv' := [(6, .long r3), (5, .int r1), (0, .ref b), (1, .ref (ad 0)), (2, .ref (ad 48)), (3, .ref (ad 64)), (4, .int (nI i))]) C0.x C0.b dL_law_1876 hl (by decide) rfl (fun ls hl => ?_)
  refine lv_aload_n C0.x C0.b dL_law_1878 rfl (lv_at hl 4 rfl) ?_
  refine r_cV_i (As := []) (rest := []) C0 hw (c_X8_thrown hV) (cwV 0 C0.ts ngL_law_X8_thrown rfl rfl rfl hd_X8_thrown ⟨Nat.le_of_ble_eq_true rfl, Nat.le_of_ble_eq_true rfl⟩) (lg_48 ad cI cJ [] S4) rfl rfl hl.1 rfl (Nat.le_of_ble_eq_true rfl) ⟨by omega, by omega⟩ dL_law_1879 (fun r5 S6 H locs hV hw => ?_)
  refine lv_iload C0.x C0.b dL_law_1882 (lv_at hl 1 rfl) ?_
  refine lv_icmp_eq (tgt := 1889) C0.x C0.b dL_law_1884 (by decide) (fun c7 => ?_) (fun c7 => ?_)
  · have hV := hV.1 c7
    refine lv_iload C0.x C0.b dL_law_1889 (lv_at hl 1 rfl) ?_
    refine lv_if_ne (tgt := 1905) C0.x C0.b dL_law_1891 (by decide) (fun c8 => ?_) (fun c8 => ?_)
    · have hV := hV.2 c8
      refine lv_goto (tgt := 1908) C0.x C0.b dL_law_1905 (by decide) ?_
      refine W.widen (k := cl + 2) (n := sl + 12) (by omega) (by omega) ?_
      exact kk _ hV _ _ hw _ (lv_sub hl [2, 3, 4, 5, 6] rfl)
    · have hV := hV.1 c8
      refine lv_aload_n C0.x C0.b dL_law_1894 rfl (lv_at hl 5 rfl) ?_
      refine lv_iconst (v := 0) C0.x C0.b dL_law_1895 (by decide) ?_
      refine r_lald C0 hw (lg_64 ad cI cJ [] S6) hV.1 dL_law_1896 ?_
      have hV := hV.2
      refine lv_lload C0.x C0.b dL_law_1897 (lv_at hl 0 rfl) ?_
      refine r_lcmp C0 dL_law_1899 ?_
      refine lv_if_eq (tgt := 1905) C0.x C0.b dL_law_1900 (by decide) (fun c9 => ?_) (fun c9 => ?_)
      · have hV := hV.1 ((lc_eq _ _).mp c9)
        refine lv_goto (tgt := 1908) C0.x C0.b dL_law_1905 (by decide) ?_
        refine W.widen (k := cl + 2) (n := sl + 12) (by omega) (by omega) ?_
        exact kk _ hV _ _ hw _ (lv_sub hl [2, 3, 4, 5, 6] rfl)
      · have hV := hV.2 (fun h => c9 ((lc_eq _ _).mpr h))
        refine lv_iconst (v := 0) C0.x C0.b dL_law_1903 (by decide) ?_
        exact hV.elim
  · have hV := hV.2 c7
    refine lv_iconst (v := 0) C0.x C0.b dL_law_1887 (by decide) ?_
    exact hV.elim
end
