set_option maxRecDepth 100000 in
theorem iw_L_X7 : ∀ w ∈ wsX70, w ∈ wsnL_law := by decide +kernel
set_option maxRecDepth 100000 in
theorem iw_L_X8 : ∀ w ∈ wsX80, w ∈ wsnL_law := by decide +kernel
set_option maxRecDepth 100000 in
theorem lk_c7 : Cond.classLink RL 8 RX7 ∈ wsnL_law := by decide +kernel
set_option maxRecDepth 100000 in
theorem lk_i7 : Cond.instantiable RX7 15 ∈ wsnL_law := by decide +kernel
set_option maxRecDepth 100000 in
theorem lk_t7 : Cond.initialized RX7 ∈ wsnL_law := by decide +kernel
set_option maxRecDepth 100000 in
theorem lk_m7 : Cond.methodLink RL 44 yX7_init ∈ wsnL_law := by decide +kernel
set_option maxRecDepth 100000 in
theorem lk_n7 : Cond.instanceMethod yX7_init ∈ wsnL_law := by decide +kernel
set_option maxRecDepth 100000 in
theorem lk_c8 : Cond.classLink RL 45 RX8 ∈ wsnL_law := by decide +kernel
set_option maxRecDepth 100000 in
theorem lk_i8 : Cond.instantiable RX8 33 ∈ wsnL_law := by decide +kernel
set_option maxRecDepth 100000 in
theorem lk_t8 : Cond.initialized RX8 ∈ wsnL_law := by decide +kernel
set_option maxRecDepth 100000 in
theorem lk_m8 : Cond.methodLink RL 47 yX8_init ∈ wsnL_law := by decide +kernel
set_option maxRecDepth 100000 in
theorem lk_n8 : Cond.instanceMethod yX8_init ∈ wsnL_law := by decide +kernel
set_option maxRecDepth 100000 in
theorem lk_al : Cond.arrayClass .long ∈ wsnL_law := by decide +kernel
/-- what the steps of the law owe: from every state of the system that R allows, each of its calls answers as the reference does, and R holds again -/
def Steps_ok (R : SS → Prop) : Prop := (∀ (a : Nat → Int32) (S : SS), R S → VL_0 a S R) ∧ (∀ (a : Nat → Int32) (S : SS), R S → VL_1 a S R) ∧ (∀ (a : Nat → Int32) (S : SS), R S → VL_2 a S R) ∧ (∀ (a : Nat → Int32) (S : SS), R S → VL_3 a S R) ∧ (∀ (a : Nat → Int32) (S : SS), R S → VL_4 a S R) ∧ (∀ (a : Nat → Int32) (S : SS), R S → VL_5 a S R) ∧ (∀ (a : Nat → Int32) (S : SS), R S → VL_6 a S R) ∧ (∀ (a : Nat → Int32) (S : SS), R S → VL_7 a S R) ∧ (∀ (a : Nat → Int32) (S : SS), R S → VL_8 a S R) ∧ (∀ (a : Nat → Int32) (S : SS), R S → VL_9 a S R) ∧ (∀ (a : Nat → Int32) (S : SS), R S → VL_10 a S R) ∧ (∀ (a : Nat → Int32) (S : SS), R S → VL_11 a S R) ∧ (∀ (a : Nat → Int32) (S : SS), R S → VL_12 a S R) ∧ (∀ (a : Nat → Int32) (S : SS), R S → VL_13 a S R) ∧ (∀ (a : Nat → Int32) (S : SS), R S → VL_14 a S R) ∧ (∀ (a : Nat → Int32) (S : SS), R S → VL_15 a S R) ∧ (∀ (a : Nat → Int32) (S : SS), R S → VL_16 a S R) ∧ (∀ (a : Nat → Int32) (S : SS), R S → VL_17 a S R) ∧ (∀ (a : Nat → Int32) (S : SS), R S → VL_18 a S R) ∧ (∀ (a : Nat → Int32) (S : SS), R S → VL_19 a S R) ∧ (∀ (a : Nat → Int32) (S : SS), R S → VL_20 a S R) ∧ (∀ (a : Nat → Int32) (S : SS), R S → VL_21 a S R) ∧ (∀ (a : Nat → Int32) (S : SS), R S → VL_22 a S R) ∧ (∀ (a : Nat → Int32) (S : SS), R S → VL_23 a S R) ∧ (∀ (a : Nat → Int32) (S : SS), R S → VL_24 a S R) ∧ (∀ (a : Nat → Int32) (S : SS), R S → VL_25 a S R) ∧ (∀ (a : Nat → Int32) (S : SS), R S → VL_26 a S R) ∧ (∀ (a : Nat → Int32) (S : SS), R S → VL_27 a S R) ∧ (∀ (a : Nat → Int32) (S : SS), R S → VL_28 a S R) ∧ (∀ (a : Nat → Int32) (S : SS), R S → VL_29 a S R) ∧ (∀ (a : Nat → Int32) (S : SS), R S → VL_30 a S R) ∧ (∀ (a : Nat → Int32) (S : SS), R S → VL_31 a S R) ∧ (∀ (a : Nat → Int32) (S : SS), R S → VL_32 a S R) ∧ (∀ (a : Nat → Int32) (S : SS), R S → VL_33 a S R) ∧ (∀ (a : Nat → Int32) (S : SS), R S → VL_34 a S R) ∧ (∀ (a : Nat → Int32) (S : SS), R S → VL_35 a S R)
def S0 : SS := (fun k => if k = 5 then -1 else if k = 21 then -1 else 0, fun _ => 0, fun _ _ => 0, fun k => if k = 17 then vp_updL (fun _ => 0) 0 1 else if k = 19 then vp_updL (fun _ => 0) 0 1 else fun _ => 0)
section
variable {p : Program} {l : Launch} {e : Env} {s : State} {m : MethodId} {below : List Frame} {meth : Method} {c : Code} {D : va_G} {n0 : Nat} {ad : Nat → Nat} {cI cJ : ClassId} {b L : Nat} {xs : Nat → Int32}
set_option maxHeartbeats 16000000 in
set_option maxRecDepth 100000 in
theorem law_loop {R : SS → Prop} (hR : Steps_ok R) (hlt : l.stackTraces = false) (C0 : Bd p s m meth c #[.ref b] code 8 ret wsnL_law RL D s.heap.size cI cJ) (hX : va_X b L xs s s.heap) (hbl : b < s.heap.size) (hL : L ≤ 3072) :
    ∀ (n k : Nat) (S : SS), 6 * k ≤ L + 5 → L + 6 ≤ 6 * k + 6 * n → R S → ∀ (H : Heap) (locs : List Loc), Wh D s.heap.size ad cI cJ [] S s H locs → ∀ ls : Array Slot, lv_has ls 8 [(0, .ref b), (1, .ref (ad 0)), (2, .ref (ad 48)), (3, .ref (ad 64)), (4, .int (nI (6 * k)))] → W p l e room_1 s m #[.ref b] below meth c H locs (100 + 2 * k) (200000 + 12 * k) (lw_Z below #[.ref b] s) (F0 m 23 ls []) := by
  have hbA : ¬ fr s.heap.size b := Nat.not_le.mpr hbl
  intro n
  induction n with
  | zero => intro k S h1 h2; exact absurd h2 (by omega)
  | succ n ih =>
    intro k S h1 h2 hRS H locs hw ls hl
    have hlen : ((nI L - nI 6 : Int32)).toInt = (L : Int) - ((6 : Nat) : Int) := pk_sub_toInt (a := L) (b := 6) (by omega) (by omega)
    have hi0 : (nI (6 * k)).toInt = ((6 * k : Nat) : Int) := nI_toInt (by omega)
    refine lv_iload C0.x C0.b dL_law_23 (lv_at hl 4 rfl) ?_
    refine lv_aload_n C0.x C0.b dL_law_25 rfl (lv_at hl 0 rfl) ?_
    refine va_slen C0.x C0.b hX hbl hbA hw.2.2 dL_law_26 ?_
    refine lv_bipush (v := nI 6) C0.x C0.b dL_law_27 (by decide) ?_
    refine lv_isub C0.x C0.b dL_law_29 ?_
    refine lv_icmp_gt (tgt := 1914) C0.x C0.b dL_law_30 (by decide) (fun c1 => ?_) (fun c1 => ?_)
    · refine lv_iconst (v := 1) C0.x C0.b dL_law_1914 (by decide) ?_
      refine va_forget (fun q hq => hw.2.2.2.2 q hq) ?_
      refine W.widen (k := 603072) (n := 7112810) (by omega) (by omega) ?_
      exact lw_ret C0.x C0.b C0.r C0.locks dL_law_1915
    · have hi6 : 6 * k + 6 ≤ L := by
        have h9 : ¬ (nI L - nI 6 : Int32).toInt < (nI (6 * k)).toInt := fun h => c1 (Int32.lt_iff_toInt_lt.mpr h)
        rw [hi0, hlen] at h9
        omega
      have hc : (100 + 2 * k) + 2 ≤ room_1.cells := by show _ ≤ 603072; omega
      have hs : (200000 + 12 * k) + 12 ≤ room_1.slots := by show _ ≤ 7112810; omega
      have kk : ∀ S1 : SS, R S1 → ∀ (H1 : Heap) (locs1 : List Loc), Wh D s.heap.size ad cI cJ [] S1 s H1 locs1 → ∀ ls1 : Array Slot, lv_has ls1 8 [(0, .ref b), (1, .ref (ad 0)), (2, .ref (ad 48)), (3, .ref (ad 64)), (4, .int (nI (6 * k)))] → W p l e room_1 s m #[.ref b] below meth c H1 locs1 ((100 + 2 * k) + 2) ((200000 + 12 * k) + 12) (lw_Z below #[.ref b] s) (F0 m 1908 ls1 []) := by
        intro S1 hR1 H1 locs1 hw1 ls1 hl1
        refine lv_iinc (v := nI (6 * (k + 1))) (lv' := [(4, .int (nI (6 * (k + 1)))), (0, .ref b), (1, .ref (ad 0)), (2, .ref (ad 48)), (3, .ref (ad 64))]) C0.x C0.b dL_law_1908 hl1 (k := 4) rfl (nI_add (6 * k) 6) (by decide) rfl (fun ls2 hl2 => ?_)
        refine lv_goto (tgt := 23) C0.x C0.b dL_law_1911 (by decide) ?_
        exact ih (k + 1) S1 (by omega) (by omega) hR1 H1 locs1 hw1 ls2 (lv_sub hl2 [1, 2, 3, 4, 0] rfl)
      refine lv_aload_n C0.x C0.b dL_law_33 rfl (lv_at hl 0 rfl) ?_
      refine lv_iload C0.x C0.b dL_law_34 (lv_at hl 4 rfl) ?_
      refine va_sld C0.x C0.b hX hbl hbA hw.2.2 (vp_in_nI (by omega) (by omega)) dL_law_36 ?_
      refine lv_bipush (v := 63) C0.x C0.b dL_law_37 (by decide) ?_
      refine lv_iand C0.x C0.b dL_law_39 ?_
      generalize (xs (nI (6 * k)).toNatClampNeg &&& 63 : Int32) = x
      by_cases hsw : x.toInt < 0 ∨ 35 < x.toInt
      · refine lv_tableOut (tgt := 1908) C0.x C0.b dL_law_40 hsw (by decide) ?_
        refine W.widen (k := (100 + 2 * k) + 2) (n := (200000 + 12 * k) + 12) (by omega) (by omega) ?_
        exact kk S hRS H locs hw ls hl
      · obtain ⟨k9, hk9, ek⟩ := sw_of hsw
        obtain ⟨g0, g1, g2, g3, g4, g5, g6, g7, g8, g9, g10, g11, g12, g13, g14, g15, g16, g17, g18, g19, g20, g21, g22, g23, g24, g25, g26, g27, g28, g29, g30, g31, g32, g33, g34, g35⟩ := hR
        have hk9 : k9 = 0 ∨ k9 = 1 ∨ k9 = 2 ∨ k9 = 3 ∨ k9 = 4 ∨ k9 = 5 ∨ k9 = 6 ∨ k9 = 7 ∨ k9 = 8 ∨ k9 = 9 ∨ k9 = 10 ∨ k9 = 11 ∨ k9 = 12 ∨ k9 = 13 ∨ k9 = 14 ∨ k9 = 15 ∨ k9 = 16 ∨ k9 = 17 ∨ k9 = 18 ∨ k9 = 19 ∨ k9 = 20 ∨ k9 = 21 ∨ k9 = 22 ∨ k9 = 23 ∨ k9 = 24 ∨ k9 = 25 ∨ k9 = 26 ∨ k9 = 27 ∨ k9 = 28 ∨ k9 = 29 ∨ k9 = 30 ∨ k9 = 31 ∨ k9 = 32 ∨ k9 = 33 ∨ k9 = 34 ∨ k9 = 35 := by omega
        rcases hk9 with rfl | rfl | rfl | rfl | rfl | rfl | rfl | rfl | rfl | rfl | rfl | rfl | rfl | rfl | rfl | rfl | rfl | rfl | rfl | rfl | rfl | rfl | rfl | rfl | rfl | rfl | rfl | rfl | rfl | rfl | rfl | rfl | rfl | rfl | rfl | rfl
        · have ek : x = 0 := ek
          refine lv_tableIn (tgt := 200) C0.x C0.b dL_law_40 (by rw [ek]; decide) (by rw [ek]; decide) (by rw [ek]; rfl) (by decide) ?_
          exact lc_0 C0 hlt hX hbl hbA R hc hs hi6 hL S (g0 _ S hRS) hw hl kk
        · have ek : x = 1 := ek
          refine lv_tableIn (tgt := 225) C0.x C0.b dL_law_40 (by rw [ek]; decide) (by rw [ek]; decide) (by rw [ek]; rfl) (by decide) ?_
          exact lc_1 C0 hlt hX hbl hbA R hc hs hi6 hL S (g1 _ S hRS) hw hl kk
        · have ek : x = 2 := ek
          refine lv_tableIn (tgt := 262) C0.x C0.b dL_law_40 (by rw [ek]; decide) (by rw [ek]; decide) (by rw [ek]; rfl) (by decide) ?_
          exact lc_2 C0 hlt hX hbl hbA R hc hs hi6 hL S (g2 _ S hRS) hw hl kk
        · have ek : x = 3 := ek
          refine lv_tableIn (tgt := 331) C0.x C0.b dL_law_40 (by rw [ek]; decide) (by rw [ek]; decide) (by rw [ek]; rfl) (by decide) ?_
          exact lc_3 C0 hlt hX hbl hbA R hc hs hi6 hL S (g3 _ S hRS) hw hl kk
        · have ek : x = 4 := ek
          refine lv_tableIn (tgt := 356) C0.x C0.b dL_law_40 (by rw [ek]; decide) (by rw [ek]; decide) (by rw [ek]; rfl) (by decide) ?_
          exact lc_4 C0 hlt hX hbl hbA R hc hs hi6 hL S (g4 _ S hRS) hw hl kk
        · have ek : x = 5 := ek
          refine lv_tableIn (tgt := 400) C0.x C0.b dL_law_40 (by rw [ek]; decide) (by rw [ek]; decide) (by rw [ek]; rfl) (by decide) ?_
          exact lc_5 C0 hlt hX hbl hbA R hc hs hi6 hL S (g5 _ S hRS) hw hl kk
        · have ek : x = 6 := ek
          refine lv_tableIn (tgt := 413) C0.x C0.b dL_law_40 (by rw [ek]; decide) (by rw [ek]; decide) (by rw [ek]; rfl) (by decide) ?_
          exact lc_6 C0 hlt hX hbl hbA R hc hs hi6 hL S (g6 _ S hRS) hw hl kk
        · have ek : x = 7 := ek
          refine lv_tableIn (tgt := 514) C0.x C0.b dL_law_40 (by rw [ek]; decide) (by rw [ek]; decide) (by rw [ek]; rfl) (by decide) ?_
          exact lc_7 C0 hlt hX hbl hbA R hc hs hi6 hL S (g7 _ S hRS) hw hl kk
        · have ek : x = 8 := ek
          refine lv_tableIn (tgt := 539) C0.x C0.b dL_law_40 (by rw [ek]; decide) (by rw [ek]; decide) (by rw [ek]; rfl) (by decide) ?_
          exact lc_8 C0 hlt hX hbl hbA R hc hs hi6 hL S (g8 _ S hRS) hw hl kk
        · have ek : x = 9 := ek
          refine lv_tableIn (tgt := 606) C0.x C0.b dL_law_40 (by rw [ek]; decide) (by rw [ek]; decide) (by rw [ek]; rfl) (by decide) ?_
          exact lc_9 C0 hlt hX hbl hbA R hc hs hi6 hL S (g9 _ S hRS) hw hl kk
        · have ek : x = 10 := ek
          refine lv_tableIn (tgt := 693) C0.x C0.b dL_law_40 (by rw [ek]; decide) (by rw [ek]; decide) (by rw [ek]; rfl) (by decide) ?_
          exact lc_10 C0 hlt hX hbl hbA R hc hs hi6 hL S (g10 _ S hRS) hw hl kk
        · have ek : x = 11 := ek
          refine lv_tableIn (tgt := 792) C0.x C0.b dL_law_40 (by rw [ek]; decide) (by rw [ek]; decide) (by rw [ek]; rfl) (by decide) ?_
          exact lc_11 C0 hlt hX hbl hbA R hc hs hi6 hL S (g11 _ S hRS) hw hl kk
        · have ek : x = 12 := ek
          refine lv_tableIn (tgt := 905) C0.x C0.b dL_law_40 (by rw [ek]; decide) (by rw [ek]; decide) (by rw [ek]; rfl) (by decide) ?_
          exact lc_12 C0 hlt hX hbl hbA R hc hs hi6 hL S (g12 _ S hRS) hw hl kk
        · have ek : x = 13 := ek
          refine lv_tableIn (tgt := 974) C0.x C0.b dL_law_40 (by rw [ek]; decide) (by rw [ek]; decide) (by rw [ek]; rfl) (by decide) ?_
          exact lc_13 C0 hlt hX hbl hbA R hc hs hi6 hL S (g13 _ S hRS) hw hl kk
        · have ek : x = 14 := ek
          refine lv_tableIn (tgt := 1073) C0.x C0.b dL_law_40 (by rw [ek]; decide) (by rw [ek]; decide) (by rw [ek]; rfl) (by decide) ?_
          exact lc_14 C0 hlt hX hbl hbA R hc hs hi6 hL S (g14 _ S hRS) hw hl kk
        · have ek : x = 15 := ek
          refine lv_tableIn (tgt := 1142) C0.x C0.b dL_law_40 (by rw [ek]; decide) (by rw [ek]; decide) (by rw [ek]; rfl) (by decide) ?_
          exact lc_15 C0 hlt hX hbl hbA R hc hs hi6 hL S (g15 _ S hRS) hw hl kk
        · have ek : x = 16 := ek
          refine lv_tableIn (tgt := 1167) C0.x C0.b dL_law_40 (by rw [ek]; decide) (by rw [ek]; decide) (by rw [ek]; rfl) (by decide) ?_
          exact lc_16 C0 hlt hX hbl hbA R hc hs hi6 hL S (g16 _ S hRS) hw hl kk
        · have ek : x = 17 := ek
          refine lv_tableIn (tgt := 1180) C0.x C0.b dL_law_40 (by rw [ek]; decide) (by rw [ek]; decide) (by rw [ek]; rfl) (by decide) ?_
          exact lc_17 C0 hlt hX hbl hbA R hc hs hi6 hL S (g17 _ S hRS) hw hl kk
        · have ek : x = 18 := ek
          refine lv_tableIn (tgt := 1193) C0.x C0.b dL_law_40 (by rw [ek]; decide) (by rw [ek]; decide) (by rw [ek]; rfl) (by decide) ?_
          exact lc_18 C0 hlt hX hbl hbA R hc hs hi6 hL S (g18 _ S hRS) hw hl kk
        · have ek : x = 19 := ek
          refine lv_tableIn (tgt := 1206) C0.x C0.b dL_law_40 (by rw [ek]; decide) (by rw [ek]; decide) (by rw [ek]; rfl) (by decide) ?_
          exact lc_19 C0 hlt hX hbl hbA R hc hs hi6 hL S (g19 _ S hRS) hw hl kk
        · have ek : x = 20 := ek
          refine lv_tableIn (tgt := 1231) C0.x C0.b dL_law_40 (by rw [ek]; decide) (by rw [ek]; decide) (by rw [ek]; rfl) (by decide) ?_
          exact lc_20 C0 hlt hX hbl hbA R hc hs hi6 hL S (g20 _ S hRS) hw hl kk
        · have ek : x = 21 := ek
          refine lv_tableIn (tgt := 1256) C0.x C0.b dL_law_40 (by rw [ek]; decide) (by rw [ek]; decide) (by rw [ek]; rfl) (by decide) ?_
          exact lc_21 C0 hlt hX hbl hbA R hc hs hi6 hL S (g21 _ S hRS) hw hl kk
        · have ek : x = 22 := ek
          refine lv_tableIn (tgt := 1293) C0.x C0.b dL_law_40 (by rw [ek]; decide) (by rw [ek]; decide) (by rw [ek]; rfl) (by decide) ?_
          exact lc_22 C0 hlt hX hbl hbA R hc hs hi6 hL S (g22 _ S hRS) hw hl kk
        · have ek : x = 23 := ek
          refine lv_tableIn (tgt := 1350) C0.x C0.b dL_law_40 (by rw [ek]; decide) (by rw [ek]; decide) (by rw [ek]; rfl) (by decide) ?_
          exact lc_23 C0 hlt hX hbl hbA R hc hs hi6 hL S (g23 _ S hRS) hw hl kk
        · have ek : x = 24 := ek
          refine lv_tableIn (tgt := 1408) C0.x C0.b dL_law_40 (by rw [ek]; decide) (by rw [ek]; decide) (by rw [ek]; rfl) (by decide) ?_
          exact lc_24 C0 hlt hX hbl hbA R hc hs hi6 hL S (g24 _ S hRS) hw hl kk
        · have ek : x = 25 := ek
          refine lv_tableIn (tgt := 1477) C0.x C0.b dL_law_40 (by rw [ek]; decide) (by rw [ek]; decide) (by rw [ek]; rfl) (by decide) ?_
          exact lc_25 C0 hlt hX hbl hbA R hc hs hi6 hL S (g25 _ S hRS) hw hl kk
        · have ek : x = 26 := ek
          refine lv_tableIn (tgt := 1490) C0.x C0.b dL_law_40 (by rw [ek]; decide) (by rw [ek]; decide) (by rw [ek]; rfl) (by decide) ?_
          exact lc_26 C0 hlt hX hbl hbA R hc hs hi6 hL S (g26 _ S hRS) hw hl kk
        · have ek : x = 27 := ek
          refine lv_tableIn (tgt := 1503) C0.x C0.b dL_law_40 (by rw [ek]; decide) (by rw [ek]; decide) (by rw [ek]; rfl) (by decide) ?_
          exact lc_27 C0 hlt hX hbl hbA R hc hs hi6 hL S (g27 _ S hRS) hw hl kk
        · have ek : x = 28 := ek
          refine lv_tableIn (tgt := 1516) C0.x C0.b dL_law_40 (by rw [ek]; decide) (by rw [ek]; decide) (by rw [ek]; rfl) (by decide) ?_
          exact lc_28 C0 hlt hX hbl hbA R hc hs hi6 hL S (g28 _ S hRS) hw hl kk
        · have ek : x = 29 := ek
          refine lv_tableIn (tgt := 1529) C0.x C0.b dL_law_40 (by rw [ek]; decide) (by rw [ek]; decide) (by rw [ek]; rfl) (by decide) ?_
          exact lc_29 C0 hlt hX hbl hbA R hc hs hi6 hL S (g29 _ S hRS) hw hl kk
        · have ek : x = 30 := ek
          refine lv_tableIn (tgt := 1590) C0.x C0.b dL_law_40 (by rw [ek]; decide) (by rw [ek]; decide) (by rw [ek]; rfl) (by decide) ?_
          exact lc_30 C0 hlt hX hbl hbA R hc hs hi6 hL S (g30 _ S hRS) hw hl kk
        · have ek : x = 31 := ek
          refine lv_tableIn (tgt := 1603) C0.x C0.b dL_law_40 (by rw [ek]; decide) (by rw [ek]; decide) (by rw [ek]; rfl) (by decide) ?_
          exact lc_31 C0 hlt hX hbl hbA R hc hs hi6 hL S (g31 _ S hRS) hw hl kk
        · have ek : x = 32 := ek
          refine lv_tableIn (tgt := 1676) C0.x C0.b dL_law_40 (by rw [ek]; decide) (by rw [ek]; decide) (by rw [ek]; rfl) (by decide) ?_
          exact lc_32 C0 hlt hX hbl hbA R hc hs hi6 hL S (g32 _ S hRS) hw hl kk
        · have ek : x = 33 := ek
          refine lv_tableIn (tgt := 1689) C0.x C0.b dL_law_40 (by rw [ek]; decide) (by rw [ek]; decide) (by rw [ek]; rfl) (by decide) ?_
          exact lc_33 C0 hlt hX hbl hbA R hc hs hi6 hL S (g33 _ S hRS) hw hl kk
        · have ek : x = 34 := ek
          refine lv_tableIn (tgt := 1780) C0.x C0.b dL_law_40 (by rw [ek]; decide) (by rw [ek]; decide) (by rw [ek]; rfl) (by decide) ?_
          exact lc_34 C0 hlt hX hbl hbA R hc hs hi6 hL S (g34 _ S hRS) hw hl kk
        · have ek : x = 35 := ek
          refine lv_tableIn (tgt := 1853) C0.x C0.b dL_law_40 (by rw [ek]; decide) (by rw [ek]; decide) (by rw [ek]; rfl) (by decide) ?_
          exact lc_35 C0 hlt hX hbl hbA R hc hs hi6 hL S (g35 _ S hRS) hw hl kk
set_option maxHeartbeats 16000000 in
set_option maxRecDepth 100000 in
/-- THE LAW out of what its steps owe -/
theorem law_start {R : SS → Prop} (hR : Steps_ok R) (hR0 : R S0) (hlt : l.stackTraces = false) (hL : L ≤ 3072) (C1 : lw_At p s m meth c b L xs) : W p l e room_1 s m #[Value.ref b] below meth c s.heap [] 0 0 (lw_Z below #[Value.ref b] s) (entryFrame m ([Value.ref b] : List Value).toArray 8) := by
  obtain ⟨hx, hb, hr, hml, hown, hts, hX, hbl, hlocks, hgv⟩ := C1
  obtain ⟨D, cI, cJ, hE⟩ := st_En hts (flat_of_before _ hgv)
  have C0 : Bd p s m meth c #[.ref b] code 8 ret wsnL_law RL D s.heap.size cI cJ := ⟨hx, hb, hr, hml, hown, fun w hw => hts w (wsnL_law_in w hw), hlocks, hE⟩
  have hw : Wgh D s.heap.size ([] ++ []) s s.heap [] := ⟨fun k q h => by simp at h, ⟨fun i j p q h => by simp at h, fun k q h => by simp at h⟩, va_S.rf⟩
  refine r_entry (Nat.le_of_ble_eq_true rfl) (fun ls hl => ?_)
  have hl : lv_has ls 8 [(0, .ref b)] := hl
  refine q_new (L := []) (T := []) C0 hw (C := RX7) (Tt := TX7) (N := 15) (ci := 8) (fs := [.int 0, .null, .null, .null, .null, .null, .null, .null, .null, .null, .null, .null, .null, .null, .null]) iw_L_X7 tyX7 tyX7_ok (C0.ts _ lk_c7) (C0.ts _ lk_i7) (C0.ts _ lk_t7) rfl df_X7 (Nat.le_of_ble_eq_true rfl) (Nat.le_of_ble_eq_true rfl) dL_law_0 (fun q0 H hw => ?_)
  refine lv_dup C0.x C0.b dL_law_3 rfl ?_
  refine q_cI (L := []) (T := []) (As := []) (rest := [.ref q0]) C0 hw (ct_X7_init ([] ++ []) q0) (cwI 0 C0.ts ngL_law_X7_init rfl rfl rfl (C0.ts _ lk_t7) (C0.ts _ lk_m7) (C0.ts _ lk_n7) rfl hd_X7_init ⟨Nat.le_of_ble_eq_true rfl, Nat.le_of_ble_eq_true rfl⟩) rfl hl.1 rfl (Nat.le_of_ble_eq_true rfl) ⟨Nat.le_of_ble_eq_true rfl, Nat.le_of_ble_eq_true rfl⟩ dL_law_4 (fun f H locs hw => ?_)
  have hw : Wgh D s.heap.size ([] ++ [(q0, .inr (8, [.int 0, .ref (f 0), .ref (f 4), .ref (f 8), .ref (f 12), .ref (f 15), .ref (f 18), .ref (f 20), .ref (f 22), .ref (f 24), .ref (f 26), .ref (f 28), .ref (f 32), .ref (f 34), .ref (f 36)])), ((f 0), .inr (6, [.int 0, .ref (f 1), .ref (f 2), .ref (f 3)])), ((f 1), .inl (cJ, (64, .inr (.inl (fun _ => 0))))), ((f 2), .inl (cJ, (64, .inr (.inl (fun _ => 0))))), ((f 3), .inl (cJ, (64, .inr (.inl (fun _ => 0))))), ((f 4), .inr (6, [.int 0, .ref (f 5), .ref (f 6), .ref (f 7)])), ((f 5), .inl (cJ, (64, .inr (.inl (fun _ => 0))))), ((f 6), .inl (cJ, (64, .inr (.inl (fun _ => 0))))), ((f 7), .inl (cJ, (64, .inr (.inl (fun _ => 0))))), ((f 8), .inr (6, [.int 0, .ref (f 9), .ref (f 10), .ref (f 11)])), ((f 9), .inl (cJ, (64, .inr (.inl (fun _ => 0))))), ((f 10), .inl (cJ, (64, .inr (.inl (fun _ => 0))))), ((f 11), .inl (cJ, (64, .inr (.inl (fun _ => 0))))), ((f 12), .inr (1, [.int 0, .ref (f 13), .ref (f 14)])), ((f 13), .inl (cJ, (40, .inr (.inl (fun _ => 0))))), ((f 14), .inl (cJ, (40, .inr (.inl (fun _ => 0))))), ((f 15), .inr (7, [.int (-1), .ref (f 16)])), ((f 16), .inr (3, [.ref (f 17), .int 0])), ((f 17), .inl (cJ, (64, .inr (.inl (fun _ => 0))))), ((f 18), .inr (3, [.ref (f 19), .int 0])), ((f 19), .inl (cJ, (1000, .inr (.inl (fun _ => 0))))), ((f 20), .inr (3, [.ref (f 21), .int 0])), ((f 21), .inl (cJ, (1000, .inr (.inl (fun _ => 0))))), ((f 22), .inr (3, [.ref (f 23), .int 0])), ((f 23), .inl (cJ, (1000, .inr (.inl (fun _ => 0))))), ((f 24), .inr (3, [.ref (f 25), .int 0])), ((f 25), .inl (cJ, (40, .inr (.inl (fun _ => 0))))), ((f 26), .inr (3, [.ref (f 27), .int 0])), ((f 27), .inl (cJ, (12, .inr (.inl (fun _ => 0))))), ((f 28), .inr (5, [.ref (f 29), .ref (f 30), .ref (f 31)])), ((f 29), .inl (cJ, (41, .inr (.inl (vp_updL (fun _ => 0) 0 1))))), ((f 30), .inl (cJ, (41, .inr (.inl (fun _ => 0))))), ((f 31), .inl (cJ, (41, .inr (.inl (vp_updL (fun _ => 0) 0 1))))), ((f 32), .inr (4, [.ref (f 33)])), ((f 33), .inl (cJ, (24, .inr (.inl (fun _ => 0))))), ((f 34), .inr (4, [.ref (f 35)])), ((f 35), .inl (cJ, (24, .inr (.inl (fun _ => 0))))), ((f 36), .inr (2, [.ref (f 37), .ref (f 39), .ref (f 41), .ref (f 43), .ref (f 45), .int 0])), ((f 37), .inr (3, [.ref (f 38), .int 0])), ((f 38), .inl (cJ, (12, .inr (.inl (fun _ => 0))))), ((f 39), .inr (3, [.ref (f 40), .int 0])), ((f 40), .inl (cJ, (12, .inr (.inl (fun _ => 0))))), ((f 41), .inr (3, [.ref (f 42), .int 0])), ((f 42), .inl (cJ, (12, .inr (.inl (fun _ => 0))))), ((f 43), .inr (3, [.ref (f 44), .int 0])), ((f 44), .inl (cJ, (12, .inr (.inl (fun _ => 0))))), ((f 45), .inr (3, [.ref (f 46), .int 0])), ((f 46), .inl (cJ, (4, .inr (.inl (fun _ => 0)))))]) s H locs := hw
  refine lv_astore_n (lv' := [(1, .ref q0), (0, .ref b)]) C0.x C0.b dL_law_7 rfl hl (by decide) rfl (fun ls hl => ?_)
  refine q_new (L := []) C0 hw (C := RX8) (Tt := TX8) (N := 33) (ci := 9) (fs := [.int 0, .int 0, .int 0, .null, .int 0, .int 0, .null, .int 0, .int 0, .null, .int 0, .null, .null, .long 0, .null, .int 0, .null, .null, .int 0, .long 0, .long 0, .long 0, .null, .long 0, .long 0, .int 0, .null, .null, .null, .null, .null, .int 0, .null]) iw_L_X8 tyX8 tyX8_ok (C0.ts _ lk_c8) (C0.ts _ lk_i8) (C0.ts _ lk_t8) rfl df_X8 (Nat.le_of_ble_eq_true rfl) (Nat.le_of_ble_eq_true rfl) dL_law_8 (fun q1 H hw => ?_)
  refine lv_dup C0.x C0.b dL_law_11 rfl ?_
  refine q_cI (L := []) (As := []) (rest := [.ref q1]) C0 hw (ct_X8_init ([] ++ [(q0, .inr (8, [.int 0, .ref (f 0), .ref (f 4), .ref (f 8), .ref (f 12), .ref (f 15), .ref (f 18), .ref (f 20), .ref (f 22), .ref (f 24), .ref (f 26), .ref (f 28), .ref (f 32), .ref (f 34), .ref (f 36)])), ((f 0), .inr (6, [.int 0, .ref (f 1), .ref (f 2), .ref (f 3)])), ((f 1), .inl (cJ, (64, .inr (.inl (fun _ => 0))))), ((f 2), .inl (cJ, (64, .inr (.inl (fun _ => 0))))), ((f 3), .inl (cJ, (64, .inr (.inl (fun _ => 0))))), ((f 4), .inr (6, [.int 0, .ref (f 5), .ref (f 6), .ref (f 7)])), ((f 5), .inl (cJ, (64, .inr (.inl (fun _ => 0))))), ((f 6), .inl (cJ, (64, .inr (.inl (fun _ => 0))))), ((f 7), .inl (cJ, (64, .inr (.inl (fun _ => 0))))), ((f 8), .inr (6, [.int 0, .ref (f 9), .ref (f 10), .ref (f 11)])), ((f 9), .inl (cJ, (64, .inr (.inl (fun _ => 0))))), ((f 10), .inl (cJ, (64, .inr (.inl (fun _ => 0))))), ((f 11), .inl (cJ, (64, .inr (.inl (fun _ => 0))))), ((f 12), .inr (1, [.int 0, .ref (f 13), .ref (f 14)])), ((f 13), .inl (cJ, (40, .inr (.inl (fun _ => 0))))), ((f 14), .inl (cJ, (40, .inr (.inl (fun _ => 0))))), ((f 15), .inr (7, [.int (-1), .ref (f 16)])), ((f 16), .inr (3, [.ref (f 17), .int 0])), ((f 17), .inl (cJ, (64, .inr (.inl (fun _ => 0))))), ((f 18), .inr (3, [.ref (f 19), .int 0])), ((f 19), .inl (cJ, (1000, .inr (.inl (fun _ => 0))))), ((f 20), .inr (3, [.ref (f 21), .int 0])), ((f 21), .inl (cJ, (1000, .inr (.inl (fun _ => 0))))), ((f 22), .inr (3, [.ref (f 23), .int 0])), ((f 23), .inl (cJ, (1000, .inr (.inl (fun _ => 0))))), ((f 24), .inr (3, [.ref (f 25), .int 0])), ((f 25), .inl (cJ, (40, .inr (.inl (fun _ => 0))))), ((f 26), .inr (3, [.ref (f 27), .int 0])), ((f 27), .inl (cJ, (12, .inr (.inl (fun _ => 0))))), ((f 28), .inr (5, [.ref (f 29), .ref (f 30), .ref (f 31)])), ((f 29), .inl (cJ, (41, .inr (.inl (vp_updL (fun _ => 0) 0 1))))), ((f 30), .inl (cJ, (41, .inr (.inl (fun _ => 0))))), ((f 31), .inl (cJ, (41, .inr (.inl (vp_updL (fun _ => 0) 0 1))))), ((f 32), .inr (4, [.ref (f 33)])), ((f 33), .inl (cJ, (24, .inr (.inl (fun _ => 0))))), ((f 34), .inr (4, [.ref (f 35)])), ((f 35), .inl (cJ, (24, .inr (.inl (fun _ => 0))))), ((f 36), .inr (2, [.ref (f 37), .ref (f 39), .ref (f 41), .ref (f 43), .ref (f 45), .int 0])), ((f 37), .inr (3, [.ref (f 38), .int 0])), ((f 38), .inl (cJ, (12, .inr (.inl (fun _ => 0))))), ((f 39), .inr (3, [.ref (f 40), .int 0])), ((f 40), .inl (cJ, (12, .inr (.inl (fun _ => 0))))), ((f 41), .inr (3, [.ref (f 42), .int 0])), ((f 42), .inl (cJ, (12, .inr (.inl (fun _ => 0))))), ((f 43), .inr (3, [.ref (f 44), .int 0])), ((f 44), .inl (cJ, (12, .inr (.inl (fun _ => 0))))), ((f 45), .inr (3, [.ref (f 46), .int 0])), ((f 46), .inl (cJ, (4, .inr (.inl (fun _ => 0)))))]) q1) (cwI 0 C0.ts ngL_law_X8_init rfl rfl rfl (C0.ts _ lk_t8) (C0.ts _ lk_m8) (C0.ts _ lk_n8) rfl hd_X8_init ⟨Nat.le_of_ble_eq_true rfl, Nat.le_of_ble_eq_true rfl⟩) rfl hl.1 rfl (Nat.le_of_ble_eq_true rfl) ⟨Nat.le_of_ble_eq_true rfl, Nat.le_of_ble_eq_true rfl⟩ dL_law_12 (fun f1 H locs hw => ?_)
  have hw : Wgh D s.heap.size ([] ++ [(q0, .inr (8, [.int 0, .ref (f 0), .ref (f 4), .ref (f 8), .ref (f 12), .ref (f 15), .ref (f 18), .ref (f 20), .ref (f 22), .ref (f 24), .ref (f 26), .ref (f 28), .ref (f 32), .ref (f 34), .ref (f 36)])), ((f 0), .inr (6, [.int 0, .ref (f 1), .ref (f 2), .ref (f 3)])), ((f 1), .inl (cJ, (64, .inr (.inl (fun _ => 0))))), ((f 2), .inl (cJ, (64, .inr (.inl (fun _ => 0))))), ((f 3), .inl (cJ, (64, .inr (.inl (fun _ => 0))))), ((f 4), .inr (6, [.int 0, .ref (f 5), .ref (f 6), .ref (f 7)])), ((f 5), .inl (cJ, (64, .inr (.inl (fun _ => 0))))), ((f 6), .inl (cJ, (64, .inr (.inl (fun _ => 0))))), ((f 7), .inl (cJ, (64, .inr (.inl (fun _ => 0))))), ((f 8), .inr (6, [.int 0, .ref (f 9), .ref (f 10), .ref (f 11)])), ((f 9), .inl (cJ, (64, .inr (.inl (fun _ => 0))))), ((f 10), .inl (cJ, (64, .inr (.inl (fun _ => 0))))), ((f 11), .inl (cJ, (64, .inr (.inl (fun _ => 0))))), ((f 12), .inr (1, [.int 0, .ref (f 13), .ref (f 14)])), ((f 13), .inl (cJ, (40, .inr (.inl (fun _ => 0))))), ((f 14), .inl (cJ, (40, .inr (.inl (fun _ => 0))))), ((f 15), .inr (7, [.int (-1), .ref (f 16)])), ((f 16), .inr (3, [.ref (f 17), .int 0])), ((f 17), .inl (cJ, (64, .inr (.inl (fun _ => 0))))), ((f 18), .inr (3, [.ref (f 19), .int 0])), ((f 19), .inl (cJ, (1000, .inr (.inl (fun _ => 0))))), ((f 20), .inr (3, [.ref (f 21), .int 0])), ((f 21), .inl (cJ, (1000, .inr (.inl (fun _ => 0))))), ((f 22), .inr (3, [.ref (f 23), .int 0])), ((f 23), .inl (cJ, (1000, .inr (.inl (fun _ => 0))))), ((f 24), .inr (3, [.ref (f 25), .int 0])), ((f 25), .inl (cJ, (40, .inr (.inl (fun _ => 0))))), ((f 26), .inr (3, [.ref (f 27), .int 0])), ((f 27), .inl (cJ, (12, .inr (.inl (fun _ => 0))))), ((f 28), .inr (5, [.ref (f 29), .ref (f 30), .ref (f 31)])), ((f 29), .inl (cJ, (41, .inr (.inl (vp_updL (fun _ => 0) 0 1))))), ((f 30), .inl (cJ, (41, .inr (.inl (fun _ => 0))))), ((f 31), .inl (cJ, (41, .inr (.inl (vp_updL (fun _ => 0) 0 1))))), ((f 32), .inr (4, [.ref (f 33)])), ((f 33), .inl (cJ, (24, .inr (.inl (fun _ => 0))))), ((f 34), .inr (4, [.ref (f 35)])), ((f 35), .inl (cJ, (24, .inr (.inl (fun _ => 0))))), ((f 36), .inr (2, [.ref (f 37), .ref (f 39), .ref (f 41), .ref (f 43), .ref (f 45), .int 0])), ((f 37), .inr (3, [.ref (f 38), .int 0])), ((f 38), .inl (cJ, (12, .inr (.inl (fun _ => 0))))), ((f 39), .inr (3, [.ref (f 40), .int 0])), ((f 40), .inl (cJ, (12, .inr (.inl (fun _ => 0))))), ((f 41), .inr (3, [.ref (f 42), .int 0])), ((f 42), .inl (cJ, (12, .inr (.inl (fun _ => 0))))), ((f 43), .inr (3, [.ref (f 44), .int 0])), ((f 44), .inl (cJ, (12, .inr (.inl (fun _ => 0))))), ((f 45), .inr (3, [.ref (f 46), .int 0])), ((f 46), .inl (cJ, (4, .inr (.inl (fun _ => 0))))), (q1, .inr (9, [.int 0, .int (-1), .int 0, .ref (f1 0), .int 0, .int 0, .ref (f1 1), .int 0, .int 0, .ref (f1 2), .int 0, .ref (f1 3), .ref (f1 4), .long 0, .ref (f1 5), .int 0, .ref (f1 6), .ref (f1 7), .int 0, .long 0, .long 0, .long 0, .ref (f1 8), .long 0, .long 0, .int 0, .ref (f1 9), .ref (f1 10), .ref (f1 11), .ref (f1 12), .ref (f1 13), .int 0, .ref (f1 14)])), ((f1 0), .inl (cJ, (64, .inr (.inl (fun _ => 0))))), ((f1 1), .inl (cJ, (192, .inr (.inl (fun _ => 0))))), ((f1 2), .inl (cJ, (192, .inr (.inl (fun _ => 0))))), ((f1 3), .inl (cJ, (40, .inr (.inl (fun _ => 0))))), ((f1 4), .inl (cJ, (40, .inr (.inl (fun _ => 0))))), ((f1 5), .inl (cJ, (1000, .inr (.inl (fun _ => 0))))), ((f1 6), .inl (cJ, (20000, .inr (.inl (fun _ => 0))))), ((f1 7), .inl (cI, (40, .inl (fun _ => 0)))), ((f1 8), .inl (cI, (40, .inl (fun _ => 0)))), ((f1 9), .inl (cJ, (26, .inr (.inl (fun _ => 0))))), ((f1 10), .inl (cJ, (26, .inr (.inl (fun _ => 0))))), ((f1 11), .inl (cJ, (1000, .inr (.inl (fun _ => 0))))), ((f1 12), .inl (cI, (100000, .inl (fun _ => 0)))), ((f1 13), .inl (cJ, (192, .inr (.inl (fun _ => 0))))), ((f1 14), .inl (cI, (48, .inl (fun _ => 0))))]) s H locs := hw
  refine lv_astore_n (lv' := [(2, .ref q1), (1, .ref q0), (0, .ref b)]) C0.x C0.b dL_law_15 rfl hl (by decide) rfl (fun ls hl => ?_)
  refine lv_iconst (v := 1) C0.x C0.b dL_law_16 (by decide) ?_
  refine q_newL (L := []) (N' := 1) C0 hw (C0.ts _ lk_al) (by decide) (by decide) (Nat.le_of_ble_eq_true rfl) (Nat.le_of_ble_eq_true rfl) (Nat.le_of_ble_eq_true rfl) dL_law_17 (fun q2 H hw => ?_)
  obtain ⟨ad, ead⟩ : ∃ ad : Nat → Nat, ad = (fun k => ([q0, (f 0), (f 1), (f 2), (f 3), (f 4), (f 5), (f 6), (f 7), (f 8), (f 9), (f 10), (f 11), (f 12), (f 13), (f 14), (f 15), (f 16), (f 17), (f 18), (f 19), (f 20), (f 21), (f 22), (f 23), (f 24), (f 25), (f 26), (f 27), (f 28), (f 29), (f 30), (f 31), (f 32), (f 33), (f 34), (f 35), (f 36), (f 37), (f 38), (f 39), (f 40), (f 41), (f 42), (f 43), (f 44), (f 45), (f 46), q1, (f1 0), (f1 1), (f1 2), (f1 3), (f1 4), (f1 5), (f1 6), (f1 7), (f1 8), (f1 9), (f1 10), (f1 11), (f1 12), (f1 13), (f1 14), q2] : List Nat).getD k 0) := ⟨_, rfl⟩
  have hw : Wh D s.heap.size ad cI cJ [] S0 s H locs := by
    subst ead
    exact hw
  have a0 : q0 = ad 0 := by rw [ead]; rfl
  have a1 : q1 = ad 48 := by rw [ead]; rfl
  have a2 : q2 = ad 64 := by rw [ead]; rfl
  rw [a0, a1] at hl
  rw [a2]
  refine lv_astore_n (lv' := [(3, .ref (ad 64)), (2, .ref (ad 48)), (1, .ref (ad 0)), (0, .ref b)]) C0.x C0.b dL_law_19 rfl hl (by decide) rfl (fun ls hl => ?_)
  refine lv_iconst (v := 0) C0.x C0.b dL_law_20 (by decide) ?_
  refine lv_istore (lv' := [(4, .int 0), (3, .ref (ad 64)), (2, .ref (ad 48)), (1, .ref (ad 0)), (0, .ref b)]) C0.x C0.b dL_law_21 hl (by decide) rfl (fun ls hl => ?_)
  refine W.widen (k := 100 + 2 * 0) (n := 200000 + 12 * 0) (Nat.le_of_ble_eq_true rfl) (Nat.le_of_ble_eq_true rfl) ?_
  exact law_loop hR hlt C0 hX hbl hL (L + 6) 0 S0 (by omega) (by omega) hR0 H locs hw ls (lv_sub hl [4, 3, 2, 1, 0] rfl)
end
