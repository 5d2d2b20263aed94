/-! THE END: what holds at first; each step; the start -/
theorem RR_S0 : RR S0 := by
  refine ⟨Or.inl ⟨rfl, rfl⟩, ⟨rfl, Or.inl rfl⟩, Or.inl ⟨rfl, rfl, rfl⟩, ⟨0, by omega, rfl, rfl, fun k h => by omega⟩, ⟨0, by omega, rfl, rfl, fun k h => by omega⟩, ⟨0, by omega, rfl, rfl, rfl, rfl, rfl, fun k h => by omega⟩, ⟨rfl, rfl, rfl⟩⟩
theorem st_0 (a : Nat → Int32) (S : SS) (h : RR S) : VL_0 a S RR := by
  unfold VL_0
  exact p_draft h
theorem st_1 (a : Nat → Int32) (S : SS) (h : RR S) : VL_1 a S RR := by
  unfold VL_1
  exact p_sheet h
theorem st_2 (a : Nat → Int32) (S : SS) (h : RR S) : VL_2 a S RR := by
  unfold VL_2
  exact p_entry h
theorem st_3 (a : Nat → Int32) (S : SS) (h : RR S) : VL_3 a S RR := by
  unfold VL_3
  exact p_lay h
theorem st_4 (a : Nat → Int32) (S : SS) (h : RR S) : VL_4 a S RR := by
  unfold VL_4
  exact p_seal h
theorem st_5 (a : Nat → Int32) (S : SS) (h : RR S) : VL_5 a S RR := by
  unfold VL_5
  exact p_list h
theorem st_6 (a : Nat → Int32) (S : SS) (h : RR S) : VL_6 a S RR := by
  unfold VL_6
  exact p_fraction h
theorem st_7 (a : Nat → Int32) (S : SS) (h : RR S) : VL_7 a S RR := by
  unfold VL_7
  exact p_count h
theorem st_8 (a : Nat → Int32) (S : SS) (h : RR S) : VL_8 a S RR := by
  unfold VL_8
  exact p_told h
theorem st_9 (a : Nat → Int32) (S : SS) (h : RR S) : VL_9 a S RR := by
  unfold VL_9
  exact p_step h
theorem st_10 (a : Nat → Int32) (S : SS) (h : RR S) : VL_10 a S RR := by
  unfold VL_10
  exact p_run h
theorem st_11 (a : Nat → Int32) (S : SS) (h : RR S) : VL_11 a S RR := by
  unfold VL_11
  exact p_until h
theorem st_12 (a : Nat → Int32) (S : SS) (h : RR S) : VL_12 a S RR := by
  unfold VL_12
  exact p_height h
theorem st_13 (a : Nat → Int32) (S : SS) (h : RR S) : VL_13 a S RR := by
  unfold VL_13
  exact p_peak h
theorem st_14 (a : Nat → Int32) (S : SS) (h : RR S) : VL_14 a S RR := by
  unfold VL_14
  exact p_word h
theorem st_15 (a : Nat → Int32) (S : SS) (h : RR S) : VL_15 a S RR := by
  unfold VL_15
  exact p_rest h
theorem st_16 (a : Nat → Int32) (S : SS) (h : RR S) : VL_16 a S RR := by
  unfold VL_16
  exact p_clear h
theorem st_17 (a : Nat → Int32) (S : SS) (h : RR S) : VL_17 a S RR := by
  unfold VL_17
  exact p_shape h
theorem st_18 (a : Nat → Int32) (S : SS) (h : RR S) : VL_18 a S RR := by
  unfold VL_18
  exact p_ring h
theorem st_19 (a : Nat → Int32) (S : SS) (h : RR S) : VL_19 a S RR := by
  unfold VL_19
  exact p_rings h
theorem st_20 (a : Nat → Int32) (S : SS) (h : RR S) : VL_20 a S RR := by
  unfold VL_20
  exact p_falls h
theorem st_21 (a : Nat → Int32) (S : SS) (h : RR S) : VL_21 a S RR := by
  unfold VL_21
  exact p_least h
theorem st_22 (a : Nat → Int32) (S : SS) (h : RR S) : VL_22 a S RR := by
  unfold VL_22
  exact p_back h
theorem st_23 (a : Nat → Int32) (S : SS) (h : RR S) : VL_23 a S RR := by
  unfold VL_23
  exact p_whole h
theorem st_24 (a : Nat → Int32) (S : SS) (h : RR S) : VL_24 a S RR := by
  unfold VL_24
  exact p_backs h
theorem st_25 (a : Nat → Int32) (S : SS) (h : RR S) : VL_25 a S RR := by
  unfold VL_25
  exact p_both h
theorem st_26 (a : Nat → Int32) (S : SS) (h : RR S) : VL_26 a S RR := by
  unfold VL_26
  exact p_turn h
theorem st_27 (a : Nat → Int32) (S : SS) (h : RR S) : VL_27 a S RR := by
  unfold VL_27
  exact p_drift h
theorem st_28 (a : Nat → Int32) (S : SS) (h : RR S) : VL_28 a S RR := by
  unfold VL_28
  exact p_fixed h
theorem st_29 (a : Nat → Int32) (S : SS) (h : RR S) : VL_29 a S RR := by
  unfold VL_29
  exact p_act h
theorem st_30 (a : Nat → Int32) (S : SS) (h : RR S) : VL_30 a S RR := by
  unfold VL_30
  exact p_scrap h
theorem st_31 (a : Nat → Int32) (S : SS) (h : RR S) : VL_31 a S RR := by
  unfold VL_31
  exact p_go h
theorem st_32 (a : Nat → Int32) (S : SS) (h : RR S) : VL_32 a S RR := by
  unfold VL_32
  exact p_made h
theorem st_33 (a : Nat → Int32) (S : SS) (h : RR S) : VL_33 a S RR := by
  unfold VL_33
  exact p_begins h
theorem st_34 (a : Nat → Int32) (S : SS) (h : RR S) : VL_34 a S RR := by
  unfold VL_34
  exact p_law h
theorem st_35 (a : Nat → Int32) (S : SS) (h : RR S) : VL_35 a S RR := by
  unfold VL_35
  exact p_row h
theorem steps_RR : Steps_ok RR := ⟨st_0, st_1, st_2, st_3, st_4, st_5, st_6, st_7, st_8, st_9, st_10, st_11, st_12, st_13, st_14, st_15, st_16, st_17, st_18, st_19, st_20, st_21, st_22, st_23, st_24, st_25, st_26, st_27, st_28, st_29, st_30, st_31, st_32, st_33, st_34, st_35⟩
section
variable {p : Program} {e : Env} {s : State} {m : MethodId} {below : List Frame} {meth : Method} {c : Code} {b L : Nat} {xs : Nat → Int32}
theorem whole_start (l : Launch) (hflags : l.flags = flags0) (hL : L ≤ 3072) (C0 : lw_At p s m meth c b L xs) : W p l e room_1 s m #[Value.ref b] below meth c s.heap [] 0 0 (lw_Z below #[Value.ref b] s) (entryFrame m ([Value.ref b] : List Value).toArray 8) :=
  law_start steps_RR RR_S0 (by
    unfold Launch.stackTraces
    rw [hflags]
    decide) hL C0
end
