def M_X7_isRow (i0 : Int32) : Option (Int32) :=
  ((M_X7_within i0 (0 : Int32) (7 : Int32)).bind (fun u1 => (if (u1 = 0 ∨ u1 = 1) then (some u1) else none)))
def q_X7_isRow : Room := { frames := 2, cells := 0, slots := 0, locals := 82 }
set_option maxHeartbeats 4000000 in
set_option maxRecDepth 100000 in
theorem c_X7_isRow (l : Launch) (G : gT) (i0 : Int32) : CT l G yX7_isRow cX7_isRow 1 (some .boolean) q_X7_isRow [.int i0] ([]) (M_X7_isRow i0) (fun u => some (.int u)) (fun u => []) := by
  refine CT.of (P := PX7_isRow) (by decide) dPX7_isRow (Nat.le_of_ble_eq_true rfl) ?_
  intro p e s m args below meth c A Q ls hne X RT Y hl
  have hl : lv_has ls 1 [(0, .int i0)] := hl
  generalize hM : M_X7_isRow i0 = MM at hne RT
  unfold M_X7_isRow at hM
  refine r_iload_n (pc' := 1) X hl 0 rfl rfl 0 rfl rfl ?_
  refine r_iconst (pc' := 2) X (0 : Int32) 1 rfl rfl rfl ?_
  refine r_bipush (pc' := 4) X (7 : Int32) 2 rfl rfl rfl ?_
  refine r_callS0 (pc' := 7) (As := [.int i0, .int (0 : Int32), .int (7 : Int32)]) (rest := []) X Y 3 rfl rfl mRX7_62 (c_X7_within l G i0 (0 : Int32) (7 : Int32)) (mB hM hne) rfl [] rfl rfl rfl (Nat.le_of_ble_eq_true rfl) ⟨rfl, rfl⟩ ⟨Nat.le_of_ble_eq_true rfl, Nat.le_of_ble_eq_true rfl⟩ ⟨Nat.zero_le _, Nat.zero_le _⟩ hl.1 (st' := fun u1 => [.int u1]) (fun _ => rfl) (fun u1 H locs huu1 Y => ?_)
  replace hM := mS hM huu1
  obtain ⟨g2, hM⟩ := mG hM hne
  exact RT u1 _ _ _ _ _ hM (Or.inr (Or.inl ⟨rfl, rfl, _, rfl, nb g2⟩)) (X.d (k := 4) rfl) Y

def M_X7_found (S0 : TF) (i1 : Int32) : Option (Int32 × TF) :=
  (some (((-1000010 : Int32) - i1), (tf_s_latestFinding S0 i1)))
def q_X7_found : Room := { frames := 1, cells := 0, slots := 0, locals := 60 }
set_option maxHeartbeats 4000000 in
set_option maxRecDepth 100000 in
theorem c_X7_found (l : Launch) (G : gT) (h h_rows h_tape h_live h_draft h_images h_acts h_foresight h_asks : Nat) (S0_latestFault : Int32) (S0_latestFinding : Int32) (i1 : Int32) : CT l G yX7_found cX7_found 2 (some .int) q_X7_found [.ref h, .int i1] (wTF G h h_rows h_tape h_live h_draft h_images h_acts h_foresight h_asks S0_latestFault S0_latestFinding) (M_X7_found (S0_latestFault, S0_latestFinding) i1) (fun u => some (.int u.1)) (fun u => wTF G h h_rows h_tape h_live h_draft h_images h_acts h_foresight h_asks u.2.1 u.2.2) := by
  refine CT.of (P := PX7_found) (by decide) dPX7_found (Nat.le_of_ble_eq_true rfl) ?_
  intro p e s m args below meth c A Q ls hne X RT Y hl
  have hl : lv_has ls 2 [(0, .ref h), (1, .int i1)] := hl
  generalize hM : M_X7_found (S0_latestFault, S0_latestFinding) i1 = MM at hne RT
  unfold M_X7_found at hM
  refine r_aload_n (pc' := 1) X hl 0 rfl rfl 0 rfl rfl ?_
  refine r_iload_n (pc' := 2) X hl 1 rfl rfl 1 rfl rfl ?_
  refine r_put (pc' := 5) (ws' := wTF G h h_rows h_tape h_live h_draft h_images h_acts h_foresight h_asks S0_latestFault i1) X Y 2 rfl rfl fRX7_329 0 rfl rfl rfl (Nat.le_of_ble_eq_true rfl) rfl (fun H locs Y => ?_)
  refine r_ldcw (pc' := 8) X mw322 3 rfl rfl ?_
  refine r_iload_n (pc' := 9) X hl 1 rfl rfl 4 rfl rfl ?_
  refine r_isub (pc' := 10) X 5 rfl rfl ?_
  exact RT (((-1000010 : Int32) - i1), (S0_latestFault, i1)) _ _ _ _ _ hM (Or.inl ⟨rfl, rfl, _, rfl⟩) (X.d (k := 6) rfl) Y

def M_X7_unfound (S0 : TF) (i1 : Int32) : Option (Int32 × TF) :=
  (some (i1, (tf_s_latestFinding S0 (0 : Int32))))
def q_X7_unfound : Room := { frames := 1, cells := 0, slots := 0, locals := 60 }
set_option maxHeartbeats 4000000 in
set_option maxRecDepth 100000 in
theorem c_X7_unfound (l : Launch) (G : gT) (h h_rows h_tape h_live h_draft h_images h_acts h_foresight h_asks : Nat) (S0_latestFault : Int32) (S0_latestFinding : Int32) (i1 : Int32) : CT l G yX7_unfound cX7_unfound 2 (some .int) q_X7_unfound [.ref h, .int i1] (wTF G h h_rows h_tape h_live h_draft h_images h_acts h_foresight h_asks S0_latestFault S0_latestFinding) (M_X7_unfound (S0_latestFault, S0_latestFinding) i1) (fun u => some (.int u.1)) (fun u => wTF G h h_rows h_tape h_live h_draft h_images h_acts h_foresight h_asks u.2.1 u.2.2) := by
  refine CT.of (P := PX7_unfound) (by decide) dPX7_unfound (Nat.le_of_ble_eq_true rfl) ?_
  intro p e s m args below meth c A Q ls hne X RT Y hl
  have hl : lv_has ls 2 [(0, .ref h), (1, .int i1)] := hl
  generalize hM : M_X7_unfound (S0_latestFault, S0_latestFinding) i1 = MM at hne RT
  unfold M_X7_unfound at hM
  refine r_aload_n (pc' := 1) X hl 0 rfl rfl 0 rfl rfl ?_
  refine r_iconst (pc' := 2) X (0 : Int32) 1 rfl rfl rfl ?_
  refine r_put (pc' := 5) (ws' := wTF G h h_rows h_tape h_live h_draft h_images h_acts h_foresight h_asks S0_latestFault (0 : Int32)) X Y 2 rfl rfl fRX7_329 0 rfl rfl rfl (Nat.le_of_ble_eq_true rfl) rfl (fun H locs Y => ?_)
  refine r_iload_n (pc' := 6) X hl 1 rfl rfl 3 rfl rfl ?_
  exact RT (i1, (S0_latestFault, (0 : Int32))) _ _ _ _ _ hM (Or.inl ⟨rfl, rfl, _, rfl⟩) (X.d (k := 4) rfl) Y

def M_X7_row (S0 : TF) (S1 : RW) (i1 : Int32) (i2 : Int32) (i3 : Int32) : Option (Int32 × TF × RW) :=
  ((M_X7_isRow i1).bind (fun u1 => (if u1 = 0 then (some ((-1000001 : Int32), S0, S1)) else ((M_X7_within i2 (0 : Int32) (2 : Int32)).bind (fun u3 => (if u3 = 0 then (some ((-1000001 : Int32), S0, S1)) else (if i3 ≤ (40 : Int32) then (if 0 ≤ i3 then ((M_X5_make S1 i1 i2 i3).bind (fun u7 => ((M_X7_unfound S0 i3).bind (fun u8 => (some (u8.1, u8.2, u7)))))) else ((M_X7_found S0 (4 : Int32)).bind (fun u9 => (some (u9.1, u9.2, S1))))) else (some ((-1000001 : Int32), S0, S1)))))))))
def q_X7_row : Room := { frames := 3, cells := 0, slots := 0, locals := 102 }
set_option maxHeartbeats 4000000 in
set_option maxRecDepth 100000 in
theorem c_X7_row (l : Launch) (G : gT) (h h_rows h_tape h_live h_draft h_images h_acts h_foresight h_asks h_rows_lanes h_rows_sizes h_rows_items : Nat) (S0_latestFault : Int32) (S0_latestFinding : Int32) (S1_lanes : Nat → Int32) (S1_sizes : Nat → Int32) (S1_items : Nat → Int32) (i1 : Int32) (i2 : Int32) (i3 : Int32) : CT l G yX7_row cX7_row 4 (some .int) q_X7_row [.ref h, .int i1, .int i2, .int i3] (wTF G h h_rows h_tape h_live h_draft h_images h_acts h_foresight h_asks S0_latestFault S0_latestFinding ++ wRW G h_rows h_rows_lanes h_rows_sizes h_rows_items S1_lanes S1_sizes S1_items) (M_X7_row (S0_latestFault, S0_latestFinding) (S1_lanes, S1_sizes, S1_items) i1 i2 i3) (fun u => some (.int u.1)) (fun u => wTF G h h_rows h_tape h_live h_draft h_images h_acts h_foresight h_asks u.2.1.1 u.2.1.2 ++ wRW G h_rows h_rows_lanes h_rows_sizes h_rows_items u.2.2.1 u.2.2.2.1 u.2.2.2.2) := by
  refine CT.of (P := PX7_row) (by decide) dPX7_row (Nat.le_of_ble_eq_true rfl) ?_
  intro p e s m args below meth c A Q ls hne X RT Y hl
  have hl : lv_has ls 4 [(0, .ref h), (1, .int i1), (2, .int i2), (3, .int i3)] := hl
  generalize hM : M_X7_row (S0_latestFault, S0_latestFinding) (S1_lanes, S1_sizes, S1_items) i1 i2 i3 = MM at hne RT
  unfold M_X7_row at hM
  refine r_iload_n (pc' := 1) X hl 1 rfl rfl 0 rfl rfl ?_
  refine r_callS0 (pc' := 4) (As := [.int i1]) (rest := []) X Y 1 rfl rfl mRX7_58 (c_X7_isRow l G i1) (mB hM hne) rfl [] rfl rfl rfl (Nat.le_of_ble_eq_true rfl) ⟨rfl, rfl⟩ ⟨Nat.le_of_ble_eq_true rfl, Nat.le_of_ble_eq_true rfl⟩ ⟨Nat.zero_le _, Nat.zero_le _⟩ hl.1 (st' := fun u1 => [.int u1]) (fun _ => rfl) (fun u1 H locs huu1 Y => ?_)
  replace hM := mS hM huu1
  refine r_if_eq (pc' := 7) X 22 2 rfl rfl (by decide) (fun c2 => ?_) (fun c2 => ?_)
  · replace hM := mI hM c2
    refine r_ldc (pc' := 24) X mw324 11 rfl rfl ?_
    exact RT ((-1000001 : Int32), (S0_latestFault, S0_latestFinding), (S1_lanes, S1_sizes, S1_items)) _ _ _ _ _ hM (Or.inl ⟨rfl, rfl, _, rfl⟩) (X.d (k := 12) rfl) Y
  · replace hM := mE hM c2
    refine r_iload_n (pc' := 8) X hl 2 rfl rfl 3 rfl rfl ?_
    refine r_iconst (pc' := 9) X (0 : Int32) 4 rfl rfl rfl ?_
    refine r_iconst (pc' := 10) X (2 : Int32) 5 rfl rfl rfl ?_
    refine r_callS0 (pc' := 13) (As := [.int i2, .int (0 : Int32), .int (2 : Int32)]) (rest := []) X Y 6 rfl rfl mRX7_62 (c_X7_within l G i2 (0 : Int32) (2 : Int32)) (mB hM hne) rfl [] rfl rfl rfl (Nat.le_of_ble_eq_true rfl) ⟨rfl, rfl⟩ ⟨Nat.le_of_ble_eq_true rfl, Nat.le_of_ble_eq_true rfl⟩ ⟨Nat.zero_le _, Nat.zero_le _⟩ hl.1 (st' := fun u3 => [.int u3]) (fun _ => rfl) (fun u3 H locs huu3 Y => ?_)
    replace hM := mS hM huu3
    refine r_if_eq (pc' := 16) X 22 7 rfl rfl (by decide) (fun c4 => ?_) (fun c4 => ?_)
    · replace hM := mI hM c4
      refine r_ldc (pc' := 24) X mw324 11 rfl rfl ?_
      exact RT ((-1000001 : Int32), (S0_latestFault, S0_latestFinding), (S1_lanes, S1_sizes, S1_items)) _ _ _ _ _ hM (Or.inl ⟨rfl, rfl, _, rfl⟩) (X.d (k := 12) rfl) Y
    · replace hM := mE hM c4
      refine r_iload_n (pc' := 17) X hl 3 rfl rfl 8 rfl rfl ?_
      refine r_bipush (pc' := 19) X (40 : Int32) 9 rfl rfl rfl ?_
      refine r_icmp_le (pc' := 22) X 25 10 rfl rfl (by decide) (fun c5 => ?_) (fun c5 => ?_)
      · replace hM := mI hM c5
        refine r_iload_n (pc' := 26) X hl 3 rfl rfl 13 rfl rfl ?_
        refine r_if_ge (pc' := 29) X 35 14 rfl rfl (by decide) (fun c6 => ?_) (fun c6 => ?_)
        · replace hM := mI hM c6
          refine r_aload_n (pc' := 36) X hl 0 rfl rfl 19 rfl rfl ?_
          refine r_get (pc' := 39) (v := .ref h_rows) X Y 20 rfl rfl fRX7_12 0 rfl rfl ?_
          refine r_iload_n (pc' := 40) X hl 1 rfl rfl 21 rfl rfl ?_
          refine r_iload_n (pc' := 41) X hl 2 rfl rfl 22 rfl rfl ?_
          refine r_iload_n (pc' := 42) X hl 3 rfl rfl 23 rfl rfl ?_
          refine r_callV (pc' := 45) (As := [.int i1, .int i2, .int i3]) (rest := []) (wr := (wTF G h h_rows h_tape h_live h_draft h_images h_acts h_foresight h_asks S0_latestFault S0_latestFinding : va_W)) X Y 24 rfl rfl mRX7_71 (c_X5_make l G h_rows h_rows_lanes h_rows_sizes h_rows_items S1_lanes S1_sizes S1_items i1 i2 i3) (mB hM hne) 1 rfl rfl [1, 2, 3, 4] [0] [0, 1, 2, 3, 4] rfl rfl ⟨rfl, rfl, rfl⟩ rfl (w2 := fun u7 => wTF G h h_rows h_tape h_live h_draft h_images h_acts h_foresight h_asks S0_latestFault S0_latestFinding ++ wRW G h_rows h_rows_lanes h_rows_sizes h_rows_items u7.1 u7.2.1 u7.2.2) (fun _ => rfl) rfl (Nat.le_of_ble_eq_true rfl) ⟨rfl, rfl⟩ ⟨Nat.le_of_ble_eq_true rfl, Nat.le_of_ble_eq_true rfl⟩ ⟨Nat.zero_le _, Nat.zero_le _⟩ hl.1 (st' := fun u7 => []) (fun _ => rfl) (fun u7 H locs huu7 Y => ?_)
          obtain ⟨u7_lanes, u7_sizes, u7_items⟩ := u7
          replace Y : rY G A s (wTF G h h_rows h_tape h_live h_draft h_images h_acts h_foresight h_asks S0_latestFault S0_latestFinding ++ wRW G h_rows h_rows_lanes h_rows_sizes h_rows_items u7_lanes u7_sizes u7_items) H locs := Y
          replace hM := mS hM huu7
          show W p l e q_X7_row s m args below meth c H locs 0 0 Q (F0 m 45 ls [])
          refine r_aload_n (pc' := 46) X hl 0 rfl rfl 25 rfl rfl ?_
          refine r_iload_n (pc' := 47) X hl 3 rfl rfl 26 rfl rfl ?_
          refine r_callV (pc' := 50) (As := [.int i3]) (rest := []) (wr := (wRW G h_rows h_rows_lanes h_rows_sizes h_rows_items u7_lanes u7_sizes u7_items : va_W)) X Y 27 rfl rfl mRX7_75 (c_X7_unfound l G h h_rows h_tape h_live h_draft h_images h_acts h_foresight h_asks S0_latestFault S0_latestFinding i3) (mB hM hne) 0 rfl rfl [0] [1, 2, 3, 4] [4, 0, 1, 2, 3] rfl rfl ⟨rfl, rfl, rfl⟩ rfl (w2 := fun u8 => wTF G h h_rows h_tape h_live h_draft h_images h_acts h_foresight h_asks u8.2.1 u8.2.2 ++ wRW G h_rows h_rows_lanes h_rows_sizes h_rows_items u7_lanes u7_sizes u7_items) (fun _ => rfl) rfl (Nat.le_of_ble_eq_true rfl) ⟨rfl, rfl⟩ ⟨Nat.le_of_ble_eq_true rfl, Nat.le_of_ble_eq_true rfl⟩ ⟨Nat.zero_le _, Nat.zero_le _⟩ hl.1 (st' := fun u8 => [.int u8.1]) (fun _ => rfl) (fun u8 H locs huu8 Y => ?_)
          obtain ⟨u8_1, ⟨u8_2_latestFault, u8_2_latestFinding⟩⟩ := u8
          replace Y : rY G A s (wTF G h h_rows h_tape h_live h_draft h_images h_acts h_foresight h_asks u8_2_latestFault u8_2_latestFinding ++ wRW G h_rows h_rows_lanes h_rows_sizes h_rows_items u7_lanes u7_sizes u7_items) H locs := Y
          replace hM := mS hM huu8
          show W p l e q_X7_row s m args below meth c H locs 0 0 Q (F0 m 50 ls [.int u8_1])
          exact RT (u8_1, (u8_2_latestFault, u8_2_latestFinding), (u7_lanes, u7_sizes, u7_items)) _ _ _ _ _ hM (Or.inl ⟨rfl, rfl, _, rfl⟩) (X.d (k := 28) rfl) Y
        · replace hM := mE hM c6
          refine r_aload_n (pc' := 30) X hl 0 rfl rfl 15 rfl rfl ?_
          refine r_iconst (pc' := 31) X (4 : Int32) 16 rfl rfl rfl ?_
          refine r_callV (pc' := 34) (As := [.int (4 : Int32)]) (rest := []) (wr := (wRW G h_rows h_rows_lanes h_rows_sizes h_rows_items S1_lanes S1_sizes S1_items : va_W)) X Y 17 rfl rfl mRX7_67 (c_X7_found l G h h_rows h_tape h_live h_draft h_images h_acts h_foresight h_asks S0_latestFault S0_latestFinding (4 : Int32)) (mB hM hne) 0 rfl rfl [0] [1, 2, 3, 4] [4, 0, 1, 2, 3] rfl rfl ⟨rfl, rfl, rfl⟩ rfl (w2 := fun u9 => wTF G h h_rows h_tape h_live h_draft h_images h_acts h_foresight h_asks u9.2.1 u9.2.2 ++ wRW G h_rows h_rows_lanes h_rows_sizes h_rows_items S1_lanes S1_sizes S1_items) (fun _ => rfl) rfl (Nat.le_of_ble_eq_true rfl) ⟨rfl, rfl⟩ ⟨Nat.le_of_ble_eq_true rfl, Nat.le_of_ble_eq_true rfl⟩ ⟨Nat.zero_le _, Nat.zero_le _⟩ hl.1 (st' := fun u9 => [.int u9.1]) (fun _ => rfl) (fun u9 H locs huu9 Y => ?_)
          obtain ⟨u9_1, ⟨u9_2_latestFault, u9_2_latestFinding⟩⟩ := u9
          replace Y : rY G A s (wTF G h h_rows h_tape h_live h_draft h_images h_acts h_foresight h_asks u9_2_latestFault u9_2_latestFinding ++ wRW G h_rows h_rows_lanes h_rows_sizes h_rows_items S1_lanes S1_sizes S1_items) H locs := Y
          replace hM := mS hM huu9
          show W p l e q_X7_row s m args below meth c H locs 0 0 Q (F0 m 34 ls [.int u9_1])
          exact RT (u9_1, (u9_2_latestFault, u9_2_latestFinding), (S1_lanes, S1_sizes, S1_items)) _ _ _ _ _ hM (Or.inl ⟨rfl, rfl, _, rfl⟩) (X.d (k := 18) rfl) Y
      · replace hM := mE hM c5
        refine r_ldc (pc' := 24) X mw324 11 rfl rfl ?_
        exact RT ((-1000001 : Int32), (S0_latestFault, S0_latestFinding), (S1_lanes, S1_sizes, S1_items)) _ _ _ _ _ hM (Or.inl ⟨rfl, rfl, _, rfl⟩) (X.d (k := 12) rfl) Y

def M_X7_set (S0 : TF) (S1 : RW) (i1 : Int32) (i2 : Int32) (i3 : Int32) : Option (Int32 × TF × RW) :=
  ((M_X7_isRow i1).bind (fun u1 => (if u1 = 0 then (some ((-1000001 : Int32), S0, S1)) else ((M_X5_findingFrom S1 i1 i2 (1 : Int32)).bind (fun u3 => (if u3 = 0 then ((M_X5_write S1 i1 i2 i3).bind (fun u5 => ((M_X7_unfound S0 u5.1).bind (fun u6 => (some (u6.1, u6.2, u5.2)))))) else ((M_X7_found S0 u3).bind (fun u7 => (some (u7.1, u7.2, S1))))))))))
def q_X7_set : Room := { frames := 3, cells := 0, slots := 0, locals := 106 }
set_option maxHeartbeats 4000000 in
set_option maxRecDepth 100000 in
theorem c_X7_set (l : Launch) (G : gT) (h h_rows h_tape h_live h_draft h_images h_acts h_foresight h_asks h_rows_lanes h_rows_sizes h_rows_items : Nat) (S0_latestFault : Int32) (S0_latestFinding : Int32) (S1_lanes : Nat → Int32) (S1_sizes : Nat → Int32) (S1_items : Nat → Int32) (i1 : Int32) (i2 : Int32) (i3 : Int32) : CT l G yX7_set cX7_set 5 (some .int) q_X7_set [.ref h, .int i1, .int i2, .int i3] (wTF G h h_rows h_tape h_live h_draft h_images h_acts h_foresight h_asks S0_latestFault S0_latestFinding ++ wRW G h_rows h_rows_lanes h_rows_sizes h_rows_items S1_lanes S1_sizes S1_items) (M_X7_set (S0_latestFault, S0_latestFinding) (S1_lanes, S1_sizes, S1_items) i1 i2 i3) (fun u => some (.int u.1)) (fun u => wTF G h h_rows h_tape h_live h_draft h_images h_acts h_foresight h_asks u.2.1.1 u.2.1.2 ++ wRW G h_rows h_rows_lanes h_rows_sizes h_rows_items u.2.2.1 u.2.2.2.1 u.2.2.2.2) := by
  refine CT.of (P := PX7_set) (by decide) dPX7_set (Nat.le_of_ble_eq_true rfl) ?_
  intro p e s m args below meth c A Q ls hne X RT Y hl
  have hl : lv_has ls 5 [(0, .ref h), (1, .int i1), (2, .int i2), (3, .int i3)] := hl
  generalize hM : M_X7_set (S0_latestFault, S0_latestFinding) (S1_lanes, S1_sizes, S1_items) i1 i2 i3 = MM at hne RT
  unfold M_X7_set at hM
  refine r_iload_n (pc' := 1) X hl 1 rfl rfl 0 rfl rfl ?_
  refine r_callS0 (pc' := 4) (As := [.int i1]) (rest := []) X Y 1 rfl rfl mRX7_58 (c_X7_isRow l G i1) (mB hM hne) rfl [] rfl rfl rfl (Nat.le_of_ble_eq_true rfl) ⟨rfl, rfl⟩ ⟨Nat.le_of_ble_eq_true rfl, Nat.le_of_ble_eq_true rfl⟩ ⟨Nat.zero_le _, Nat.zero_le _⟩ hl.1 (st' := fun u1 => [.int u1]) (fun _ => rfl) (fun u1 H locs huu1 Y => ?_)
  replace hM := mS hM huu1
  refine r_if_ne (pc' := 7) X 10 2 rfl rfl (by decide) (fun c2 => ?_) (fun c2 => ?_)
  · replace hM := mE hM c2
    refine r_aload_n (pc' := 11) X hl 0 rfl rfl 5 rfl rfl ?_
    refine r_get (pc' := 14) (v := .ref h_rows) X Y 6 rfl rfl fRX7_12 0 rfl rfl ?_
    refine r_iload_n (pc' := 15) X hl 1 rfl rfl 7 rfl rfl ?_
    refine r_iload_n (pc' := 16) X hl 2 rfl rfl 8 rfl rfl ?_
    refine r_iconst (pc' := 17) X (1 : Int32) 9 rfl rfl rfl ?_
    refine r_callV0 (pc' := 20) (As := [.int i1, .int i2, .int (1 : Int32)]) (rest := []) X Y 10 rfl rfl mRX7_78 (c_X5_findingFrom l G h_rows h_rows_lanes h_rows_sizes h_rows_items S1_lanes S1_sizes S1_items i1 i2 (1 : Int32)) (mB hM hne) 1 rfl rfl [1, 2, 3, 4] rfl rfl rfl (Nat.le_of_ble_eq_true rfl) ⟨rfl, rfl⟩ ⟨Nat.le_of_ble_eq_true rfl, Nat.le_of_ble_eq_true rfl⟩ ⟨Nat.zero_le _, Nat.zero_le _⟩ hl.1 (st' := fun u3 => [.int u3]) (fun _ => rfl) (fun u3 H locs huu3 Y => ?_)
    replace hM := mS hM huu3
    refine r_istore (pc' := 22) (L' := [(4, .int u3), (0, .ref h), (1, .int i1), (2, .int i2), (3, .int i3)]) X hl 11 rfl rfl (by decide) rfl (fun ls hl => ?_)
    refine r_iload (pc' := 24) X hl 0 rfl 12 rfl rfl ?_
    refine r_if_eq (pc' := 27) X 34 13 rfl rfl (by decide) (fun c4 => ?_) (fun c4 => ?_)
    · replace hM := mI hM c4
      refine r_aload_n (pc' := 35) X hl 1 rfl rfl 18 rfl rfl ?_
      refine r_aload_n (pc' := 36) X hl 1 rfl rfl 19 rfl rfl ?_
      refine r_get (pc' := 39) (v := .ref h_rows) X Y 20 rfl rfl fRX7_12 0 rfl rfl ?_
      refine r_iload_n (pc' := 40) X hl 2 rfl rfl 21 rfl rfl ?_
      refine r_iload_n (pc' := 41) X hl 3 rfl rfl 22 rfl rfl ?_
      refine r_iload_n (pc' := 42) X hl 4 rfl rfl 23 rfl rfl ?_
      refine r_callV (pc' := 45) (As := [.int i1, .int i2, .int i3]) (rest := [.ref h]) (wr := (wTF G h h_rows h_tape h_live h_draft h_images h_acts h_foresight h_asks S0_latestFault S0_latestFinding : va_W)) X Y 24 rfl rfl mRX7_82 (c_X5_write l G h_rows h_rows_lanes h_rows_sizes h_rows_items S1_lanes S1_sizes S1_items i1 i2 i3) (mB hM hne) 1 rfl rfl [1, 2, 3, 4] [0] [0, 1, 2, 3, 4] rfl rfl ⟨rfl, rfl, rfl⟩ rfl (w2 := fun u5 => wTF G h h_rows h_tape h_live h_draft h_images h_acts h_foresight h_asks S0_latestFault S0_latestFinding ++ wRW G h_rows h_rows_lanes h_rows_sizes h_rows_items u5.2.1 u5.2.2.1 u5.2.2.2) (fun _ => rfl) rfl (Nat.le_of_ble_eq_true rfl) ⟨rfl, rfl⟩ ⟨Nat.le_of_ble_eq_true rfl, Nat.le_of_ble_eq_true rfl⟩ ⟨Nat.zero_le _, Nat.zero_le _⟩ hl.1 (st' := fun u5 => [.int u5.1, .ref h]) (fun _ => rfl) (fun u5 H locs huu5 Y => ?_)
      obtain ⟨u5_1, ⟨u5_2_lanes, u5_2_sizes, u5_2_items⟩⟩ := u5
      replace Y : rY G A s (wTF G h h_rows h_tape h_live h_draft h_images h_acts h_foresight h_asks S0_latestFault S0_latestFinding ++ wRW G h_rows h_rows_lanes h_rows_sizes h_rows_items u5_2_lanes u5_2_sizes u5_2_items) H locs := Y
      replace hM := mS hM huu5
      show W p l e q_X7_set s m args below meth c H locs 0 0 Q (F0 m 45 ls [.int u5_1, .ref h])
      refine r_callV (pc' := 48) (As := [.int u5_1]) (rest := []) (wr := (wRW G h_rows h_rows_lanes h_rows_sizes h_rows_items u5_2_lanes u5_2_sizes u5_2_items : va_W)) X Y 25 rfl rfl mRX7_75 (c_X7_unfound l G h h_rows h_tape h_live h_draft h_images h_acts h_foresight h_asks S0_latestFault S0_latestFinding u5_1) (mB hM hne) 0 rfl rfl [0] [1, 2, 3, 4] [4, 0, 1, 2, 3] rfl rfl ⟨rfl, rfl, rfl⟩ rfl (w2 := fun u6 => wTF G h h_rows h_tape h_live h_draft h_images h_acts h_foresight h_asks u6.2.1 u6.2.2 ++ wRW G h_rows h_rows_lanes h_rows_sizes h_rows_items u5_2_lanes u5_2_sizes u5_2_items) (fun _ => rfl) rfl (Nat.le_of_ble_eq_true rfl) ⟨rfl, rfl⟩ ⟨Nat.le_of_ble_eq_true rfl, Nat.le_of_ble_eq_true rfl⟩ ⟨Nat.zero_le _, Nat.zero_le _⟩ hl.1 (st' := fun u6 => [.int u6.1]) (fun _ => rfl) (fun u6 H locs huu6 Y => ?_)
      obtain ⟨u6_1, ⟨u6_2_latestFault, u6_2_latestFinding⟩⟩ := u6
      replace Y : rY G A s (wTF G h h_rows h_tape h_live h_draft h_images h_acts h_foresight h_asks u6_2_latestFault u6_2_latestFinding ++ wRW G h_rows h_rows_lanes h_rows_sizes h_rows_items u5_2_lanes u5_2_sizes u5_2_items) H locs := Y
      replace hM := mS hM huu6
      show W p l e q_X7_set s m args below meth c H locs 0 0 Q (F0 m 48 ls [.int u6_1])
      exact RT (u6_1, (u6_2_latestFault, u6_2_latestFinding), (u5_2_lanes, u5_2_sizes, u5_2_items)) _ _ _ _ _ hM (Or.inl ⟨rfl, rfl, _, rfl⟩) (X.d (k := 26) rfl) Y
    · replace hM := mE hM c4
      refine r_aload_n (pc' := 28) X hl 1 rfl rfl 14 rfl rfl ?_
      refine r_iload (pc' := 30) X hl 0 rfl 15 rfl rfl ?_
      refine r_callV (pc' := 33) (As := [.int u3]) (rest := []) (wr := (wRW G h_rows h_rows_lanes h_rows_sizes h_rows_items S1_lanes S1_sizes S1_items : va_W)) X Y 16 rfl rfl mRX7_67 (c_X7_found l G h h_rows h_tape h_live h_draft h_images h_acts h_foresight h_asks S0_latestFault S0_latestFinding u3) (mB hM hne) 0 rfl rfl [0] [1, 2, 3, 4] [4, 0, 1, 2, 3] rfl rfl ⟨rfl, rfl, rfl⟩ rfl (w2 := fun u7 => wTF G h h_rows h_tape h_live h_draft h_images h_acts h_foresight h_asks u7.2.1 u7.2.2 ++ wRW G h_rows h_rows_lanes h_rows_sizes h_rows_items S1_lanes S1_sizes S1_items) (fun _ => rfl) rfl (Nat.le_of_ble_eq_true rfl) ⟨rfl, rfl⟩ ⟨Nat.le_of_ble_eq_true rfl, Nat.le_of_ble_eq_true rfl⟩ ⟨Nat.zero_le _, Nat.zero_le _⟩ hl.1 (st' := fun u7 => [.int u7.1]) (fun _ => rfl) (fun u7 H locs huu7 Y => ?_)
      obtain ⟨u7_1, ⟨u7_2_latestFault, u7_2_latestFinding⟩⟩ := u7
      replace Y : rY G A s (wTF G h h_rows h_tape h_live h_draft h_images h_acts h_foresight h_asks u7_2_latestFault u7_2_latestFinding ++ wRW G h_rows h_rows_lanes h_rows_sizes h_rows_items S1_lanes S1_sizes S1_items) H locs := Y
      replace hM := mS hM huu7
      show W p l e q_X7_set s m args below meth c H locs 0 0 Q (F0 m 33 ls [.int u7_1])
      exact RT (u7_1, (u7_2_latestFault, u7_2_latestFinding), (S1_lanes, S1_sizes, S1_items)) _ _ _ _ _ hM (Or.inl ⟨rfl, rfl, _, rfl⟩) (X.d (k := 17) rfl) Y
  · replace hM := mI hM c2
    refine r_ldc (pc' := 9) X mw324 3 rfl rfl ?_
    exact RT ((-1000001 : Int32), (S0_latestFault, S0_latestFinding), (S1_lanes, S1_sizes, S1_items)) _ _ _ _ _ hM (Or.inl ⟨rfl, rfl, _, rfl⟩) (X.d (k := 4) rfl) Y

def M_X7_copy (S0 : TF) (S1 : RW) (i1 : Int32) (i2 : Int32) (i3 : Int32) (i4 : Int32) (i5 : Int32) : Option (Int32 × TF × RW) :=
  ((M_X7_isRow i1).bind (fun u1 => (if u1 = 0 then (some ((-1000001 : Int32), S0, S1)) else ((M_X7_isRow i3).bind (fun u3 => (if u3 = 0 then (some ((-1000001 : Int32), S0, S1)) else ((M_X5_copyFinding S1 i1 i2 i3 i4 i5).bind (fun u5 => (if u5 = 0 then ((M_X5_carry S1 i1 i2 i3 i4 i5).bind (fun u7 => ((M_X7_unfound S0 i5).bind (fun u8 => (some (u8.1, u8.2, u7)))))) else ((M_X7_found S0 u5).bind (fun u9 => (some (u9.1, u9.2, S1)))))))))))))
def q_X7_copy : Room := { frames := 3, cells := 0, slots := 0, locals := 108 }
set_option maxHeartbeats 4000000 in
set_option maxRecDepth 100000 in
theorem c_X7_copy (l : Launch) (G : gT) (h h_rows h_tape h_live h_draft h_images h_acts h_foresight h_asks h_rows_lanes h_rows_sizes h_rows_items : Nat) (S0_latestFault : Int32) (S0_latestFinding : Int32) (S1_lanes : Nat → Int32) (S1_sizes : Nat → Int32) (S1_items : Nat → Int32) (i1 : Int32) (i2 : Int32) (i3 : Int32) (i4 : Int32) (i5 : Int32) : CT l G yX7_copy cX7_copy 7 (some .int) q_X7_copy [.ref h, .int i1, .int i2, .int i3, .int i4, .int i5] (wTF G h h_rows h_tape h_live h_draft h_images h_acts h_foresight h_asks S0_latestFault S0_latestFinding ++ wRW G h_rows h_rows_lanes h_rows_sizes h_rows_items S1_lanes S1_sizes S1_items) (M_X7_copy (S0_latestFault, S0_latestFinding) (S1_lanes, S1_sizes, S1_items) i1 i2 i3 i4 i5) (fun u => some (.int u.1)) (fun u => wTF G h h_rows h_tape h_live h_draft h_images h_acts h_foresight h_asks u.2.1.1 u.2.1.2 ++ wRW G h_rows h_rows_lanes h_rows_sizes h_rows_items u.2.2.1 u.2.2.2.1 u.2.2.2.2) := by
  refine CT.of (P := PX7_copy) (by decide) dPX7_copy (Nat.le_of_ble_eq_true rfl) ?_
  intro p e s m args below meth c A Q ls hne X RT Y hl
  have hl : lv_has ls 7 [(0, .ref h), (1, .int i1), (2, .int i2), (3, .int i3), (4, .int i4), (5, .int i5)] := hl
  generalize hM : M_X7_copy (S0_latestFault, S0_latestFinding) (S1_lanes, S1_sizes, S1_items) i1 i2 i3 i4 i5 = MM at hne RT
  unfold M_X7_copy at hM
  refine r_iload_n (pc' := 1) X hl 1 rfl rfl 0 rfl rfl ?_
  refine r_callS0 (pc' := 4) (As := [.int i1]) (rest := []) X Y 1 rfl rfl mRX7_58 (c_X7_isRow l G i1) (mB hM hne) rfl [] rfl rfl rfl (Nat.le_of_ble_eq_true rfl) ⟨rfl, rfl⟩ ⟨Nat.le_of_ble_eq_true rfl, Nat.le_of_ble_eq_true rfl⟩ ⟨Nat.zero_le _, Nat.zero_le _⟩ hl.1 (st' := fun u1 => [.int u1]) (fun _ => rfl) (fun u1 H locs huu1 Y => ?_)
  replace hM := mS hM huu1
  refine r_if_eq (pc' := 7) X 14 2 rfl rfl (by decide) (fun c2 => ?_) (fun c2 => ?_)
  · replace hM := mI hM c2
    refine r_ldc (pc' := 16) X mw324 6 rfl rfl ?_
    exact RT ((-1000001 : Int32), (S0_latestFault, S0_latestFinding), (S1_lanes, S1_sizes, S1_items)) _ _ _ _ _ hM (Or.inl ⟨rfl, rfl, _, rfl⟩) (X.d (k := 7) rfl) Y
  · replace hM := mE hM c2
    refine r_iload_n (pc' := 8) X hl 3 rfl rfl 3 rfl rfl ?_
    refine r_callS0 (pc' := 11) (As := [.int i3]) (rest := []) X Y 4 rfl rfl mRX7_58 (c_X7_isRow l G i3) (mB hM hne) rfl [] rfl rfl rfl (Nat.le_of_ble_eq_true rfl) ⟨rfl, rfl⟩ ⟨Nat.le_of_ble_eq_true rfl, Nat.le_of_ble_eq_true rfl⟩ ⟨Nat.zero_le _, Nat.zero_le _⟩ hl.1 (st' := fun u3 => [.int u3]) (fun _ => rfl) (fun u3 H locs huu3 Y => ?_)
    replace hM := mS hM huu3
    refine r_if_ne (pc' := 14) X 17 5 rfl rfl (by decide) (fun c4 => ?_) (fun c4 => ?_)
    · replace hM := mE hM c4
      refine r_aload_n (pc' := 18) X hl 0 rfl rfl 8 rfl rfl ?_
      refine r_get (pc' := 21) (v := .ref h_rows) X Y 9 rfl rfl fRX7_12 0 rfl rfl ?_
      refine r_iload_n (pc' := 22) X hl 1 rfl rfl 10 rfl rfl ?_
      refine r_iload_n (pc' := 23) X hl 2 rfl rfl 11 rfl rfl ?_
      refine r_iload_n (pc' := 24) X hl 3 rfl rfl 12 rfl rfl ?_
      refine r_iload (pc' := 26) X hl 4 rfl 13 rfl rfl ?_
      refine r_iload (pc' := 28) X hl 5 rfl 14 rfl rfl ?_
      refine r_callV0 (pc' := 31) (As := [.int i1, .int i2, .int i3, .int i4, .int i5]) (rest := []) X Y 15 rfl rfl mRX7_85 (c_X5_copyFinding l G h_rows h_rows_lanes h_rows_sizes h_rows_items S1_lanes S1_sizes S1_items i1 i2 i3 i4 i5) (mB hM hne) 1 rfl rfl [1, 2, 3, 4] rfl rfl rfl (Nat.le_of_ble_eq_true rfl) ⟨rfl, rfl⟩ ⟨Nat.le_of_ble_eq_true rfl, Nat.le_of_ble_eq_true rfl⟩ ⟨Nat.zero_le _, Nat.zero_le _⟩ hl.1 (st' := fun u5 => [.int u5]) (fun _ => rfl) (fun u5 H locs huu5 Y => ?_)
      replace hM := mS hM huu5
      refine r_istore (pc' := 33) (L' := [(6, .int u5), (0, .ref h), (1, .int i1), (2, .int i2), (3, .int i3), (4, .int i4), (5, .int i5)]) X hl 16 rfl rfl (by decide) rfl (fun ls hl => ?_)
      refine r_iload (pc' := 35) X hl 0 rfl 17 rfl rfl ?_
      refine r_if_eq (pc' := 38) X 45 18 rfl rfl (by decide) (fun c6 => ?_) (fun c6 => ?_)
      · replace hM := mI hM c6
        refine r_aload_n (pc' := 46) X hl 1 rfl rfl 23 rfl rfl ?_
        refine r_get (pc' := 49) (v := .ref h_rows) X Y 24 rfl rfl fRX7_12 0 rfl rfl ?_
        refine r_iload_n (pc' := 50) X hl 2 rfl rfl 25 rfl rfl ?_
        refine r_iload_n (pc' := 51) X hl 3 rfl rfl 26 rfl rfl ?_
        refine r_iload_n (pc' := 52) X hl 4 rfl rfl 27 rfl rfl ?_
        refine r_iload (pc' := 54) X hl 5 rfl 28 rfl rfl ?_
        refine r_iload (pc' := 56) X hl 6 rfl 29 rfl rfl ?_
        refine r_callV (pc' := 59) (As := [.int i1, .int i2, .int i3, .int i4, .int i5]) (rest := []) (wr := (wTF G h h_rows h_tape h_live h_draft h_images h_acts h_foresight h_asks S0_latestFault S0_latestFinding : va_W)) X Y 30 rfl rfl mRX7_89 (c_X5_carry l G h_rows h_rows_lanes h_rows_sizes h_rows_items S1_lanes S1_sizes S1_items i1 i2 i3 i4 i5) (mB hM hne) 1 rfl rfl [1, 2, 3, 4] [0] [0, 1, 2, 3, 4] rfl rfl ⟨rfl, rfl, rfl⟩ rfl (w2 := fun u7 => wTF G h h_rows h_tape h_live h_draft h_images h_acts h_foresight h_asks S0_latestFault S0_latestFinding ++ wRW G h_rows h_rows_lanes h_rows_sizes h_rows_items u7.1 u7.2.1 u7.2.2) (fun _ => rfl) rfl (Nat.le_of_ble_eq_true rfl) ⟨rfl, rfl⟩ ⟨Nat.le_of_ble_eq_true rfl, Nat.le_of_ble_eq_true rfl⟩ ⟨Nat.zero_le _, Nat.zero_le _⟩ hl.1 (st' := fun u7 => []) (fun _ => rfl) (fun u7 H locs huu7 Y => ?_)
        obtain ⟨u7_lanes, u7_sizes, u7_items⟩ := u7
        replace Y : rY G A s (wTF G h h_rows h_tape h_live h_draft h_images h_acts h_foresight h_asks S0_latestFault S0_latestFinding ++ wRW G h_rows h_rows_lanes h_rows_sizes h_rows_items u7_lanes u7_sizes u7_items) H locs := Y
        replace hM := mS hM huu7
        show W p l e q_X7_copy s m args below meth c H locs 0 0 Q (F0 m 59 ls [])
        refine r_aload_n (pc' := 60) X hl 1 rfl rfl 31 rfl rfl ?_
        refine r_iload (pc' := 62) X hl 6 rfl 32 rfl rfl ?_
        refine r_callV (pc' := 65) (As := [.int i5]) (rest := []) (wr := (wRW G h_rows h_rows_lanes h_rows_sizes h_rows_items u7_lanes u7_sizes u7_items : va_W)) X Y 33 rfl rfl mRX7_75 (c_X7_unfound l G h h_rows h_tape h_live h_draft h_images h_acts h_foresight h_asks S0_latestFault S0_latestFinding i5) (mB hM hne) 0 rfl rfl [0] [1, 2, 3, 4] [4, 0, 1, 2, 3] rfl rfl ⟨rfl, rfl, rfl⟩ rfl (w2 := fun u8 => wTF G h h_rows h_tape h_live h_draft h_images h_acts h_foresight h_asks u8.2.1 u8.2.2 ++ wRW G h_rows h_rows_lanes h_rows_sizes h_rows_items u7_lanes u7_sizes u7_items) (fun _ => rfl) rfl (Nat.le_of_ble_eq_true rfl) ⟨rfl, rfl⟩ ⟨Nat.le_of_ble_eq_true rfl, Nat.le_of_ble_eq_true rfl⟩ ⟨Nat.zero_le _, Nat.zero_le _⟩ hl.1 (st' := fun u8 => [.int u8.1]) (fun _ => rfl) (fun u8 H locs huu8 Y => ?_)
        obtain ⟨u8_1, ⟨u8_2_latestFault, u8_2_latestFinding⟩⟩ := u8
        replace Y : rY G A s (wTF G h h_rows h_tape h_live h_draft h_images h_acts h_foresight h_asks u8_2_latestFault u8_2_latestFinding ++ wRW G h_rows h_rows_lanes h_rows_sizes h_rows_items u7_lanes u7_sizes u7_items) H locs := Y
        replace hM := mS hM huu8
        show W p l e q_X7_copy s m args below meth c H locs 0 0 Q (F0 m 65 ls [.int u8_1])
        exact RT (u8_1, (u8_2_latestFault, u8_2_latestFinding), (u7_lanes, u7_sizes, u7_items)) _ _ _ _ _ hM (Or.inl ⟨rfl, rfl, _, rfl⟩) (X.d (k := 34) rfl) Y
      · replace hM := mE hM c6
        refine r_aload_n (pc' := 39) X hl 1 rfl rfl 19 rfl rfl ?_
        refine r_iload (pc' := 41) X hl 0 rfl 20 rfl rfl ?_
        refine r_callV (pc' := 44) (As := [.int u5]) (rest := []) (wr := (wRW G h_rows h_rows_lanes h_rows_sizes h_rows_items S1_lanes S1_sizes S1_items : va_W)) X Y 21 rfl rfl mRX7_67 (c_X7_found l G h h_rows h_tape h_live h_draft h_images h_acts h_foresight h_asks S0_latestFault S0_latestFinding u5) (mB hM hne) 0 rfl rfl [0] [1, 2, 3, 4] [4, 0, 1, 2, 3] rfl rfl ⟨rfl, rfl, rfl⟩ rfl (w2 := fun u9 => wTF G h h_rows h_tape h_live h_draft h_images h_acts h_foresight h_asks u9.2.1 u9.2.2 ++ wRW G h_rows h_rows_lanes h_rows_sizes h_rows_items S1_lanes S1_sizes S1_items) (fun _ => rfl) rfl (Nat.le_of_ble_eq_true rfl) ⟨rfl, rfl⟩ ⟨Nat.le_of_ble_eq_true rfl, Nat.le_of_ble_eq_true rfl⟩ ⟨Nat.zero_le _, Nat.zero_le _⟩ hl.1 (st' := fun u9 => [.int u9.1]) (fun _ => rfl) (fun u9 H locs huu9 Y => ?_)
        obtain ⟨u9_1, ⟨u9_2_latestFault, u9_2_latestFinding⟩⟩ := u9
        replace Y : rY G A s (wTF G h h_rows h_tape h_live h_draft h_images h_acts h_foresight h_asks u9_2_latestFault u9_2_latestFinding ++ wRW G h_rows h_rows_lanes h_rows_sizes h_rows_items S1_lanes S1_sizes S1_items) H locs := Y
        replace hM := mS hM huu9
        show W p l e q_X7_copy s m args below meth c H locs 0 0 Q (F0 m 44 ls [.int u9_1])
        exact RT (u9_1, (u9_2_latestFault, u9_2_latestFinding), (S1_lanes, S1_sizes, S1_items)) _ _ _ _ _ hM (Or.inl ⟨rfl, rfl, _, rfl⟩) (X.d (k := 22) rfl) Y
    · replace hM := mI hM c4
      refine r_ldc (pc' := 16) X mw324 6 rfl rfl ?_
      exact RT ((-1000001 : Int32), (S0_latestFault, S0_latestFinding), (S1_lanes, S1_sizes, S1_items)) _ _ _ _ _ hM (Or.inl ⟨rfl, rfl, _, rfl⟩) (X.d (k := 7) rfl) Y

def M_X7_drop (S0 : TF) (S1 : RW) (i1 : Int32) : Option (Int32 × TF × RW) :=
  ((M_X7_isRow i1).bind (fun u1 => (if u1 = 0 then (some ((-1000001 : Int32), S0, S1)) else ((M_X5_isMissing S1 i1).bind (fun u3 => (if u3 = 0 then ((M_X5_remove S1 i1).bind (fun u5 => ((M_X7_unfound S0 u5.1).bind (fun u6 => (some (u6.1, u6.2, u5.2)))))) else ((M_X7_found S0 (1 : Int32)).bind (fun u7 => (some (u7.1, u7.2, S1))))))))))
def q_X7_drop : Room := { frames := 3, cells := 0, slots := 0, locals := 102 }
set_option maxHeartbeats 4000000 in
set_option maxRecDepth 100000 in
theorem c_X7_drop (l : Launch) (G : gT) (h h_rows h_tape h_live h_draft h_images h_acts h_foresight h_asks h_rows_lanes h_rows_sizes h_rows_items : Nat) (S0_latestFault : Int32) (S0_latestFinding : Int32) (S1_lanes : Nat → Int32) (S1_sizes : Nat → Int32) (S1_items : Nat → Int32) (i1 : Int32) : CT l G yX7_drop cX7_drop 2 (some .int) q_X7_drop [.ref h, .int i1] (wTF G h h_rows h_tape h_live h_draft h_images h_acts h_foresight h_asks S0_latestFault S0_latestFinding ++ wRW G h_rows h_rows_lanes h_rows_sizes h_rows_items S1_lanes S1_sizes S1_items) (M_X7_drop (S0_latestFault, S0_latestFinding) (S1_lanes, S1_sizes, S1_items) i1) (fun u => some (.int u.1)) (fun u => wTF G h h_rows h_tape h_live h_draft h_images h_acts h_foresight h_asks u.2.1.1 u.2.1.2 ++ wRW G h_rows h_rows_lanes h_rows_sizes h_rows_items u.2.2.1 u.2.2.2.1 u.2.2.2.2) := by
  refine CT.of (P := PX7_drop) (by decide) dPX7_drop (Nat.le_of_ble_eq_true rfl) ?_
  intro p e s m args below meth c A Q ls hne X RT Y hl
  have hl : lv_has ls 2 [(0, .ref h), (1, .int i1)] := hl
  generalize hM : M_X7_drop (S0_latestFault, S0_latestFinding) (S1_lanes, S1_sizes, S1_items) i1 = MM at hne RT
  unfold M_X7_drop at hM
  refine r_iload_n (pc' := 1) X hl 1 rfl rfl 0 rfl rfl ?_
  refine r_callS0 (pc' := 4) (As := [.int i1]) (rest := []) X Y 1 rfl rfl mRX7_58 (c_X7_isRow l G i1) (mB hM hne) rfl [] rfl rfl rfl (Nat.le_of_ble_eq_true rfl) ⟨rfl, rfl⟩ ⟨Nat.le_of_ble_eq_true rfl, Nat.le_of_ble_eq_true rfl⟩ ⟨Nat.zero_le _, Nat.zero_le _⟩ hl.1 (st' := fun u1 => [.int u1]) (fun _ => rfl) (fun u1 H locs huu1 Y => ?_)
  replace hM := mS hM huu1
  refine r_if_ne (pc' := 7) X 10 2 rfl rfl (by decide) (fun c2 => ?_) (fun c2 => ?_)
  · replace hM := mE hM c2
    refine r_aload_n (pc' := 11) X hl 0 rfl rfl 5 rfl rfl ?_
    refine r_get (pc' := 14) (v := .ref h_rows) X Y 6 rfl rfl fRX7_12 0 rfl rfl ?_
    refine r_iload_n (pc' := 15) X hl 1 rfl rfl 7 rfl rfl ?_
    refine r_callV0 (pc' := 18) (As := [.int i1]) (rest := []) X Y 8 rfl rfl mRX7_93 (c_X5_isMissing l G h_rows h_rows_lanes h_rows_sizes h_rows_items S1_lanes S1_sizes S1_items i1) (mB hM hne) 1 rfl rfl [1, 2, 3, 4] rfl rfl rfl (Nat.le_of_ble_eq_true rfl) ⟨rfl, rfl⟩ ⟨Nat.le_of_ble_eq_true rfl, Nat.le_of_ble_eq_true rfl⟩ ⟨Nat.zero_le _, Nat.zero_le _⟩ hl.1 (st' := fun u3 => [.int u3]) (fun _ => rfl) (fun u3 H locs huu3 Y => ?_)
    replace hM := mS hM huu3
    refine r_if_eq (pc' := 21) X 27 9 rfl rfl (by decide) (fun c4 => ?_) (fun c4 => ?_)
    · replace hM := mI hM c4
      refine r_aload_n (pc' := 28) X hl 0 rfl rfl 14 rfl rfl ?_
      refine r_aload_n (pc' := 29) X hl 0 rfl rfl 15 rfl rfl ?_
      refine r_get (pc' := 32) (v := .ref h_rows) X Y 16 rfl rfl fRX7_12 0 rfl rfl ?_
      refine r_iload_n (pc' := 33) X hl 1 rfl rfl 17 rfl rfl ?_
      refine r_callV (pc' := 36) (As := [.int i1]) (rest := [.ref h]) (wr := (wTF G h h_rows h_tape h_live h_draft h_images h_acts h_foresight h_asks S0_latestFault S0_latestFinding : va_W)) X Y 18 rfl rfl mRX7_96 (c_X5_remove l G h_rows h_rows_lanes h_rows_sizes h_rows_items S1_lanes S1_sizes S1_items i1) (mB hM hne) 1 rfl rfl [1, 2, 3, 4] [0] [0, 1, 2, 3, 4] rfl rfl ⟨rfl, rfl, rfl⟩ rfl (w2 := fun u5 => wTF G h h_rows h_tape h_live h_draft h_images h_acts h_foresight h_asks S0_latestFault S0_latestFinding ++ wRW G h_rows h_rows_lanes h_rows_sizes h_rows_items u5.2.1 u5.2.2.1 u5.2.2.2) (fun _ => rfl) rfl (Nat.le_of_ble_eq_true rfl) ⟨rfl, rfl⟩ ⟨Nat.le_of_ble_eq_true rfl, Nat.le_of_ble_eq_true rfl⟩ ⟨Nat.zero_le _, Nat.zero_le _⟩ hl.1 (st' := fun u5 => [.int u5.1, .ref h]) (fun _ => rfl) (fun u5 H locs huu5 Y => ?_)
      obtain ⟨u5_1, ⟨u5_2_lanes, u5_2_sizes, u5_2_items⟩⟩ := u5
      replace Y : rY G A s (wTF G h h_rows h_tape h_live h_draft h_images h_acts h_foresight h_asks S0_latestFault S0_latestFinding ++ wRW G h_rows h_rows_lanes h_rows_sizes h_rows_items u5_2_lanes u5_2_sizes u5_2_items) H locs := Y
      replace hM := mS hM huu5
      show W p l e q_X7_drop s m args below meth c H locs 0 0 Q (F0 m 36 ls [.int u5_1, .ref h])
      refine r_callV (pc' := 39) (As := [.int u5_1]) (rest := []) (wr := (wRW G h_rows h_rows_lanes h_rows_sizes h_rows_items u5_2_lanes u5_2_sizes u5_2_items : va_W)) X Y 19 rfl rfl mRX7_75 (c_X7_unfound l G h h_rows h_tape h_live h_draft h_images h_acts h_foresight h_asks S0_latestFault S0_latestFinding u5_1) (mB hM hne) 0 rfl rfl [0] [1, 2, 3, 4] [4, 0, 1, 2, 3] rfl rfl ⟨rfl, rfl, rfl⟩ rfl (w2 := fun u6 => wTF G h h_rows h_tape h_live h_draft h_images h_acts h_foresight h_asks u6.2.1 u6.2.2 ++ wRW G h_rows h_rows_lanes h_rows_sizes h_rows_items u5_2_lanes u5_2_sizes u5_2_items) (fun _ => rfl) rfl (Nat.le_of_ble_eq_true rfl) ⟨rfl, rfl⟩ ⟨Nat.le_of_ble_eq_true rfl, Nat.le_of_ble_eq_true rfl⟩ ⟨Nat.zero_le _, Nat.zero_le _⟩ hl.1 (st' := fun u6 => [.int u6.1]) (fun _ => rfl) (fun u6 H locs huu6 Y => ?_)
      obtain ⟨u6_1, ⟨u6_2_latestFault, u6_2_latestFinding⟩⟩ := u6
      replace Y : rY G A s (wTF G h h_rows h_tape h_live h_draft h_images h_acts h_foresight h_asks u6_2_latestFault u6_2_latestFinding ++ wRW G h_rows h_rows_lanes h_rows_sizes h_rows_items u5_2_lanes u5_2_sizes u5_2_items) H locs := Y
      replace hM := mS hM huu6
      show W p l e q_X7_drop s m args below meth c H locs 0 0 Q (F0 m 39 ls [.int u6_1])
      exact RT (u6_1, (u6_2_latestFault, u6_2_latestFinding), (u5_2_lanes, u5_2_sizes, u5_2_items)) _ _ _ _ _ hM (Or.inl ⟨rfl, rfl, _, rfl⟩) (X.d (k := 20) rfl) Y
    · replace hM := mE hM c4
      refine r_aload_n (pc' := 22) X hl 0 rfl rfl 10 rfl rfl ?_
      refine r_iconst (pc' := 23) X (1 : Int32) 11 rfl rfl rfl ?_
      refine r_callV (pc' := 26) (As := [.int (1 : Int32)]) (rest := []) (wr := (wRW G h_rows h_rows_lanes h_rows_sizes h_rows_items S1_lanes S1_sizes S1_items : va_W)) X Y 12 rfl rfl mRX7_67 (c_X7_found l G h h_rows h_tape h_live h_draft h_images h_acts h_foresight h_asks S0_latestFault S0_latestFinding (1 : Int32)) (mB hM hne) 0 rfl rfl [0] [1, 2, 3, 4] [4, 0, 1, 2, 3] rfl rfl ⟨rfl, rfl, rfl⟩ rfl (w2 := fun u7 => wTF G h h_rows h_tape h_live h_draft h_images h_acts h_foresight h_asks u7.2.1 u7.2.2 ++ wRW G h_rows h_rows_lanes h_rows_sizes h_rows_items S1_lanes S1_sizes S1_items) (fun _ => rfl) rfl (Nat.le_of_ble_eq_true rfl) ⟨rfl, rfl⟩ ⟨Nat.le_of_ble_eq_true rfl, Nat.le_of_ble_eq_true rfl⟩ ⟨Nat.zero_le _, Nat.zero_le _⟩ hl.1 (st' := fun u7 => [.int u7.1]) (fun _ => rfl) (fun u7 H locs huu7 Y => ?_)
      obtain ⟨u7_1, ⟨u7_2_latestFault, u7_2_latestFinding⟩⟩ := u7
      replace Y : rY G A s (wTF G h h_rows h_tape h_live h_draft h_images h_acts h_foresight h_asks u7_2_latestFault u7_2_latestFinding ++ wRW G h_rows h_rows_lanes h_rows_sizes h_rows_items S1_lanes S1_sizes S1_items) H locs := Y
      replace hM := mS hM huu7
      show W p l e q_X7_drop s m args below meth c H locs 0 0 Q (F0 m 26 ls [.int u7_1])
      exact RT (u7_1, (u7_2_latestFault, u7_2_latestFinding), (S1_lanes, S1_sizes, S1_items)) _ _ _ _ _ hM (Or.inl ⟨rfl, rfl, _, rfl⟩) (X.d (k := 13) rfl) Y
  · replace hM := mI hM c2
    refine r_ldc (pc' := 9) X mw324 3 rfl rfl ?_
    exact RT ((-1000001 : Int32), (S0_latestFault, S0_latestFinding), (S1_lanes, S1_sizes, S1_items)) _ _ _ _ _ hM (Or.inl ⟨rfl, rfl, _, rfl⟩) (X.d (k := 4) rfl) Y

def M_X7_feed (S0 : TF) (S1 : TP) (S2 : IA) (i1 : Int32) : Option (Int32 × TP × IA) :=
  ((M_X7_within i1 (0 : Int32) (255 : Int32)).bind (fun u1 => (if u1 = 0 then (some ((-1000001 : Int32), S1, S2)) else ((M_X6_append S1 S2 i1).bind (fun u3 => (some (u3.1, u3.2.1, u3.2.2)))))))
def q_X7_feed : Room := { frames := 2, cells := 0, slots := 0, locals := 82 }
set_option maxHeartbeats 4000000 in
set_option maxRecDepth 100000 in
theorem c_X7_feed (l : Launch) (G : gT) (h h_rows h_tape h_live h_draft h_images h_acts h_foresight h_asks h_tape_bytes : Nat) (S0_latestFault : Int32) (S0_latestFinding : Int32) (S1 : Int32) (S2 : Nat → Int32) (i1 : Int32) : CT l G yX7_feed cX7_feed 2 (some .int) q_X7_feed [.ref h, .int i1] (wTF G h h_rows h_tape h_live h_draft h_images h_acts h_foresight h_asks S0_latestFault S0_latestFinding ++ wTP G h_tape h_tape_bytes S1 ++ wIA G h_tape_bytes 90 S2) (M_X7_feed (S0_latestFault, S0_latestFinding) S1 S2 i1) (fun u => some (.int u.1)) (fun u => wTF G h h_rows h_tape h_live h_draft h_images h_acts h_foresight h_asks S0_latestFault S0_latestFinding ++ wTP G h_tape h_tape_bytes u.2.1 ++ wIA G h_tape_bytes 90 u.2.2) := by
  refine CT.of (P := PX7_feed) (by decide) dPX7_feed (Nat.le_of_ble_eq_true rfl) ?_
  intro p e s m args below meth c A Q ls hne X RT Y hl
  have hl : lv_has ls 2 [(0, .ref h), (1, .int i1)] := hl
  generalize hM : M_X7_feed (S0_latestFault, S0_latestFinding) S1 S2 i1 = MM at hne RT
  unfold M_X7_feed at hM
  refine r_iload_n (pc' := 1) X hl 1 rfl rfl 0 rfl rfl ?_
  refine r_iconst (pc' := 2) X (0 : Int32) 1 rfl rfl rfl ?_
  refine r_sipush (pc' := 5) X (255 : Int32) 2 rfl rfl rfl ?_
  refine r_callS0 (pc' := 8) (As := [.int i1, .int (0 : Int32), .int (255 : Int32)]) (rest := []) X Y 3 rfl rfl mRX7_62 (c_X7_within l G i1 (0 : Int32) (255 : Int32)) (mB hM hne) rfl [] rfl rfl rfl (Nat.le_of_ble_eq_true rfl) ⟨rfl, rfl⟩ ⟨Nat.le_of_ble_eq_true rfl, Nat.le_of_ble_eq_true rfl⟩ ⟨Nat.zero_le _, Nat.zero_le _⟩ hl.1 (st' := fun u1 => [.int u1]) (fun _ => rfl) (fun u1 H locs huu1 Y => ?_)
  replace hM := mS hM huu1
  refine r_if_ne (pc' := 11) X 14 4 rfl rfl (by decide) (fun c2 => ?_) (fun c2 => ?_)
  · replace hM := mE hM c2
    refine r_aload_n (pc' := 15) X hl 0 rfl rfl 7 rfl rfl ?_
    refine r_get (pc' := 18) (v := .ref h_tape) X Y 8 rfl rfl fRX7_19 0 rfl rfl ?_
    refine r_iload_n (pc' := 19) X hl 1 rfl rfl 9 rfl rfl ?_
    refine r_callV (pc' := 22) (As := [.int i1]) (rest := []) (wr := (wTF G h h_rows h_tape h_live h_draft h_images h_acts h_foresight h_asks S0_latestFault S0_latestFinding : va_W)) X Y 10 rfl rfl mRX7_99 (c_X6_append l G h_tape h_tape_bytes S1 S2 i1) (mB hM hne) 1 rfl rfl [1, 2] [0] [0, 1, 2] rfl rfl ⟨rfl, rfl, rfl⟩ rfl (w2 := fun u3 => wTF G h h_rows h_tape h_live h_draft h_images h_acts h_foresight h_asks S0_latestFault S0_latestFinding ++ wTP G h_tape h_tape_bytes u3.2.1 ++ wIA G h_tape_bytes 90 u3.2.2) (fun _ => rfl) rfl (Nat.le_of_ble_eq_true rfl) ⟨rfl, rfl⟩ ⟨Nat.le_of_ble_eq_true rfl, Nat.le_of_ble_eq_true rfl⟩ ⟨Nat.zero_le _, Nat.zero_le _⟩ hl.1 (st' := fun u3 => [.int u3.1]) (fun _ => rfl) (fun u3 H locs huu3 Y => ?_)
    obtain ⟨u3_1, u3_2_1, u3_2_2⟩ := u3
    replace Y : rY G A s (wTF G h h_rows h_tape h_live h_draft h_images h_acts h_foresight h_asks S0_latestFault S0_latestFinding ++ wTP G h_tape h_tape_bytes u3_2_1 ++ wIA G h_tape_bytes 90 u3_2_2) H locs := Y
    replace hM := mS hM huu3
    show W p l e q_X7_feed s m args below meth c H locs 0 0 Q (F0 m 22 ls [.int u3_1])
    exact RT (u3_1, u3_2_1, u3_2_2) _ _ _ _ _ hM (Or.inl ⟨rfl, rfl, _, rfl⟩) (X.d (k := 11) rfl) Y
  · replace hM := mI hM c2
    refine r_ldc (pc' := 13) X mw324 5 rfl rfl ?_
    exact RT ((-1000001 : Int32), S1, S2) _ _ _ _ _ hM (Or.inl ⟨rfl, rfl, _, rfl⟩) (X.d (k := 6) rfl) Y

def M_X7_fault (S0 : TF) : Option (Int32) :=
  (some (tf_latestFault S0))
def q_X7_fault : Room := { frames := 1, cells := 0, slots := 0, locals := 60 }
set_option maxHeartbeats 4000000 in
set_option maxRecDepth 100000 in
theorem c_X7_fault (l : Launch) (G : gT) (h h_rows h_tape h_live h_draft h_images h_acts h_foresight h_asks : Nat) (S0_latestFault : Int32) (S0_latestFinding : Int32) : CT l G yX7_fault cX7_fault 1 (some .int) q_X7_fault [.ref h] (wTF G h h_rows h_tape h_live h_draft h_images h_acts h_foresight h_asks S0_latestFault S0_latestFinding) (M_X7_fault (S0_latestFault, S0_latestFinding)) (fun u => some (.int u)) (fun u => wTF G h h_rows h_tape h_live h_draft h_images h_acts h_foresight h_asks S0_latestFault S0_latestFinding) := by
  refine CT.of (P := PX7_fault) (by decide) dPX7_fault (Nat.le_of_ble_eq_true rfl) ?_
  intro p e s m args below meth c A Q ls hne X RT Y hl
  have hl : lv_has ls 1 [(0, .ref h)] := hl
  generalize hM : M_X7_fault (S0_latestFault, S0_latestFinding) = MM at hne RT
  unfold M_X7_fault at hM
  refine r_aload_n (pc' := 1) X hl 0 rfl rfl 0 rfl rfl ?_
  refine r_get (pc' := 4) (v := .int S0_latestFault) X Y 1 rfl rfl fRX7_118 0 rfl rfl ?_
  exact RT S0_latestFault _ _ _ _ _ hM (Or.inl ⟨rfl, rfl, _, rfl⟩) (X.d (k := 2) rfl) Y

def M_X7_undo (S0 : TF) (S1 : AC) (S2 : BD) : Option (Int32 × AC × BD) :=
  (if (ac_kept S1) = 0 then (some ((-1000002 : Int32), S1, S2)) else ((M_X0_takeBack S1 S2).bind (fun u2 => (some ((ac_kept u2.1), u2.1, u2.2)))))
def q_X7_undo : Room := { frames := 5, cells := 0, slots := 0, locals := 151 }
set_option maxHeartbeats 4000000 in
set_option maxRecDepth 100000 in
theorem c_X7_undo (l : Launch) (G : gT) (h h_rows h_tape h_live h_draft h_images h_acts h_foresight h_asks h_acts_before h_live_firms h_live_kindsTold h_live_places h_live_crowds h_live_pipsLeft h_live_notHome : Nat) (S0_latestFault : Int32) (S0_latestFinding : Int32) (S1_next : Int32) (S1_kept : Int32) (S1_before : Nat → Int32) (S2_points : Int32) (S2_home : Int32) (S2_men : Int32) (S2_turn : Int32) (S2_thrower : Int32) (S2_cube : Int32) (S2_owner : Int32) (S2_firms : Nat → Int32) (S2_kindsTold : Nat → Int32) (S2_places : Nat → Int32) (S2_crowds : Nat → Int32) (S2_pipsLeft : Nat → Int32) (S2_notHome : Nat → Int32) : CT l G yX7_undo cX7_undo 1 (some .int) q_X7_undo [.ref h] (wTF G h h_rows h_tape h_live h_draft h_images h_acts h_foresight h_asks S0_latestFault S0_latestFinding ++ wAC G h_acts h_acts_before S1_next S1_kept S1_before ++ wBD G h_live h_live_firms h_live_kindsTold h_live_places h_live_crowds h_live_pipsLeft h_live_notHome S2_points S2_home S2_men S2_turn S2_thrower S2_cube S2_owner S2_firms S2_kindsTold S2_places S2_crowds S2_pipsLeft S2_notHome) (M_X7_undo (S0_latestFault, S0_latestFinding) (S1_next, S1_kept, S1_before) (S2_points, S2_home, S2_men, S2_turn, S2_thrower, S2_cube, S2_owner, S2_firms, S2_kindsTold, S2_places, S2_crowds, S2_pipsLeft, S2_notHome)) (fun u => some (.int u.1)) (fun u => wTF G h h_rows h_tape h_live h_draft h_images h_acts h_foresight h_asks S0_latestFault S0_latestFinding ++ wAC G h_acts h_acts_before u.2.1.1 u.2.1.2.1 u.2.1.2.2 ++ wBD G h_live h_live_firms h_live_kindsTold h_live_places h_live_crowds h_live_pipsLeft h_live_notHome u.2.2.1 u.2.2.2.1 u.2.2.2.2.1 u.2.2.2.2.2.1 u.2.2.2.2.2.2.1 u.2.2.2.2.2.2.2.1 u.2.2.2.2.2.2.2.2.1 u.2.2.2.2.2.2.2.2.2.1 u.2.2.2.2.2.2.2.2.2.2.1 u.2.2.2.2.2.2.2.2.2.2.2.1 u.2.2.2.2.2.2.2.2.2.2.2.2.1 u.2.2.2.2.2.2.2.2.2.2.2.2.2.1 u.2.2.2.2.2.2.2.2.2.2.2.2.2.2) := by
  refine CT.of (P := PX7_undo) (by decide) dPX7_undo (Nat.le_of_ble_eq_true rfl) ?_
  intro p e s m args below meth c A Q ls hne X RT Y hl
  have hl : lv_has ls 1 [(0, .ref h)] := hl
  generalize hM : M_X7_undo (S0_latestFault, S0_latestFinding) (S1_next, S1_kept, S1_before) (S2_points, S2_home, S2_men, S2_turn, S2_thrower, S2_cube, S2_owner, S2_firms, S2_kindsTold, S2_places, S2_crowds, S2_pipsLeft, S2_notHome) = MM at hne RT
  unfold M_X7_undo at hM
  refine r_aload_n (pc' := 1) X hl 0 rfl rfl 0 rfl rfl ?_
  refine r_get (pc' := 4) (v := .ref h_acts) X Y 1 rfl rfl fRX7_40 0 rfl rfl ?_
  refine r_getN (pc' := 7) (v := .int S1_kept) X Y 2 rfl rfl fRX7_135 1 rfl rfl ?_
  refine r_if_ne (pc' := 10) X 13 3 rfl rfl (by decide) (fun c1 => ?_) (fun c1 => ?_)
  · replace hM := mE hM c1
    refine r_aload_n (pc' := 14) X hl 0 rfl rfl 6 rfl rfl ?_
    refine r_get (pc' := 17) (v := .ref h_acts) X Y 7 rfl rfl fRX7_40 0 rfl rfl ?_
    refine r_aload_n (pc' := 18) X hl 0 rfl rfl 8 rfl rfl ?_
    refine r_get (pc' := 21) (v := .ref h_live) X Y 9 rfl rfl fRX7_26 0 rfl rfl ?_
    refine r_callV (pc' := 24) (As := [.ref h_live]) (rest := []) (wr := (wTF G h h_rows h_tape h_live h_draft h_images h_acts h_foresight h_asks S0_latestFault S0_latestFinding : va_W)) X Y 10 rfl rfl mRX7_139 (c_X0_takeBack l G h_acts h_live h_acts_before h_live_firms h_live_kindsTold h_live_places h_live_crowds h_live_pipsLeft h_live_notHome S1_next S1_kept S1_before S2_points S2_home S2_men S2_turn S2_thrower S2_cube S2_owner S2_firms S2_kindsTold S2_places S2_crowds S2_pipsLeft S2_notHome) (mB hM hne) 1 rfl rfl [1, 2, 3, 4, 5, 6, 7, 8, 9] [0] [0, 1, 2, 3, 4, 5, 6, 7, 8, 9] rfl rfl ⟨rfl, rfl, rfl⟩ rfl (w2 := fun u2 => wTF G h h_rows h_tape h_live h_draft h_images h_acts h_foresight h_asks S0_latestFault S0_latestFinding ++ wAC G h_acts h_acts_before u2.1.1 u2.1.2.1 u2.1.2.2 ++ wBD G h_live h_live_firms h_live_kindsTold h_live_places h_live_crowds h_live_pipsLeft h_live_notHome u2.2.1 u2.2.2.1 u2.2.2.2.1 u2.2.2.2.2.1 u2.2.2.2.2.2.1 u2.2.2.2.2.2.2.1 u2.2.2.2.2.2.2.2.1 u2.2.2.2.2.2.2.2.2.1 u2.2.2.2.2.2.2.2.2.2.1 u2.2.2.2.2.2.2.2.2.2.2.1 u2.2.2.2.2.2.2.2.2.2.2.2.1 u2.2.2.2.2.2.2.2.2.2.2.2.2.1 u2.2.2.2.2.2.2.2.2.2.2.2.2.2) (fun _ => rfl) rfl (Nat.le_of_ble_eq_true rfl) ⟨rfl, rfl⟩ ⟨Nat.le_of_ble_eq_true rfl, Nat.le_of_ble_eq_true rfl⟩ ⟨Nat.zero_le _, Nat.zero_le _⟩ hl.1 (st' := fun u2 => []) (fun _ => rfl) (fun u2 H locs huu2 Y => ?_)
    obtain ⟨⟨u2_1_next, u2_1_kept, u2_1_before⟩, ⟨u2_2_points, u2_2_home, u2_2_men, u2_2_turn, u2_2_thrower, u2_2_cube, u2_2_owner, u2_2_firms, u2_2_kindsTold, u2_2_places, u2_2_crowds, u2_2_pipsLeft, u2_2_notHome⟩⟩ := u2
    replace Y : rY G A s (wTF G h h_rows h_tape h_live h_draft h_images h_acts h_foresight h_asks S0_latestFault S0_latestFinding ++ wAC G h_acts h_acts_before u2_1_next u2_1_kept u2_1_before ++ wBD G h_live h_live_firms h_live_kindsTold h_live_places h_live_crowds h_live_pipsLeft h_live_notHome u2_2_points u2_2_home u2_2_men u2_2_turn u2_2_thrower u2_2_cube u2_2_owner u2_2_firms u2_2_kindsTold u2_2_places u2_2_crowds u2_2_pipsLeft u2_2_notHome) H locs := Y
    replace hM := mS hM huu2
    show W p l e q_X7_undo s m args below meth c H locs 0 0 Q (F0 m 24 ls [])
    refine r_aload_n (pc' := 25) X hl 0 rfl rfl 11 rfl rfl ?_
    refine r_get (pc' := 28) (v := .ref h_acts) X Y 12 rfl rfl fRX7_40 0 rfl rfl ?_
    refine r_getN (pc' := 31) (v := .int u2_1_kept) X Y 13 rfl rfl fRX7_135 1 rfl rfl ?_
    exact RT (u2_1_kept, (u2_1_next, u2_1_kept, u2_1_before), (u2_2_points, u2_2_home, u2_2_men, u2_2_turn, u2_2_thrower, u2_2_cube, u2_2_owner, u2_2_firms, u2_2_kindsTold, u2_2_places, u2_2_crowds, u2_2_pipsLeft, u2_2_notHome)) _ _ _ _ _ hM (Or.inl ⟨rfl, rfl, _, rfl⟩) (X.d (k := 14) rfl) Y
  · replace hM := mI hM c1
    refine r_ldc (pc' := 12) X mw378 4 rfl rfl ?_
    exact RT ((-1000002 : Int32), (S1_next, S1_kept, S1_before), (S2_points, S2_home, S2_men, S2_turn, S2_thrower, S2_cube, S2_owner, S2_firms, S2_kindsTold, S2_places, S2_crowds, S2_pipsLeft, S2_notHome)) _ _ _ _ _ hM (Or.inl ⟨rfl, rfl, _, rfl⟩) (X.d (k := 5) rfl) Y

def M_X7_hasNoTable (S0 : TF) (S1 : BD) : Option (Int32) :=
  (if (bd_men S1) = 0 then (some (1 : Int32)) else (some (0 : Int32)))
def q_X7_hasNoTable : Room := { frames := 1, cells := 0, slots := 0, locals := 60 }
set_option maxHeartbeats 4000000 in
set_option maxRecDepth 100000 in
theorem c_X7_hasNoTable (l : Launch) (G : gT) (h h_rows h_tape h_live h_draft h_images h_acts h_foresight h_asks h_live_firms h_live_kindsTold h_live_places h_live_crowds h_live_pipsLeft h_live_notHome : Nat) (S0_latestFault : Int32) (S0_latestFinding : Int32) (S1_points : Int32) (S1_home : Int32) (S1_men : Int32) (S1_turn : Int32) (S1_thrower : Int32) (S1_cube : Int32) (S1_owner : Int32) (S1_firms : Nat → Int32) (S1_kindsTold : Nat → Int32) (S1_places : Nat → Int32) (S1_crowds : Nat → Int32) (S1_pipsLeft : Nat → Int32) (S1_notHome : Nat → Int32) : CT l G yX7_hasNoTable cX7_hasNoTable 1 (some .boolean) q_X7_hasNoTable [.ref h] (wTF G h h_rows h_tape h_live h_draft h_images h_acts h_foresight h_asks S0_latestFault S0_latestFinding ++ wBD G h_live h_live_firms h_live_kindsTold h_live_places h_live_crowds h_live_pipsLeft h_live_notHome S1_points S1_home S1_men S1_turn S1_thrower S1_cube S1_owner S1_firms S1_kindsTold S1_places S1_crowds S1_pipsLeft S1_notHome) (M_X7_hasNoTable (S0_latestFault, S0_latestFinding) (S1_points, S1_home, S1_men, S1_turn, S1_thrower, S1_cube, S1_owner, S1_firms, S1_kindsTold, S1_places, S1_crowds, S1_pipsLeft, S1_notHome)) (fun u => some (.int u)) (fun u => wTF G h h_rows h_tape h_live h_draft h_images h_acts h_foresight h_asks S0_latestFault S0_latestFinding ++ wBD G h_live h_live_firms h_live_kindsTold h_live_places h_live_crowds h_live_pipsLeft h_live_notHome S1_points S1_home S1_men S1_turn S1_thrower S1_cube S1_owner S1_firms S1_kindsTold S1_places S1_crowds S1_pipsLeft S1_notHome) := by
  refine CT.of (P := PX7_hasNoTable) (by decide) dPX7_hasNoTable (Nat.le_of_ble_eq_true rfl) ?_
  intro p e s m args below meth c A Q ls hne X RT Y hl
  have hl : lv_has ls 1 [(0, .ref h)] := hl
  generalize hM : M_X7_hasNoTable (S0_latestFault, S0_latestFinding) (S1_points, S1_home, S1_men, S1_turn, S1_thrower, S1_cube, S1_owner, S1_firms, S1_kindsTold, S1_places, S1_crowds, S1_pipsLeft, S1_notHome) = MM at hne RT
  unfold M_X7_hasNoTable at hM
  refine r_aload_n (pc' := 1) X hl 0 rfl rfl 0 rfl rfl ?_
  refine r_get (pc' := 4) (v := .ref h_live) X Y 1 rfl rfl fRX7_26 0 rfl rfl ?_
  refine r_getN (pc' := 7) (v := .int S1_men) X Y 2 rfl rfl fRX7_132 1 rfl rfl ?_
  refine r_if_ne (pc' := 10) X 14 3 rfl rfl (by decide) (fun c1 => ?_) (fun c1 => ?_)
  · replace hM := mE hM c1
    refine r_iconst (pc' := 15) X (0 : Int32) 6 rfl rfl rfl ?_
    exact RT (0 : Int32) _ _ _ _ _ hM (Or.inr (Or.inl ⟨rfl, rfl, _, rfl, nb (Or.inl rfl)⟩)) (X.d (k := 7) rfl) Y
  · replace hM := mI hM c1
    refine r_iconst (pc' := 11) X (1 : Int32) 4 rfl rfl rfl ?_
    refine r_goto X 15 5 rfl (by decide) ?_
    exact RT (1 : Int32) _ _ _ _ _ hM (Or.inr (Or.inl ⟨rfl, rfl, _, rfl, nb (Or.inr rfl)⟩)) (X.d (k := 7) rfl) Y

def M_X7_isThrow (i0 : Int32) : Option (Int32) :=
  ((M_X7_within i0 (1 : Int32) (6 : Int32)).bind (fun u1 => (if (u1 = 0 ∨ u1 = 1) then (some u1) else none)))
def q_X7_isThrow : Room := { frames := 2, cells := 0, slots := 0, locals := 82 }
set_option maxHeartbeats 4000000 in
set_option maxRecDepth 100000 in
theorem c_X7_isThrow (l : Launch) (G : gT) (i0 : Int32) : CT l G yX7_isThrow cX7_isThrow 1 (some .boolean) q_X7_isThrow [.int i0] ([]) (M_X7_isThrow i0) (fun u => some (.int u)) (fun u => []) := by
  refine CT.of (P := PX7_isThrow) (by decide) dPX7_isThrow (Nat.le_of_ble_eq_true rfl) ?_
  intro p e s m args below meth c A Q ls hne X RT Y hl
  have hl : lv_has ls 1 [(0, .int i0)] := hl
  generalize hM : M_X7_isThrow i0 = MM at hne RT
  unfold M_X7_isThrow at hM
  refine r_iload_n (pc' := 1) X hl 0 rfl rfl 0 rfl rfl ?_
  refine r_iconst (pc' := 2) X (1 : Int32) 1 rfl rfl rfl ?_
  refine r_bipush (pc' := 4) X (6 : Int32) 2 rfl rfl rfl ?_
  refine r_callS0 (pc' := 7) (As := [.int i0, .int (1 : Int32), .int (6 : Int32)]) (rest := []) X Y 3 rfl rfl mRX7_62 (c_X7_within l G i0 (1 : Int32) (6 : Int32)) (mB hM hne) rfl [] rfl rfl rfl (Nat.le_of_ble_eq_true rfl) ⟨rfl, rfl⟩ ⟨Nat.le_of_ble_eq_true rfl, Nat.le_of_ble_eq_true rfl⟩ ⟨Nat.zero_le _, Nat.zero_le _⟩ hl.1 (st' := fun u1 => [.int u1]) (fun _ => rfl) (fun u1 H locs huu1 Y => ?_)
  replace hM := mS hM huu1
  obtain ⟨g2, hM⟩ := mG hM hne
  exact RT u1 _ _ _ _ _ hM (Or.inr (Or.inl ⟨rfl, rfl, _, rfl, nb g2⟩)) (X.d (k := 4) rfl) Y

def M_X7_isOver (S0 : TF) (S1 : BD) : Option (Int32) :=
  ((M_X2_winner S1).bind (fun u1 => (if u1 = (-1000000 : Int32) then (some (0 : Int32)) else (some (1 : Int32)))))
def q_X7_isOver : Room := { frames := 4, cells := 0, slots := 0, locals := 124 }
set_option maxHeartbeats 4000000 in
set_option maxRecDepth 100000 in
theorem c_X7_isOver (l : Launch) (G : gT) (h h_rows h_tape h_live h_draft h_images h_acts h_foresight h_asks h_live_firms h_live_kindsTold h_live_places h_live_crowds h_live_pipsLeft h_live_notHome : Nat) (S0_latestFault : Int32) (S0_latestFinding : Int32) (S1_points : Int32) (S1_home : Int32) (S1_men : Int32) (S1_turn : Int32) (S1_thrower : Int32) (S1_cube : Int32) (S1_owner : Int32) (S1_firms : Nat → Int32) (S1_kindsTold : Nat → Int32) (S1_places : Nat → Int32) (S1_crowds : Nat → Int32) (S1_pipsLeft : Nat → Int32) (S1_notHome : Nat → Int32) : CT l G yX7_isOver cX7_isOver 1 (some .boolean) q_X7_isOver [.ref h] (wTF G h h_rows h_tape h_live h_draft h_images h_acts h_foresight h_asks S0_latestFault S0_latestFinding ++ wBD G h_live h_live_firms h_live_kindsTold h_live_places h_live_crowds h_live_pipsLeft h_live_notHome S1_points S1_home S1_men S1_turn S1_thrower S1_cube S1_owner S1_firms S1_kindsTold S1_places S1_crowds S1_pipsLeft S1_notHome) (M_X7_isOver (S0_latestFault, S0_latestFinding) (S1_points, S1_home, S1_men, S1_turn, S1_thrower, S1_cube, S1_owner, S1_firms, S1_kindsTold, S1_places, S1_crowds, S1_pipsLeft, S1_notHome)) (fun u => some (.int u)) (fun u => wTF G h h_rows h_tape h_live h_draft h_images h_acts h_foresight h_asks S0_latestFault S0_latestFinding ++ wBD G h_live h_live_firms h_live_kindsTold h_live_places h_live_crowds h_live_pipsLeft h_live_notHome S1_points S1_home S1_men S1_turn S1_thrower S1_cube S1_owner S1_firms S1_kindsTold S1_places S1_crowds S1_pipsLeft S1_notHome) := by
  refine CT.of (P := PX7_isOver) (by decide) dPX7_isOver (Nat.le_of_ble_eq_true rfl) ?_
  intro p e s m args below meth c A Q ls hne X RT Y hl
  have hl : lv_has ls 1 [(0, .ref h)] := hl
  generalize hM : M_X7_isOver (S0_latestFault, S0_latestFinding) (S1_points, S1_home, S1_men, S1_turn, S1_thrower, S1_cube, S1_owner, S1_firms, S1_kindsTold, S1_places, S1_crowds, S1_pipsLeft, S1_notHome) = MM at hne RT
  unfold M_X7_isOver at hM
  refine r_aload_n (pc' := 1) X hl 0 rfl rfl 0 rfl rfl ?_
  refine r_get (pc' := 4) (v := .ref h_live) X Y 1 rfl rfl fRX7_26 0 rfl rfl ?_
  refine r_callV0 (pc' := 7) (As := []) (rest := []) X Y 2 rfl rfl mRX7_218 (c_X2_winner l G h_live h_live_firms h_live_kindsTold h_live_places h_live_crowds h_live_pipsLeft h_live_notHome S1_points S1_home S1_men S1_turn S1_thrower S1_cube S1_owner S1_firms S1_kindsTold S1_places S1_crowds S1_pipsLeft S1_notHome) (mB hM hne) 1 rfl rfl [1, 2, 3, 4, 5, 6, 7] rfl rfl rfl (Nat.le_of_ble_eq_true rfl) ⟨rfl, rfl⟩ ⟨Nat.le_of_ble_eq_true rfl, Nat.le_of_ble_eq_true rfl⟩ ⟨Nat.zero_le _, Nat.zero_le _⟩ hl.1 (st' := fun u1 => [.int u1]) (fun _ => rfl) (fun u1 H locs huu1 Y => ?_)
  replace hM := mS hM huu1
  refine r_ldc (pc' := 9) X mw386 3 rfl rfl ?_
  refine r_icmp_eq (pc' := 12) X 16 4 rfl rfl (by decide) (fun c2 => ?_) (fun c2 => ?_)
  · replace hM := mI hM c2
    refine r_iconst (pc' := 17) X (0 : Int32) 7 rfl rfl rfl ?_
    exact RT (0 : Int32) _ _ _ _ _ hM (Or.inr (Or.inl ⟨rfl, rfl, _, rfl, nb (Or.inl rfl)⟩)) (X.d (k := 8) rfl) Y
  · replace hM := mE hM c2
    refine r_iconst (pc' := 13) X (1 : Int32) 5 rfl rfl rfl ?_
    refine r_goto X 17 6 rfl (by decide) ?_
    exact RT (1 : Int32) _ _ _ _ _ hM (Or.inr (Or.inl ⟨rfl, rfl, _, rfl, nb (Or.inr rfl)⟩)) (X.d (k := 8) rfl) Y

def M_X7_play (S0 : TF) (S1 : BD) (S2 : AC) (i1 : Int32) : Option (Int32 × BD × AC) :=
  ((M_X7_hasNoTable S0 S1).bind (fun u1 => (if u1 = 0 then ((M_X7_isThrow i1).bind (fun u3 => (if u3 = 0 then (some ((-1000001 : Int32), S1, S2)) else ((M_X7_isOver S0 S1).bind (fun u5 => (if u5 = 0 then (if (bd_turn S1) < (999 : Int32) then ((M_X0_keep S2 S1).bind (fun u8 => ((M_X2_turnByRule S1 i1).bind (fun u9 => (some (u9.1, u9.2, u8)))))) else (some ((-1000003 : Int32), S1, S2))) else (some ((-1000002 : Int32), S1, S2)))))))) else (some ((-1000002 : Int32), S1, S2)))))
def q_X7_play : Room := { frames := 6, cells := 0, slots := 0, locals := 180 }
set_option maxHeartbeats 4000000 in
set_option maxRecDepth 100000 in
theorem c_X7_play (l : Launch) (G : gT) (h h_rows h_tape h_live h_draft h_images h_acts h_foresight h_asks h_live_firms h_live_kindsTold h_live_places h_live_crowds h_live_pipsLeft h_live_notHome h_acts_before : Nat) (S0_latestFault : Int32) (S0_latestFinding : Int32) (S1_points : Int32) (S1_home : Int32) (S1_men : Int32) (S1_turn : Int32) (S1_thrower : Int32) (S1_cube : Int32) (S1_owner : Int32) (S1_firms : Nat → Int32) (S1_kindsTold : Nat → Int32) (S1_places : Nat → Int32) (S1_crowds : Nat → Int32) (S1_pipsLeft : Nat → Int32) (S1_notHome : Nat → Int32) (S2_next : Int32) (S2_kept : Int32) (S2_before : Nat → Int32) (i1 : Int32) : CT l G yX7_play cX7_play 2 (some .int) q_X7_play [.ref h, .int i1] (wTF G h h_rows h_tape h_live h_draft h_images h_acts h_foresight h_asks S0_latestFault S0_latestFinding ++ wBD G h_live h_live_firms h_live_kindsTold h_live_places h_live_crowds h_live_pipsLeft h_live_notHome S1_points S1_home S1_men S1_turn S1_thrower S1_cube S1_owner S1_firms S1_kindsTold S1_places S1_crowds S1_pipsLeft S1_notHome ++ wAC G h_acts h_acts_before S2_next S2_kept S2_before) (M_X7_play (S0_latestFault, S0_latestFinding) (S1_points, S1_home, S1_men, S1_turn, S1_thrower, S1_cube, S1_owner, S1_firms, S1_kindsTold, S1_places, S1_crowds, S1_pipsLeft, S1_notHome) (S2_next, S2_kept, S2_before) i1) (fun u => some (.int u.1)) (fun u => wTF G h h_rows h_tape h_live h_draft h_images h_acts h_foresight h_asks S0_latestFault S0_latestFinding ++ wBD G h_live h_live_firms h_live_kindsTold h_live_places h_live_crowds h_live_pipsLeft h_live_notHome u.2.1.1 u.2.1.2.1 u.2.1.2.2.1 u.2.1.2.2.2.1 u.2.1.2.2.2.2.1 u.2.1.2.2.2.2.2.1 u.2.1.2.2.2.2.2.2.1 u.2.1.2.2.2.2.2.2.2.1 u.2.1.2.2.2.2.2.2.2.2.1 u.2.1.2.2.2.2.2.2.2.2.2.1 u.2.1.2.2.2.2.2.2.2.2.2.2.1 u.2.1.2.2.2.2.2.2.2.2.2.2.2.1 u.2.1.2.2.2.2.2.2.2.2.2.2.2.2 ++ wAC G h_acts h_acts_before u.2.2.1 u.2.2.2.1 u.2.2.2.2) := by
  refine CT.of (P := PX7_play) (by decide) dPX7_play (Nat.le_of_ble_eq_true rfl) ?_
  intro p e s m args below meth c A Q ls hne X RT Y hl
  have hl : lv_has ls 2 [(0, .ref h), (1, .int i1)] := hl
  generalize hM : M_X7_play (S0_latestFault, S0_latestFinding) (S1_points, S1_home, S1_men, S1_turn, S1_thrower, S1_cube, S1_owner, S1_firms, S1_kindsTold, S1_places, S1_crowds, S1_pipsLeft, S1_notHome) (S2_next, S2_kept, S2_before) i1 = MM at hne RT
  unfold M_X7_play at hM
  refine r_aload_n (pc' := 1) X hl 0 rfl rfl 0 rfl rfl ?_
  refine r_callV0 (pc' := 4) (As := []) (rest := []) X Y 1 rfl rfl mRX7_142 (c_X7_hasNoTable l G h h_rows h_tape h_live h_draft h_images h_acts h_foresight h_asks h_live_firms h_live_kindsTold h_live_places h_live_crowds h_live_pipsLeft h_live_notHome S0_latestFault S0_latestFinding S1_points S1_home S1_men S1_turn S1_thrower S1_cube S1_owner S1_firms S1_kindsTold S1_places S1_crowds S1_pipsLeft S1_notHome) (mB hM hne) 0 rfl rfl [0, 1, 2, 3, 4, 5, 6, 7] rfl rfl rfl (Nat.le_of_ble_eq_true rfl) ⟨rfl, rfl⟩ ⟨Nat.le_of_ble_eq_true rfl, Nat.le_of_ble_eq_true rfl⟩ ⟨Nat.zero_le _, Nat.zero_le _⟩ hl.1 (st' := fun u1 => [.int u1]) (fun _ => rfl) (fun u1 H locs huu1 Y => ?_)
  replace hM := mS hM huu1
  refine r_if_eq (pc' := 7) X 10 2 rfl rfl (by decide) (fun c2 => ?_) (fun c2 => ?_)
  · replace hM := mI hM c2
    refine r_iload_n (pc' := 11) X hl 1 rfl rfl 5 rfl rfl ?_
    refine r_callS0 (pc' := 14) (As := [.int i1]) (rest := []) X Y 6 rfl rfl mRX7_145 (c_X7_isThrow l G i1) (mB hM hne) rfl [] rfl rfl rfl (Nat.le_of_ble_eq_true rfl) ⟨rfl, rfl⟩ ⟨Nat.le_of_ble_eq_true rfl, Nat.le_of_ble_eq_true rfl⟩ ⟨Nat.zero_le _, Nat.zero_le _⟩ hl.1 (st' := fun u3 => [.int u3]) (fun _ => rfl) (fun u3 H locs huu3 Y => ?_)
    replace hM := mS hM huu3
    refine r_if_ne (pc' := 17) X 20 7 rfl rfl (by decide) (fun c4 => ?_) (fun c4 => ?_)
    · replace hM := mE hM c4
      refine r_aload_n (pc' := 21) X hl 0 rfl rfl 10 rfl rfl ?_
      refine r_callV0 (pc' := 24) (As := []) (rest := []) X Y 11 rfl rfl mRX7_148 (c_X7_isOver l G h h_rows h_tape h_live h_draft h_images h_acts h_foresight h_asks h_live_firms h_live_kindsTold h_live_places h_live_crowds h_live_pipsLeft h_live_notHome S0_latestFault S0_latestFinding S1_points S1_home S1_men S1_turn S1_thrower S1_cube S1_owner S1_firms S1_kindsTold S1_places S1_crowds S1_pipsLeft S1_notHome) (mB hM hne) 0 rfl rfl [0, 1, 2, 3, 4, 5, 6, 7] rfl rfl rfl (Nat.le_of_ble_eq_true rfl) ⟨rfl, rfl⟩ ⟨Nat.le_of_ble_eq_true rfl, Nat.le_of_ble_eq_true rfl⟩ ⟨Nat.zero_le _, Nat.zero_le _⟩ hl.1 (st' := fun u5 => [.int u5]) (fun _ => rfl) (fun u5 H locs huu5 Y => ?_)
      replace hM := mS hM huu5
      refine r_if_eq (pc' := 27) X 30 12 rfl rfl (by decide) (fun c6 => ?_) (fun c6 => ?_)
      · replace hM := mI hM c6
        refine r_aload_n (pc' := 31) X hl 0 rfl rfl 15 rfl rfl ?_
        refine r_get (pc' := 34) (v := .ref h_live) X Y 16 rfl rfl fRX7_26 0 rfl rfl ?_
        refine r_getN (pc' := 37) (v := .int S1_turn) X Y 17 rfl rfl fRX7_151 1 rfl rfl ?_
        refine r_sipush (pc' := 40) X (999 : Int32) 18 rfl rfl rfl ?_
        refine r_icmp_lt (pc' := 43) X 46 19 rfl rfl (by decide) (fun c7 => ?_) (fun c7 => ?_)
        · replace hM := mI hM c7
          refine r_aload_n (pc' := 47) X hl 0 rfl rfl 22 rfl rfl ?_
          refine r_get (pc' := 50) (v := .ref h_acts) X Y 23 rfl rfl fRX7_40 0 rfl rfl ?_
          refine r_aload_n (pc' := 51) X hl 0 rfl rfl 24 rfl rfl ?_
          refine r_get (pc' := 54) (v := .ref h_live) X Y 25 rfl rfl fRX7_26 0 rfl rfl ?_
          refine r_callV (pc' := 57) (As := [.ref h_live]) (rest := []) (wr := (wTF G h h_rows h_tape h_live h_draft h_images h_acts h_foresight h_asks S0_latestFault S0_latestFinding : va_W)) X Y 26 rfl rfl mRX7_155 (c_X0_keep l G h_acts h_live h_acts_before h_live_firms h_live_kindsTold h_live_places h_live_crowds h_live_pipsLeft h_live_notHome S2_next S2_kept S2_before S1_points S1_home S1_men S1_turn S1_thrower S1_cube S1_owner S1_firms S1_kindsTold S1_places S1_crowds S1_pipsLeft S1_notHome) (mB hM hne) 8 rfl rfl [8, 9, 1, 2, 3, 4, 5, 6, 7] [0] [0, 3, 4, 5, 6, 7, 8, 9, 1, 2] rfl rfl ⟨rfl, rfl, rfl⟩ rfl (w2 := fun u8 => wTF G h h_rows h_tape h_live h_draft h_images h_acts h_foresight h_asks S0_latestFault S0_latestFinding ++ wBD G h_live h_live_firms h_live_kindsTold h_live_places h_live_crowds h_live_pipsLeft h_live_notHome S1_points S1_home S1_men S1_turn S1_thrower S1_cube S1_owner S1_firms S1_kindsTold S1_places S1_crowds S1_pipsLeft S1_notHome ++ wAC G h_acts h_acts_before u8.1 u8.2.1 u8.2.2) (fun _ => rfl) rfl (Nat.le_of_ble_eq_true rfl) ⟨rfl, rfl⟩ ⟨Nat.le_of_ble_eq_true rfl, Nat.le_of_ble_eq_true rfl⟩ ⟨Nat.zero_le _, Nat.zero_le _⟩ hl.1 (st' := fun u8 => []) (fun _ => rfl) (fun u8 H locs huu8 Y => ?_)
          obtain ⟨u8_next, u8_kept, u8_before⟩ := u8
          replace Y : rY G A s (wTF G h h_rows h_tape h_live h_draft h_images h_acts h_foresight h_asks S0_latestFault S0_latestFinding ++ wBD G h_live h_live_firms h_live_kindsTold h_live_places h_live_crowds h_live_pipsLeft h_live_notHome S1_points S1_home S1_men S1_turn S1_thrower S1_cube S1_owner S1_firms S1_kindsTold S1_places S1_crowds S1_pipsLeft S1_notHome ++ wAC G h_acts h_acts_before u8_next u8_kept u8_before) H locs := Y
          replace hM := mS hM huu8
          show W p l e q_X7_play s m args below meth c H locs 0 0 Q (F0 m 57 ls [])
          refine r_aload_n (pc' := 58) X hl 0 rfl rfl 27 rfl rfl ?_
          refine r_get (pc' := 61) (v := .ref h_live) X Y 28 rfl rfl fRX7_26 0 rfl rfl ?_
          refine r_iload_n (pc' := 62) X hl 1 rfl rfl 29 rfl rfl ?_
          refine r_callV (pc' := 65) (As := [.int i1]) (rest := []) (wr := (wTF G h h_rows h_tape h_live h_draft h_images h_acts h_foresight h_asks S0_latestFault S0_latestFinding ++ wAC G h_acts h_acts_before u8_next u8_kept u8_before : va_W)) X Y 30 rfl rfl mRX7_158 (c_X2_turnByRule l G h_live h_live_firms h_live_kindsTold h_live_places h_live_crowds h_live_pipsLeft h_live_notHome S1_points S1_home S1_men S1_turn S1_thrower S1_cube S1_owner S1_firms S1_kindsTold S1_places S1_crowds S1_pipsLeft S1_notHome i1) (mB hM hne) 1 rfl rfl [1, 2, 3, 4, 5, 6, 7] [0, 8, 9] [0, 3, 4, 5, 6, 7, 8, 9, 1, 2] rfl rfl ⟨rfl, rfl, rfl⟩ rfl (w2 := fun u9 => wTF G h h_rows h_tape h_live h_draft h_images h_acts h_foresight h_asks S0_latestFault S0_latestFinding ++ wBD G h_live h_live_firms h_live_kindsTold h_live_places h_live_crowds h_live_pipsLeft h_live_notHome u9.2.1 u9.2.2.1 u9.2.2.2.1 u9.2.2.2.2.1 u9.2.2.2.2.2.1 u9.2.2.2.2.2.2.1 u9.2.2.2.2.2.2.2.1 u9.2.2.2.2.2.2.2.2.1 u9.2.2.2.2.2.2.2.2.2.1 u9.2.2.2.2.2.2.2.2.2.2.1 u9.2.2.2.2.2.2.2.2.2.2.2.1 u9.2.2.2.2.2.2.2.2.2.2.2.2.1 u9.2.2.2.2.2.2.2.2.2.2.2.2.2 ++ wAC G h_acts h_acts_before u8_next u8_kept u8_before) (fun _ => rfl) rfl (Nat.le_of_ble_eq_true rfl) ⟨rfl, rfl⟩ ⟨Nat.le_of_ble_eq_true rfl, Nat.le_of_ble_eq_true rfl⟩ ⟨Nat.zero_le _, Nat.zero_le _⟩ hl.1 (st' := fun u9 => [.int u9.1]) (fun _ => rfl) (fun u9 H locs huu9 Y => ?_)
          obtain ⟨u9_1, ⟨u9_2_points, u9_2_home, u9_2_men, u9_2_turn, u9_2_thrower, u9_2_cube, u9_2_owner, u9_2_firms, u9_2_kindsTold, u9_2_places, u9_2_crowds, u9_2_pipsLeft, u9_2_notHome⟩⟩ := u9
          replace Y : rY G A s (wTF G h h_rows h_tape h_live h_draft h_images h_acts h_foresight h_asks S0_latestFault S0_latestFinding ++ wBD G h_live h_live_firms h_live_kindsTold h_live_places h_live_crowds h_live_pipsLeft h_live_notHome u9_2_points u9_2_home u9_2_men u9_2_turn u9_2_thrower u9_2_cube u9_2_owner u9_2_firms u9_2_kindsTold u9_2_places u9_2_crowds u9_2_pipsLeft u9_2_notHome ++ wAC G h_acts h_acts_before u8_next u8_kept u8_before) H locs := Y
          replace hM := mS hM huu9
          show W p l e q_X7_play s m args below meth c H locs 0 0 Q (F0 m 65 ls [.int u9_1])
          exact RT (u9_1, (u9_2_points, u9_2_home, u9_2_men, u9_2_turn, u9_2_thrower, u9_2_cube, u9_2_owner, u9_2_firms, u9_2_kindsTold, u9_2_places, u9_2_crowds, u9_2_pipsLeft, u9_2_notHome), (u8_next, u8_kept, u8_before)) _ _ _ _ _ hM (Or.inl ⟨rfl, rfl, _, rfl⟩) (X.d (k := 31) rfl) Y
        · replace hM := mE hM c7
          refine r_ldc (pc' := 45) X mw388 20 rfl rfl ?_
          exact RT ((-1000003 : Int32), (S1_points, S1_home, S1_men, S1_turn, S1_thrower, S1_cube, S1_owner, S1_firms, S1_kindsTold, S1_places, S1_crowds, S1_pipsLeft, S1_notHome), (S2_next, S2_kept, S2_before)) _ _ _ _ _ hM (Or.inl ⟨rfl, rfl, _, rfl⟩) (X.d (k := 21) rfl) Y
      · replace hM := mE hM c6
        refine r_ldc (pc' := 29) X mw378 13 rfl rfl ?_
        exact RT ((-1000002 : Int32), (S1_points, S1_home, S1_men, S1_turn, S1_thrower, S1_cube, S1_owner, S1_firms, S1_kindsTold, S1_places, S1_crowds, S1_pipsLeft, S1_notHome), (S2_next, S2_kept, S2_before)) _ _ _ _ _ hM (Or.inl ⟨rfl, rfl, _, rfl⟩) (X.d (k := 14) rfl) Y
    · replace hM := mI hM c4
      refine r_ldc (pc' := 19) X mw324 8 rfl rfl ?_
      exact RT ((-1000001 : Int32), (S1_points, S1_home, S1_men, S1_turn, S1_thrower, S1_cube, S1_owner, S1_firms, S1_kindsTold, S1_places, S1_crowds, S1_pipsLeft, S1_notHome), (S2_next, S2_kept, S2_before)) _ _ _ _ _ hM (Or.inl ⟨rfl, rfl, _, rfl⟩) (X.d (k := 9) rfl) Y
  · replace hM := mE hM c2
    refine r_ldc (pc' := 9) X mw378 3 rfl rfl ?_
    exact RT ((-1000002 : Int32), (S1_points, S1_home, S1_men, S1_turn, S1_thrower, S1_cube, S1_owner, S1_firms, S1_kindsTold, S1_places, S1_crowds, S1_pipsLeft, S1_notHome), (S2_next, S2_kept, S2_before)) _ _ _ _ _ hM (Or.inl ⟨rfl, rfl, _, rfl⟩) (X.d (k := 4) rfl) Y

def M_X7_isMan (S0 : TF) (S1 : BD) (i1 : Int32) : Option (Int32) :=
  ((M_X7_within i1 (0 : Int32) (((bd_men S1) - (1 : Int32)))).bind (fun u1 => (if (u1 = 0 ∨ u1 = 1) then (some u1) else none)))
def q_X7_isMan : Room := { frames := 2, cells := 0, slots := 0, locals := 82 }
set_option maxHeartbeats 4000000 in
set_option maxRecDepth 100000 in
theorem c_X7_isMan (l : Launch) (G : gT) (h h_rows h_tape h_live h_draft h_images h_acts h_foresight h_asks h_live_firms h_live_kindsTold h_live_places h_live_crowds h_live_pipsLeft h_live_notHome : Nat) (S0_latestFault : Int32) (S0_latestFinding : Int32) (S1_points : Int32) (S1_home : Int32) (S1_men : Int32) (S1_turn : Int32) (S1_thrower : Int32) (S1_cube : Int32) (S1_owner : Int32) (S1_firms : Nat → Int32) (S1_kindsTold : Nat → Int32) (S1_places : Nat → Int32) (S1_crowds : Nat → Int32) (S1_pipsLeft : Nat → Int32) (S1_notHome : Nat → Int32) (i1 : Int32) : CT l G yX7_isMan cX7_isMan 2 (some .boolean) q_X7_isMan [.ref h, .int i1] (wTF G h h_rows h_tape h_live h_draft h_images h_acts h_foresight h_asks S0_latestFault S0_latestFinding ++ wBD G h_live h_live_firms h_live_kindsTold h_live_places h_live_crowds h_live_pipsLeft h_live_notHome S1_points S1_home S1_men S1_turn S1_thrower S1_cube S1_owner S1_firms S1_kindsTold S1_places S1_crowds S1_pipsLeft S1_notHome) (M_X7_isMan (S0_latestFault, S0_latestFinding) (S1_points, S1_home, S1_men, S1_turn, S1_thrower, S1_cube, S1_owner, S1_firms, S1_kindsTold, S1_places, S1_crowds, S1_pipsLeft, S1_notHome) i1) (fun u => some (.int u)) (fun u => wTF G h h_rows h_tape h_live h_draft h_images h_acts h_foresight h_asks S0_latestFault S0_latestFinding ++ wBD G h_live h_live_firms h_live_kindsTold h_live_places h_live_crowds h_live_pipsLeft h_live_notHome S1_points S1_home S1_men S1_turn S1_thrower S1_cube S1_owner S1_firms S1_kindsTold S1_places S1_crowds S1_pipsLeft S1_notHome) := by
  refine CT.of (P := PX7_isMan) (by decide) dPX7_isMan (Nat.le_of_ble_eq_true rfl) ?_
  intro p e s m args below meth c A Q ls hne X RT Y hl
  have hl : lv_has ls 2 [(0, .ref h), (1, .int i1)] := hl
  generalize hM : M_X7_isMan (S0_latestFault, S0_latestFinding) (S1_points, S1_home, S1_men, S1_turn, S1_thrower, S1_cube, S1_owner, S1_firms, S1_kindsTold, S1_places, S1_crowds, S1_pipsLeft, S1_notHome) i1 = MM at hne RT
  unfold M_X7_isMan at hM
  refine r_iload_n (pc' := 1) X hl 1 rfl rfl 0 rfl rfl ?_
  refine r_iconst (pc' := 2) X (0 : Int32) 1 rfl rfl rfl ?_
  refine r_aload_n (pc' := 3) X hl 0 rfl rfl 2 rfl rfl ?_
  refine r_get (pc' := 6) (v := .ref h_live) X Y 3 rfl rfl fRX7_26 0 rfl rfl ?_
  refine r_getN (pc' := 9) (v := .int S1_men) X Y 4 rfl rfl fRX7_132 1 rfl rfl ?_
  refine r_iconst (pc' := 10) X (1 : Int32) 5 rfl rfl rfl ?_
  refine r_isub (pc' := 11) X 6 rfl rfl ?_
  refine r_callS0 (pc' := 14) (As := [.int i1, .int (0 : Int32), .int (S1_men - (1 : Int32))]) (rest := []) X Y 7 rfl rfl mRX7_62 (c_X7_within l G i1 (0 : Int32) ((S1_men - (1 : Int32)))) (mB hM hne) rfl [] rfl rfl rfl (Nat.le_of_ble_eq_true rfl) ⟨rfl, rfl⟩ ⟨Nat.le_of_ble_eq_true rfl, Nat.le_of_ble_eq_true rfl⟩ ⟨Nat.zero_le _, Nat.zero_le _⟩ hl.1 (st' := fun u1 => [.int u1]) (fun _ => rfl) (fun u1 H locs huu1 Y => ?_)
  replace hM := mS hM huu1
  obtain ⟨g2, hM⟩ := mG hM hne
  exact RT u1 _ _ _ _ _ hM (Or.inr (Or.inl ⟨rfl, rfl, _, rfl, nb g2⟩)) (X.d (k := 8) rfl) Y

def M_X7_move (S0 : TF) (S1 : BD) (S2 : AC) (i1 : Int32) (i2 : Int32) : Option (Int32 × BD × AC) :=
  ((M_X7_isMan S0 S1 i1).bind (fun u1 => (if u1 = 0 then (some ((-1000001 : Int32), S1, S2)) else ((M_X7_isThrow i2).bind (fun u3 => (if u3 = 0 then (some ((-1000001 : Int32), S1, S2)) else ((M_X7_isOver S0 S1).bind (fun u5 => (if u5 = 0 then (if inb i1 8 = true then (if ((bd_firms S1) (i1).toNatClampNeg) = (bd_thrower S1) then ((M_X2_canGo S1 i1 i2).bind (fun u9 => (if u9 = 0 then (some ((-1000002 : Int32), S1, S2)) else (if (bd_turn S1) < (999 : Int32) then ((M_X0_keep S2 S1).bind (fun u12 => ((M_X2_go S1 i1 i2).bind (fun u13 => ((M_X2_passThrow u13.2).bind (fun u14 => ((M_X2_placeTold u14 (((bd_places u14) (i1).toNatClampNeg))).bind (fun u15 => (some (u15, u14, u12)))))))))) else (some ((-1000003 : Int32), S1, S2)))))) else (some ((-1000002 : Int32), S1, S2))) else none) else (some ((-1000002 : Int32), S1, S2)))))))))))
def q_X7_move : Room := { frames := 5, cells := 0, slots := 0, locals := 152 }
set_option maxHeartbeats 4000000 in
set_option maxRecDepth 100000 in
theorem c_X7_move (l : Launch) (G : gT) (h h_rows h_tape h_live h_draft h_images h_acts h_foresight h_asks h_live_firms h_live_kindsTold h_live_places h_live_crowds h_live_pipsLeft h_live_notHome h_acts_before : Nat) (S0_latestFault : Int32) (S0_latestFinding : Int32) (S1_points : Int32) (S1_home : Int32) (S1_men : Int32) (S1_turn : Int32) (S1_thrower : Int32) (S1_cube : Int32) (S1_owner : Int32) (S1_firms : Nat → Int32) (S1_kindsTold : Nat → Int32) (S1_places : Nat → Int32) (S1_crowds : Nat → Int32) (S1_pipsLeft : Nat → Int32) (S1_notHome : Nat → Int32) (S2_next : Int32) (S2_kept : Int32) (S2_before : Nat → Int32) (i1 : Int32) (i2 : Int32) : CT l G yX7_move cX7_move 3 (some .int) q_X7_move [.ref h, .int i1, .int i2] (wTF G h h_rows h_tape h_live h_draft h_images h_acts h_foresight h_asks S0_latestFault S0_latestFinding ++ wBD G h_live h_live_firms h_live_kindsTold h_live_places h_live_crowds h_live_pipsLeft h_live_notHome S1_points S1_home S1_men S1_turn S1_thrower S1_cube S1_owner S1_firms S1_kindsTold S1_places S1_crowds S1_pipsLeft S1_notHome ++ wAC G h_acts h_acts_before S2_next S2_kept S2_before) (M_X7_move (S0_latestFault, S0_latestFinding) (S1_points, S1_home, S1_men, S1_turn, S1_thrower, S1_cube, S1_owner, S1_firms, S1_kindsTold, S1_places, S1_crowds, S1_pipsLeft, S1_notHome) (S2_next, S2_kept, S2_before) i1 i2) (fun u => some (.int u.1)) (fun u => wTF G h h_rows h_tape h_live h_draft h_images h_acts h_foresight h_asks S0_latestFault S0_latestFinding ++ wBD G h_live h_live_firms h_live_kindsTold h_live_places h_live_crowds h_live_pipsLeft h_live_notHome u.2.1.1 u.2.1.2.1 u.2.1.2.2.1 u.2.1.2.2.2.1 u.2.1.2.2.2.2.1 u.2.1.2.2.2.2.2.1 u.2.1.2.2.2.2.2.2.1 u.2.1.2.2.2.2.2.2.2.1 u.2.1.2.2.2.2.2.2.2.2.1 u.2.1.2.2.2.2.2.2.2.2.2.1 u.2.1.2.2.2.2.2.2.2.2.2.2.1 u.2.1.2.2.2.2.2.2.2.2.2.2.2.1 u.2.1.2.2.2.2.2.2.2.2.2.2.2.2 ++ wAC G h_acts h_acts_before u.2.2.1 u.2.2.2.1 u.2.2.2.2) := by
  refine CT.of (P := PX7_move) (by decide) dPX7_move (Nat.le_of_ble_eq_true rfl) ?_
  intro p e s m args below meth c A Q ls hne X RT Y hl
  have hl : lv_has ls 3 [(0, .ref h), (1, .int i1), (2, .int i2)] := hl
  generalize hM : M_X7_move (S0_latestFault, S0_latestFinding) (S1_points, S1_home, S1_men, S1_turn, S1_thrower, S1_cube, S1_owner, S1_firms, S1_kindsTold, S1_places, S1_crowds, S1_pipsLeft, S1_notHome) (S2_next, S2_kept, S2_before) i1 i2 = MM at hne RT
  unfold M_X7_move at hM
  refine r_aload_n (pc' := 1) X hl 0 rfl rfl 0 rfl rfl ?_
  refine r_iload_n (pc' := 2) X hl 1 rfl rfl 1 rfl rfl ?_
  refine r_callV0 (pc' := 5) (As := [.int i1]) (rest := []) X Y 2 rfl rfl mRX7_161 (c_X7_isMan l G h h_rows h_tape h_live h_draft h_images h_acts h_foresight h_asks h_live_firms h_live_kindsTold h_live_places h_live_crowds h_live_pipsLeft h_live_notHome S0_latestFault S0_latestFinding S1_points S1_home S1_men S1_turn S1_thrower S1_cube S1_owner S1_firms S1_kindsTold S1_places S1_crowds S1_pipsLeft S1_notHome i1) (mB hM hne) 0 rfl rfl [0, 1, 2, 3, 4, 5, 6, 7] rfl rfl rfl (Nat.le_of_ble_eq_true rfl) ⟨rfl, rfl⟩ ⟨Nat.le_of_ble_eq_true rfl, Nat.le_of_ble_eq_true rfl⟩ ⟨Nat.zero_le _, Nat.zero_le _⟩ hl.1 (st' := fun u1 => [.int u1]) (fun _ => rfl) (fun u1 H locs huu1 Y => ?_)
  replace hM := mS hM huu1
  refine r_if_eq (pc' := 8) X 15 3 rfl rfl (by decide) (fun c2 => ?_) (fun c2 => ?_)
  · replace hM := mI hM c2
    refine r_ldc (pc' := 17) X mw324 7 rfl rfl ?_
    exact RT ((-1000001 : Int32), (S1_points, S1_home, S1_men, S1_turn, S1_thrower, S1_cube, S1_owner, S1_firms, S1_kindsTold, S1_places, S1_crowds, S1_pipsLeft, S1_notHome), (S2_next, S2_kept, S2_before)) _ _ _ _ _ hM (Or.inl ⟨rfl, rfl, _, rfl⟩) (X.d (k := 8) rfl) Y
  · replace hM := mE hM c2
    refine r_iload_n (pc' := 9) X hl 2 rfl rfl 4 rfl rfl ?_
    refine r_callS0 (pc' := 12) (As := [.int i2]) (rest := []) X Y 5 rfl rfl mRX7_145 (c_X7_isThrow l G i2) (mB hM hne) rfl [] rfl rfl rfl (Nat.le_of_ble_eq_true rfl) ⟨rfl, rfl⟩ ⟨Nat.le_of_ble_eq_true rfl, Nat.le_of_ble_eq_true rfl⟩ ⟨Nat.zero_le _, Nat.zero_le _⟩ hl.1 (st' := fun u3 => [.int u3]) (fun _ => rfl) (fun u3 H locs huu3 Y => ?_)
    replace hM := mS hM huu3
    refine r_if_ne (pc' := 15) X 18 6 rfl rfl (by decide) (fun c4 => ?_) (fun c4 => ?_)
    · replace hM := mE hM c4
      refine r_aload_n (pc' := 19) X hl 0 rfl rfl 9 rfl rfl ?_
      refine r_callV0 (pc' := 22) (As := []) (rest := []) X Y 10 rfl rfl mRX7_148 (c_X7_isOver l G h h_rows h_tape h_live h_draft h_images h_acts h_foresight h_asks h_live_firms h_live_kindsTold h_live_places h_live_crowds h_live_pipsLeft h_live_notHome S0_latestFault S0_latestFinding S1_points S1_home S1_men S1_turn S1_thrower S1_cube S1_owner S1_firms S1_kindsTold S1_places S1_crowds S1_pipsLeft S1_notHome) (mB hM hne) 0 rfl rfl [0, 1, 2, 3, 4, 5, 6, 7] rfl rfl rfl (Nat.le_of_ble_eq_true rfl) ⟨rfl, rfl⟩ ⟨Nat.le_of_ble_eq_true rfl, Nat.le_of_ble_eq_true rfl⟩ ⟨Nat.zero_le _, Nat.zero_le _⟩ hl.1 (st' := fun u5 => [.int u5]) (fun _ => rfl) (fun u5 H locs huu5 Y => ?_)
      replace hM := mS hM huu5
      refine r_if_ne (pc' := 25) X 56 11 rfl rfl (by decide) (fun c6 => ?_) (fun c6 => ?_)
      · replace hM := mE hM c6
        refine r_ldc (pc' := 58) X mw378 27 rfl rfl ?_
        exact RT ((-1000002 : Int32), (S1_points, S1_home, S1_men, S1_turn, S1_thrower, S1_cube, S1_owner, S1_firms, S1_kindsTold, S1_places, S1_crowds, S1_pipsLeft, S1_notHome), (S2_next, S2_kept, S2_before)) _ _ _ _ _ hM (Or.inl ⟨rfl, rfl, _, rfl⟩) (X.d (k := 28) rfl) Y
      · replace hM := mI hM c6
        refine r_aload_n (pc' := 26) X hl 0 rfl rfl 12 rfl rfl ?_
        refine r_get (pc' := 29) (v := .ref h_live) X Y 13 rfl rfl fRX7_26 0 rfl rfl ?_
        refine r_getN (pc' := 32) (v := .ref h_live_firms) X Y 14 rfl rfl fRX7_164 1 rfl rfl ?_
        refine r_iload_n (pc' := 33) X hl 1 rfl rfl 15 rfl rfl ?_
        obtain ⟨g7, hM⟩ := mG hM hne
        refine r_iald (pc' := 34) X Y 16 rfl rfl 2 rfl (vin g7) ?_
        refine r_aload_n (pc' := 35) X hl 0 rfl rfl 17 rfl rfl ?_
        refine r_get (pc' := 38) (v := .ref h_live) X Y 18 rfl rfl fRX7_26 0 rfl rfl ?_
        refine r_getN (pc' := 41) (v := .int S1_thrower) X Y 19 rfl rfl fRX7_168 1 rfl rfl ?_
        refine r_icmp_ne (pc' := 44) X 56 20 rfl rfl (by decide) (fun c8 => ?_) (fun c8 => ?_)
        · replace hM := mE hM c8
          refine r_ldc (pc' := 58) X mw378 27 rfl rfl ?_
          exact RT ((-1000002 : Int32), (S1_points, S1_home, S1_men, S1_turn, S1_thrower, S1_cube, S1_owner, S1_firms, S1_kindsTold, S1_places, S1_crowds, S1_pipsLeft, S1_notHome), (S2_next, S2_kept, S2_before)) _ _ _ _ _ hM (Or.inl ⟨rfl, rfl, _, rfl⟩) (X.d (k := 28) rfl) Y
        · replace hM := mI hM c8
          refine r_aload_n (pc' := 45) X hl 0 rfl rfl 21 rfl rfl ?_
          refine r_get (pc' := 48) (v := .ref h_live) X Y 22 rfl rfl fRX7_26 0 rfl rfl ?_
          refine r_iload_n (pc' := 49) X hl 1 rfl rfl 23 rfl rfl ?_
          refine r_iload_n (pc' := 50) X hl 2 rfl rfl 24 rfl rfl ?_
          refine r_callV0 (pc' := 53) (As := [.int i1, .int i2]) (rest := []) X Y 25 rfl rfl mRX7_171 (c_X2_canGo l G h_live h_live_firms h_live_kindsTold h_live_places h_live_crowds h_live_pipsLeft h_live_notHome S1_points S1_home S1_men S1_turn S1_thrower S1_cube S1_owner S1_firms S1_kindsTold S1_places S1_crowds S1_pipsLeft S1_notHome i1 i2) (mB hM hne) 1 rfl rfl [1, 2, 3, 4, 5, 6, 7] rfl rfl rfl (Nat.le_of_ble_eq_true rfl) ⟨rfl, rfl⟩ ⟨Nat.le_of_ble_eq_true rfl, Nat.le_of_ble_eq_true rfl⟩ ⟨Nat.zero_le _, Nat.zero_le _⟩ hl.1 (st' := fun u9 => [.int u9]) (fun _ => rfl) (fun u9 H locs huu9 Y => ?_)
          replace hM := mS hM huu9
          refine r_if_ne (pc' := 56) X 59 26 rfl rfl (by decide) (fun c10 => ?_) (fun c10 => ?_)
          · replace hM := mE hM c10
            refine r_aload_n (pc' := 60) X hl 0 rfl rfl 29 rfl rfl ?_
            refine r_get (pc' := 63) (v := .ref h_live) X Y 30 rfl rfl fRX7_26 0 rfl rfl ?_
            refine r_getN (pc' := 66) (v := .int S1_turn) X Y 31 rfl rfl fRX7_151 1 rfl rfl ?_
            refine r_sipush (pc' := 69) X (999 : Int32) 32 rfl rfl rfl ?_
            refine r_icmp_lt (pc' := 72) X 75 33 rfl rfl (by decide) (fun c11 => ?_) (fun c11 => ?_)
            · replace hM := mI hM c11
              refine r_aload_n (pc' := 76) X hl 0 rfl rfl 36 rfl rfl ?_
              refine r_get (pc' := 79) (v := .ref h_acts) X Y 37 rfl rfl fRX7_40 0 rfl rfl ?_
              refine r_aload_n (pc' := 80) X hl 0 rfl rfl 38 rfl rfl ?_
              refine r_get (pc' := 83) (v := .ref h_live) X Y 39 rfl rfl fRX7_26 0 rfl rfl ?_
              refine r_callV (pc' := 86) (As := [.ref h_live]) (rest := []) (wr := (wTF G h h_rows h_tape h_live h_draft h_images h_acts h_foresight h_asks S0_latestFault S0_latestFinding : va_W)) X Y 40 rfl rfl mRX7_155 (c_X0_keep l G h_acts h_live h_acts_before h_live_firms h_live_kindsTold h_live_places h_live_crowds h_live_pipsLeft h_live_notHome S2_next S2_kept S2_before S1_points S1_home S1_men S1_turn S1_thrower S1_cube S1_owner S1_firms S1_kindsTold S1_places S1_crowds S1_pipsLeft S1_notHome) (mB hM hne) 8 rfl rfl [8, 9, 1, 2, 3, 4, 5, 6, 7] [0] [0, 3, 4, 5, 6, 7, 8, 9, 1, 2] rfl rfl ⟨rfl, rfl, rfl⟩ rfl (w2 := fun u12 => wTF G h h_rows h_tape h_live h_draft h_images h_acts h_foresight h_asks S0_latestFault S0_latestFinding ++ wBD G h_live h_live_firms h_live_kindsTold h_live_places h_live_crowds h_live_pipsLeft h_live_notHome S1_points S1_home S1_men S1_turn S1_thrower S1_cube S1_owner S1_firms S1_kindsTold S1_places S1_crowds S1_pipsLeft S1_notHome ++ wAC G h_acts h_acts_before u12.1 u12.2.1 u12.2.2) (fun _ => rfl) rfl (Nat.le_of_ble_eq_true rfl) ⟨rfl, rfl⟩ ⟨Nat.le_of_ble_eq_true rfl, Nat.le_of_ble_eq_true rfl⟩ ⟨Nat.zero_le _, Nat.zero_le _⟩ hl.1 (st' := fun u12 => []) (fun _ => rfl) (fun u12 H locs huu12 Y => ?_)
              obtain ⟨u12_next, u12_kept, u12_before⟩ := u12
              replace Y : rY G A s (wTF G h h_rows h_tape h_live h_draft h_images h_acts h_foresight h_asks S0_latestFault S0_latestFinding ++ wBD G h_live h_live_firms h_live_kindsTold h_live_places h_live_crowds h_live_pipsLeft h_live_notHome S1_points S1_home S1_men S1_turn S1_thrower S1_cube S1_owner S1_firms S1_kindsTold S1_places S1_crowds S1_pipsLeft S1_notHome ++ wAC G h_acts h_acts_before u12_next u12_kept u12_before) H locs := Y
              replace hM := mS hM huu12
              show W p l e q_X7_move s m args below meth c H locs 0 0 Q (F0 m 86 ls [])
              refine r_aload_n (pc' := 87) X hl 0 rfl rfl 41 rfl rfl ?_
              refine r_get (pc' := 90) (v := .ref h_live) X Y 42 rfl rfl fRX7_26 0 rfl rfl ?_
              refine r_iload_n (pc' := 91) X hl 1 rfl rfl 43 rfl rfl ?_
              refine r_iload_n (pc' := 92) X hl 2 rfl rfl 44 rfl rfl ?_
              refine r_callV (pc' := 95) (As := [.int i1, .int i2]) (rest := []) (wr := (wTF G h h_rows h_tape h_live h_draft h_images h_acts h_foresight h_asks S0_latestFault S0_latestFinding ++ wAC G h_acts h_acts_before u12_next u12_kept u12_before : va_W)) X Y 45 rfl rfl mRX7_175 (c_X2_go l G h_live h_live_firms h_live_kindsTold h_live_places h_live_crowds h_live_pipsLeft h_live_notHome S1_points S1_home S1_men S1_turn S1_thrower S1_cube S1_owner S1_firms S1_kindsTold S1_places S1_crowds S1_pipsLeft S1_notHome i1 i2) (mB hM hne) 1 rfl rfl [1, 2, 3, 4, 5, 6, 7] [0, 8, 9] [0, 3, 4, 5, 6, 7, 8, 9, 1, 2] rfl rfl ⟨rfl, rfl, rfl⟩ rfl (w2 := fun u13 => wTF G h h_rows h_tape h_live h_draft h_images h_acts h_foresight h_asks S0_latestFault S0_latestFinding ++ wBD G h_live h_live_firms h_live_kindsTold h_live_places h_live_crowds h_live_pipsLeft h_live_notHome u13.2.1 u13.2.2.1 u13.2.2.2.1 u13.2.2.2.2.1 u13.2.2.2.2.2.1 u13.2.2.2.2.2.2.1 u13.2.2.2.2.2.2.2.1 u13.2.2.2.2.2.2.2.2.1 u13.2.2.2.2.2.2.2.2.2.1 u13.2.2.2.2.2.2.2.2.2.2.1 u13.2.2.2.2.2.2.2.2.2.2.2.1 u13.2.2.2.2.2.2.2.2.2.2.2.2.1 u13.2.2.2.2.2.2.2.2.2.2.2.2.2 ++ wAC G h_acts h_acts_before u12_next u12_kept u12_before) (fun _ => rfl) rfl (Nat.le_of_ble_eq_true rfl) ⟨rfl, rfl⟩ ⟨Nat.le_of_ble_eq_true rfl, Nat.le_of_ble_eq_true rfl⟩ ⟨Nat.zero_le _, Nat.zero_le _⟩ hl.1 (st' := fun u13 => [.int u13.1]) (fun _ => rfl) (fun u13 H locs huu13 Y => ?_)
              obtain ⟨u13_1, ⟨u13_2_points, u13_2_home, u13_2_men, u13_2_turn, u13_2_thrower, u13_2_cube, u13_2_owner, u13_2_firms, u13_2_kindsTold, u13_2_places, u13_2_crowds, u13_2_pipsLeft, u13_2_notHome⟩⟩ := u13
              replace Y : rY G A s (wTF G h h_rows h_tape h_live h_draft h_images h_acts h_foresight h_asks S0_latestFault S0_latestFinding ++ wBD G h_live h_live_firms h_live_kindsTold h_live_places h_live_crowds h_live_pipsLeft h_live_notHome u13_2_points u13_2_home u13_2_men u13_2_turn u13_2_thrower u13_2_cube u13_2_owner u13_2_firms u13_2_kindsTold u13_2_places u13_2_crowds u13_2_pipsLeft u13_2_notHome ++ wAC G h_acts h_acts_before u12_next u12_kept u12_before) H locs := Y
              replace hM := mS hM huu13
              show W p l e q_X7_move s m args below meth c H locs 0 0 Q (F0 m 95 ls [.int u13_1])
              refine r_pop (pc' := 96) X 46 rfl rfl rfl ?_
              refine r_aload_n (pc' := 97) X hl 0 rfl rfl 47 rfl rfl ?_
              refine r_get (pc' := 100) (v := .ref h_live) X Y 48 rfl rfl fRX7_26 0 rfl rfl ?_
              refine r_callV (pc' := 103) (As := []) (rest := []) (wr := (wTF G h h_rows h_tape h_live h_draft h_images h_acts h_foresight h_asks S0_latestFault S0_latestFinding ++ wAC G h_acts h_acts_before u12_next u12_kept u12_before : va_W)) X Y 49 rfl rfl mRX7_179 (c_X2_passThrow l G h_live h_live_firms h_live_kindsTold h_live_places h_live_crowds h_live_pipsLeft h_live_notHome u13_2_points u13_2_home u13_2_men u13_2_turn u13_2_thrower u13_2_cube u13_2_owner u13_2_firms u13_2_kindsTold u13_2_places u13_2_crowds u13_2_pipsLeft u13_2_notHome) (mB hM hne) 1 rfl rfl [1, 2, 3, 4, 5, 6, 7] [0, 8, 9] [0, 3, 4, 5, 6, 7, 8, 9, 1, 2] rfl rfl ⟨rfl, rfl, rfl⟩ rfl (w2 := fun u14 => wTF G h h_rows h_tape h_live h_draft h_images h_acts h_foresight h_asks S0_latestFault S0_latestFinding ++ wBD G h_live h_live_firms h_live_kindsTold h_live_places h_live_crowds h_live_pipsLeft h_live_notHome u14.1 u14.2.1 u14.2.2.1 u14.2.2.2.1 u14.2.2.2.2.1 u14.2.2.2.2.2.1 u14.2.2.2.2.2.2.1 u14.2.2.2.2.2.2.2.1 u14.2.2.2.2.2.2.2.2.1 u14.2.2.2.2.2.2.2.2.2.1 u14.2.2.2.2.2.2.2.2.2.2.1 u14.2.2.2.2.2.2.2.2.2.2.2.1 u14.2.2.2.2.2.2.2.2.2.2.2.2 ++ wAC G h_acts h_acts_before u12_next u12_kept u12_before) (fun _ => rfl) rfl (Nat.le_of_ble_eq_true rfl) ⟨rfl, rfl⟩ ⟨Nat.le_of_ble_eq_true rfl, Nat.le_of_ble_eq_true rfl⟩ ⟨Nat.zero_le _, Nat.zero_le _⟩ hl.1 (st' := fun u14 => []) (fun _ => rfl) (fun u14 H locs huu14 Y => ?_)
              obtain ⟨u14_points, u14_home, u14_men, u14_turn, u14_thrower, u14_cube, u14_owner, u14_firms, u14_kindsTold, u14_places, u14_crowds, u14_pipsLeft, u14_notHome⟩ := u14
              replace Y : rY G A s (wTF G h h_rows h_tape h_live h_draft h_images h_acts h_foresight h_asks S0_latestFault S0_latestFinding ++ wBD G h_live h_live_firms h_live_kindsTold h_live_places h_live_crowds h_live_pipsLeft h_live_notHome u14_points u14_home u14_men u14_turn u14_thrower u14_cube u14_owner u14_firms u14_kindsTold u14_places u14_crowds u14_pipsLeft u14_notHome ++ wAC G h_acts h_acts_before u12_next u12_kept u12_before) H locs := Y
              replace hM := mS hM huu14
              show W p l e q_X7_move s m args below meth c H locs 0 0 Q (F0 m 103 ls [])
              refine r_aload_n (pc' := 104) X hl 0 rfl rfl 50 rfl rfl ?_
              refine r_get (pc' := 107) (v := .ref h_live) X Y 51 rfl rfl fRX7_26 0 rfl rfl ?_
              refine r_aload_n (pc' := 108) X hl 0 rfl rfl 52 rfl rfl ?_
              refine r_get (pc' := 111) (v := .ref h_live) X Y 53 rfl rfl fRX7_26 0 rfl rfl ?_
              refine r_getN (pc' := 114) (v := .ref h_live_places) X Y 54 rfl rfl fRX7_182 1 rfl rfl ?_
              refine r_iload_n (pc' := 115) X hl 1 rfl rfl 55 rfl rfl ?_
              refine r_iald (pc' := 116) X Y 56 rfl rfl 4 rfl (vin g7) ?_
              refine r_callV0 (pc' := 119) (As := [.int (u14_places (i1).toNatClampNeg)]) (rest := []) X Y 57 rfl rfl mRX7_185 (c_X2_placeTold l G h_live h_live_firms h_live_kindsTold h_live_places h_live_crowds h_live_pipsLeft h_live_notHome u14_points u14_home u14_men u14_turn u14_thrower u14_cube u14_owner u14_firms u14_kindsTold u14_places u14_crowds u14_pipsLeft u14_notHome ((u14_places (i1).toNatClampNeg))) (mB hM hne) 1 rfl rfl [1, 2, 3, 4, 5, 6, 7] rfl rfl rfl (Nat.le_of_ble_eq_true rfl) ⟨rfl, rfl⟩ ⟨Nat.le_of_ble_eq_true rfl, Nat.le_of_ble_eq_true rfl⟩ ⟨Nat.zero_le _, Nat.zero_le _⟩ hl.1 (st' := fun u15 => [.int u15]) (fun _ => rfl) (fun u15 H locs huu15 Y => ?_)
              replace hM := mS hM huu15
              exact RT (u15, (u14_points, u14_home, u14_men, u14_turn, u14_thrower, u14_cube, u14_owner, u14_firms, u14_kindsTold, u14_places, u14_crowds, u14_pipsLeft, u14_notHome), (u12_next, u12_kept, u12_before)) _ _ _ _ _ hM (Or.inl ⟨rfl, rfl, _, rfl⟩) (X.d (k := 58) rfl) Y
            · replace hM := mE hM c11
              refine r_ldc (pc' := 74) X mw388 34 rfl rfl ?_
              exact RT ((-1000003 : Int32), (S1_points, S1_home, S1_men, S1_turn, S1_thrower, S1_cube, S1_owner, S1_firms, S1_kindsTold, S1_places, S1_crowds, S1_pipsLeft, S1_notHome), (S2_next, S2_kept, S2_before)) _ _ _ _ _ hM (Or.inl ⟨rfl, rfl, _, rfl⟩) (X.d (k := 35) rfl) Y
          · replace hM := mI hM c10
            refine r_ldc (pc' := 58) X mw378 27 rfl rfl ?_
            exact RT ((-1000002 : Int32), (S1_points, S1_home, S1_men, S1_turn, S1_thrower, S1_cube, S1_owner, S1_firms, S1_kindsTold, S1_places, S1_crowds, S1_pipsLeft, S1_notHome), (S2_next, S2_kept, S2_before)) _ _ _ _ _ hM (Or.inl ⟨rfl, rfl, _, rfl⟩) (X.d (k := 28) rfl) Y
    · replace hM := mI hM c4
      refine r_ldc (pc' := 17) X mw324 7 rfl rfl ?_
      exact RT ((-1000001 : Int32), (S1_points, S1_home, S1_men, S1_turn, S1_thrower, S1_cube, S1_owner, S1_firms, S1_kindsTold, S1_places, S1_crowds, S1_pipsLeft, S1_notHome), (S2_next, S2_kept, S2_before)) _ _ _ _ _ hM (Or.inl ⟨rfl, rfl, _, rfl⟩) (X.d (k := 8) rfl) Y

def M_X7_twice (S0 : TF) (S1 : BD) (S2 : AC) : Option (Int32 × BD × AC) :=
  ((M_X7_hasNoTable S0 S1).bind (fun u1 => (if u1 = 0 then ((M_X7_isOver S0 S1).bind (fun u3 => (if u3 = 0 then (if (bd_owner S1) = ((1 : Int32) - (bd_thrower S1)) then (some ((-1000002 : Int32), S1, S2)) else (if (bd_cube S1) < (64 : Int32) then ((M_X0_keep S2 S1).bind (fun u7 => (some (((2 : Int32) * (bd_cube S1)), (bd_s_owner (bd_s_cube S1 ((2 : Int32) * (bd_cube S1))) ((1 : Int32) - (bd_thrower S1))), u7)))) else (some ((-1000002 : Int32), S1, S2)))) else (some ((-1000002 : Int32), S1, S2))))) else (some ((-1000002 : Int32), S1, S2)))))
def q_X7_twice : Room := { frames := 5, cells := 0, slots := 0, locals := 144 }
set_option maxHeartbeats 4000000 in
set_option maxRecDepth 100000 in
theorem c_X7_twice (l : Launch) (G : gT) (h h_rows h_tape h_live h_draft h_images h_acts h_foresight h_asks h_live_firms h_live_kindsTold h_live_places h_live_crowds h_live_pipsLeft h_live_notHome h_acts_before : Nat) (S0_latestFault : Int32) (S0_latestFinding : Int32) (S1_points : Int32) (S1_home : Int32) (S1_men : Int32) (S1_turn : Int32) (S1_thrower : Int32) (S1_cube : Int32) (S1_owner : Int32) (S1_firms : Nat → Int32) (S1_kindsTold : Nat → Int32) (S1_places : Nat → Int32) (S1_crowds : Nat → Int32) (S1_pipsLeft : Nat → Int32) (S1_notHome : Nat → Int32) (S2_next : Int32) (S2_kept : Int32) (S2_before : Nat → Int32) : CT l G yX7_twice cX7_twice 1 (some .int) q_X7_twice [.ref h] (wTF G h h_rows h_tape h_live h_draft h_images h_acts h_foresight h_asks S0_latestFault S0_latestFinding ++ wBD G h_live h_live_firms h_live_kindsTold h_live_places h_live_crowds h_live_pipsLeft h_live_notHome S1_points S1_home S1_men S1_turn S1_thrower S1_cube S1_owner S1_firms S1_kindsTold S1_places S1_crowds S1_pipsLeft S1_notHome ++ wAC G h_acts h_acts_before S2_next S2_kept S2_before) (M_X7_twice (S0_latestFault, S0_latestFinding) (S1_points, S1_home, S1_men, S1_turn, S1_thrower, S1_cube, S1_owner, S1_firms, S1_kindsTold, S1_places, S1_crowds, S1_pipsLeft, S1_notHome) (S2_next, S2_kept, S2_before)) (fun u => some (.int u.1)) (fun u => wTF G h h_rows h_tape h_live h_draft h_images h_acts h_foresight h_asks S0_latestFault S0_latestFinding ++ wBD G h_live h_live_firms h_live_kindsTold h_live_places h_live_crowds h_live_pipsLeft h_live_notHome u.2.1.1 u.2.1.2.1 u.2.1.2.2.1 u.2.1.2.2.2.1 u.2.1.2.2.2.2.1 u.2.1.2.2.2.2.2.1 u.2.1.2.2.2.2.2.2.1 u.2.1.2.2.2.2.2.2.2.1 u.2.1.2.2.2.2.2.2.2.2.1 u.2.1.2.2.2.2.2.2.2.2.2.1 u.2.1.2.2.2.2.2.2.2.2.2.2.1 u.2.1.2.2.2.2.2.2.2.2.2.2.2.1 u.2.1.2.2.2.2.2.2.2.2.2.2.2.2 ++ wAC G h_acts h_acts_before u.2.2.1 u.2.2.2.1 u.2.2.2.2) := by
  refine CT.of (P := PX7_twice) (by decide) dPX7_twice (Nat.le_of_ble_eq_true rfl) ?_
  intro p e s m args below meth c A Q ls hne X RT Y hl
  have hl : lv_has ls 1 [(0, .ref h)] := hl
  generalize hM : M_X7_twice (S0_latestFault, S0_latestFinding) (S1_points, S1_home, S1_men, S1_turn, S1_thrower, S1_cube, S1_owner, S1_firms, S1_kindsTold, S1_places, S1_crowds, S1_pipsLeft, S1_notHome) (S2_next, S2_kept, S2_before) = MM at hne RT
  unfold M_X7_twice at hM
  refine r_aload_n (pc' := 1) X hl 0 rfl rfl 0 rfl rfl ?_
  refine r_callV0 (pc' := 4) (As := []) (rest := []) X Y 1 rfl rfl mRX7_142 (c_X7_hasNoTable l G h h_rows h_tape h_live h_draft h_images h_acts h_foresight h_asks h_live_firms h_live_kindsTold h_live_places h_live_crowds h_live_pipsLeft h_live_notHome S0_latestFault S0_latestFinding S1_points S1_home S1_men S1_turn S1_thrower S1_cube S1_owner S1_firms S1_kindsTold S1_places S1_crowds S1_pipsLeft S1_notHome) (mB hM hne) 0 rfl rfl [0, 1, 2, 3, 4, 5, 6, 7] rfl rfl rfl (Nat.le_of_ble_eq_true rfl) ⟨rfl, rfl⟩ ⟨Nat.le_of_ble_eq_true rfl, Nat.le_of_ble_eq_true rfl⟩ ⟨Nat.zero_le _, Nat.zero_le _⟩ hl.1 (st' := fun u1 => [.int u1]) (fun _ => rfl) (fun u1 H locs huu1 Y => ?_)
  replace hM := mS hM huu1
  refine r_if_ne (pc' := 7) X 14 2 rfl rfl (by decide) (fun c2 => ?_) (fun c2 => ?_)
  · replace hM := mE hM c2
    refine r_ldc (pc' := 16) X mw378 6 rfl rfl ?_
    exact RT ((-1000002 : Int32), (S1_points, S1_home, S1_men, S1_turn, S1_thrower, S1_cube, S1_owner, S1_firms, S1_kindsTold, S1_places, S1_crowds, S1_pipsLeft, S1_notHome), (S2_next, S2_kept, S2_before)) _ _ _ _ _ hM (Or.inl ⟨rfl, rfl, _, rfl⟩) (X.d (k := 7) rfl) Y
  · replace hM := mI hM c2
    refine r_aload_n (pc' := 8) X hl 0 rfl rfl 3 rfl rfl ?_
    refine r_callV0 (pc' := 11) (As := []) (rest := []) X Y 4 rfl rfl mRX7_148 (c_X7_isOver l G h h_rows h_tape h_live h_draft h_images h_acts h_foresight h_asks h_live_firms h_live_kindsTold h_live_places h_live_crowds h_live_pipsLeft h_live_notHome S0_latestFault S0_latestFinding S1_points S1_home S1_men S1_turn S1_thrower S1_cube S1_owner S1_firms S1_kindsTold S1_places S1_crowds S1_pipsLeft S1_notHome) (mB hM hne) 0 rfl rfl [0, 1, 2, 3, 4, 5, 6, 7] rfl rfl rfl (Nat.le_of_ble_eq_true rfl) ⟨rfl, rfl⟩ ⟨Nat.le_of_ble_eq_true rfl, Nat.le_of_ble_eq_true rfl⟩ ⟨Nat.zero_le _, Nat.zero_le _⟩ hl.1 (st' := fun u3 => [.int u3]) (fun _ => rfl) (fun u3 H locs huu3 Y => ?_)
    replace hM := mS hM huu3
    refine r_if_eq (pc' := 14) X 17 5 rfl rfl (by decide) (fun c4 => ?_) (fun c4 => ?_)
    · replace hM := mI hM c4
      refine r_aload_n (pc' := 18) X hl 0 rfl rfl 8 rfl rfl ?_
      refine r_get (pc' := 21) (v := .ref h_live) X Y 9 rfl rfl fRX7_26 0 rfl rfl ?_
      refine r_getN (pc' := 24) (v := .int S1_owner) X Y 10 rfl rfl fRX7_188 1 rfl rfl ?_
      refine r_iconst (pc' := 25) X (1 : Int32) 11 rfl rfl rfl ?_
      refine r_aload_n (pc' := 26) X hl 0 rfl rfl 12 rfl rfl ?_
      refine r_get (pc' := 29) (v := .ref h_live) X Y 13 rfl rfl fRX7_26 0 rfl rfl ?_
      refine r_getN (pc' := 32) (v := .int S1_thrower) X Y 14 rfl rfl fRX7_168 1 rfl rfl ?_
      refine r_isub (pc' := 33) X 15 rfl rfl ?_
      refine r_icmp_eq (pc' := 36) X 48 16 rfl rfl (by decide) (fun c5 => ?_) (fun c5 => ?_)
      · replace hM := mI hM c5
        refine r_ldc (pc' := 50) X mw378 22 rfl rfl ?_
        exact RT ((-1000002 : Int32), (S1_points, S1_home, S1_men, S1_turn, S1_thrower, S1_cube, S1_owner, S1_firms, S1_kindsTold, S1_places, S1_crowds, S1_pipsLeft, S1_notHome), (S2_next, S2_kept, S2_before)) _ _ _ _ _ hM (Or.inl ⟨rfl, rfl, _, rfl⟩) (X.d (k := 23) rfl) Y
      · replace hM := mE hM c5
        refine r_aload_n (pc' := 37) X hl 0 rfl rfl 17 rfl rfl ?_
        refine r_get (pc' := 40) (v := .ref h_live) X Y 18 rfl rfl fRX7_26 0 rfl rfl ?_
        refine r_getN (pc' := 43) (v := .int S1_cube) X Y 19 rfl rfl fRX7_191 1 rfl rfl ?_
        refine r_bipush (pc' := 45) X (64 : Int32) 20 rfl rfl rfl ?_
        refine r_icmp_lt (pc' := 48) X 51 21 rfl rfl (by decide) (fun c6 => ?_) (fun c6 => ?_)
        · replace hM := mI hM c6
          refine r_aload_n (pc' := 52) X hl 0 rfl rfl 24 rfl rfl ?_
          refine r_get (pc' := 55) (v := .ref h_acts) X Y 25 rfl rfl fRX7_40 0 rfl rfl ?_
          refine r_aload_n (pc' := 56) X hl 0 rfl rfl 26 rfl rfl ?_
          refine r_get (pc' := 59) (v := .ref h_live) X Y 27 rfl rfl fRX7_26 0 rfl rfl ?_
          refine r_callV (pc' := 62) (As := [.ref h_live]) (rest := []) (wr := (wTF G h h_rows h_tape h_live h_draft h_images h_acts h_foresight h_asks S0_latestFault S0_latestFinding : va_W)) X Y 28 rfl rfl mRX7_155 (c_X0_keep l G h_acts h_live h_acts_before h_live_firms h_live_kindsTold h_live_places h_live_crowds h_live_pipsLeft h_live_notHome S2_next S2_kept S2_before S1_points S1_home S1_men S1_turn S1_thrower S1_cube S1_owner S1_firms S1_kindsTold S1_places S1_crowds S1_pipsLeft S1_notHome) (mB hM hne) 8 rfl rfl [8, 9, 1, 2, 3, 4, 5, 6, 7] [0] [0, 3, 4, 5, 6, 7, 8, 9, 1, 2] rfl rfl ⟨rfl, rfl, rfl⟩ rfl (w2 := fun u7 => wTF G h h_rows h_tape h_live h_draft h_images h_acts h_foresight h_asks S0_latestFault S0_latestFinding ++ wBD G h_live h_live_firms h_live_kindsTold h_live_places h_live_crowds h_live_pipsLeft h_live_notHome S1_points S1_home S1_men S1_turn S1_thrower S1_cube S1_owner S1_firms S1_kindsTold S1_places S1_crowds S1_pipsLeft S1_notHome ++ wAC G h_acts h_acts_before u7.1 u7.2.1 u7.2.2) (fun _ => rfl) rfl (Nat.le_of_ble_eq_true rfl) ⟨rfl, rfl⟩ ⟨Nat.le_of_ble_eq_true rfl, Nat.le_of_ble_eq_true rfl⟩ ⟨Nat.zero_le _, Nat.zero_le _⟩ hl.1 (st' := fun u7 => []) (fun _ => rfl) (fun u7 H locs huu7 Y => ?_)
          obtain ⟨u7_next, u7_kept, u7_before⟩ := u7
          replace Y : rY G A s (wTF G h h_rows h_tape h_live h_draft h_images h_acts h_foresight h_asks S0_latestFault S0_latestFinding ++ wBD G h_live h_live_firms h_live_kindsTold h_live_places h_live_crowds h_live_pipsLeft h_live_notHome S1_points S1_home S1_men S1_turn S1_thrower S1_cube S1_owner S1_firms S1_kindsTold S1_places S1_crowds S1_pipsLeft S1_notHome ++ wAC G h_acts h_acts_before u7_next u7_kept u7_before) H locs := Y
          replace hM := mS hM huu7
          show W p l e q_X7_twice s m args below meth c H locs 0 0 Q (F0 m 62 ls [])
          refine r_aload_n (pc' := 63) X hl 0 rfl rfl 29 rfl rfl ?_
          refine r_get (pc' := 66) (v := .ref h_live) X Y 30 rfl rfl fRX7_26 0 rfl rfl ?_
          refine r_iconst (pc' := 67) X (2 : Int32) 31 rfl rfl rfl ?_
          refine r_aload_n (pc' := 68) X hl 0 rfl rfl 32 rfl rfl ?_
          refine r_get (pc' := 71) (v := .ref h_live) X Y 33 rfl rfl fRX7_26 0 rfl rfl ?_
          refine r_getN (pc' := 74) (v := .int S1_cube) X Y 34 rfl rfl fRX7_191 1 rfl rfl ?_
          refine r_imul (pc' := 75) X 35 rfl rfl ?_
          refine r_putN (pc' := 78) (ws' := wTF G h h_rows h_tape h_live h_draft h_images h_acts h_foresight h_asks S0_latestFault S0_latestFinding ++ wBD G h_live h_live_firms h_live_kindsTold h_live_places h_live_crowds h_live_pipsLeft h_live_notHome S1_points S1_home S1_men S1_turn S1_thrower ((2 : Int32) * S1_cube) S1_owner S1_firms S1_kindsTold S1_places S1_crowds S1_pipsLeft S1_notHome ++ wAC G h_acts h_acts_before u7_next u7_kept u7_before) X Y 36 rfl rfl fRX7_191 1 rfl rfl rfl (Nat.le_of_ble_eq_true rfl) rfl (fun H locs Y => ?_)
          refine r_aload_n (pc' := 79) X hl 0 rfl rfl 37 rfl rfl ?_
          refine r_get (pc' := 82) (v := .ref h_live) X Y 38 rfl rfl fRX7_26 0 rfl rfl ?_
          refine r_iconst (pc' := 83) X (1 : Int32) 39 rfl rfl rfl ?_
          refine r_aload_n (pc' := 84) X hl 0 rfl rfl 40 rfl rfl ?_
          refine r_get (pc' := 87) (v := .ref h_live) X Y 41 rfl rfl fRX7_26 0 rfl rfl ?_
          refine r_getN (pc' := 90) (v := .int S1_thrower) X Y 42 rfl rfl fRX7_168 1 rfl rfl ?_
          refine r_isub (pc' := 91) X 43 rfl rfl ?_
          refine r_putN (pc' := 94) (ws' := wTF G h h_rows h_tape h_live h_draft h_images h_acts h_foresight h_asks S0_latestFault S0_latestFinding ++ wBD G h_live h_live_firms h_live_kindsTold h_live_places h_live_crowds h_live_pipsLeft h_live_notHome S1_points S1_home S1_men S1_turn S1_thrower ((2 : Int32) * S1_cube) ((1 : Int32) - S1_thrower) S1_firms S1_kindsTold S1_places S1_crowds S1_pipsLeft S1_notHome ++ wAC G h_acts h_acts_before u7_next u7_kept u7_before) X Y 44 rfl rfl fRX7_188 1 rfl rfl rfl (Nat.le_of_ble_eq_true rfl) rfl (fun H locs Y => ?_)
          refine r_aload_n (pc' := 95) X hl 0 rfl rfl 45 rfl rfl ?_
          refine r_get (pc' := 98) (v := .ref h_live) X Y 46 rfl rfl fRX7_26 0 rfl rfl ?_
          refine r_getN (pc' := 101) (v := .int ((2 : Int32) * S1_cube)) X Y 47 rfl rfl fRX7_191 1 rfl rfl ?_
          exact RT (((2 : Int32) * S1_cube), (S1_points, S1_home, S1_men, S1_turn, S1_thrower, ((2 : Int32) * S1_cube), ((1 : Int32) - S1_thrower), S1_firms, S1_kindsTold, S1_places, S1_crowds, S1_pipsLeft, S1_notHome), (u7_next, u7_kept, u7_before)) _ _ _ _ _ hM (Or.inl ⟨rfl, rfl, _, rfl⟩) (X.d (k := 48) rfl) Y
        · replace hM := mE hM c6
          refine r_ldc (pc' := 50) X mw378 22 rfl rfl ?_
          exact RT ((-1000002 : Int32), (S1_points, S1_home, S1_men, S1_turn, S1_thrower, S1_cube, S1_owner, S1_firms, S1_kindsTold, S1_places, S1_crowds, S1_pipsLeft, S1_notHome), (S2_next, S2_kept, S2_before)) _ _ _ _ _ hM (Or.inl ⟨rfl, rfl, _, rfl⟩) (X.d (k := 23) rfl) Y
    · replace hM := mE hM c4
      refine r_ldc (pc' := 16) X mw378 6 rfl rfl ?_
      exact RT ((-1000002 : Int32), (S1_points, S1_home, S1_men, S1_turn, S1_thrower, S1_cube, S1_owner, S1_firms, S1_kindsTold, S1_places, S1_crowds, S1_pipsLeft, S1_notHome), (S2_next, S2_kept, S2_before)) _ _ _ _ _ hM (Or.inl ⟨rfl, rfl, _, rfl⟩) (X.d (k := 7) rfl) Y

def M_X7_lay (S0 : TF) (S1 : BD) (S2 : AC) (i1 : Int32) (i2 : Int32) : Option (Int32 × BD × AC) :=
  ((M_X7_isMan S0 S1 i1).bind (fun u1 => (if u1 = 0 then (some ((-1000001 : Int32), S1, S2)) else ((M_X2_bar S1).bind (fun u3 => ((M_X7_within i2 (0 : Int32) u3).bind (fun u4 => (if u4 = 0 then (some ((-1000001 : Int32), S1, S2)) else (if inb i1 8 = true then (if ((bd_places S1) (i1).toNatClampNeg) = i2 then (some ((-1000002 : Int32), S1, S2)) else ((M_X0_keep S2 S1).bind (fun u8 => ((M_X2_put S1 i1 i2).bind (fun u9 => (some (((bd_places S1) (i1).toNatClampNeg), u9, u8))))))) else none)))))))))
def q_X7_lay : Room := { frames := 4, cells := 0, slots := 0, locals := 128 }
set_option maxHeartbeats 4000000 in
set_option maxRecDepth 100000 in
theorem c_X7_lay (l : Launch) (G : gT) (h h_rows h_tape h_live h_draft h_images h_acts h_foresight h_asks h_live_firms h_live_kindsTold h_live_places h_live_crowds h_live_pipsLeft h_live_notHome h_acts_before : Nat) (S0_latestFault : Int32) (S0_latestFinding : Int32) (S1_points : Int32) (S1_home : Int32) (S1_men : Int32) (S1_turn : Int32) (S1_thrower : Int32) (S1_cube : Int32) (S1_owner : Int32) (S1_firms : Nat → Int32) (S1_kindsTold : Nat → Int32) (S1_places : Nat → Int32) (S1_crowds : Nat → Int32) (S1_pipsLeft : Nat → Int32) (S1_notHome : Nat → Int32) (S2_next : Int32) (S2_kept : Int32) (S2_before : Nat → Int32) (i1 : Int32) (i2 : Int32) : CT l G yX7_lay cX7_lay 4 (some .int) q_X7_lay [.ref h, .int i1, .int i2] (wTF G h h_rows h_tape h_live h_draft h_images h_acts h_foresight h_asks S0_latestFault S0_latestFinding ++ wBD G h_live h_live_firms h_live_kindsTold h_live_places h_live_crowds h_live_pipsLeft h_live_notHome S1_points S1_home S1_men S1_turn S1_thrower S1_cube S1_owner S1_firms S1_kindsTold S1_places S1_crowds S1_pipsLeft S1_notHome ++ wAC G h_acts h_acts_before S2_next S2_kept S2_before) (M_X7_lay (S0_latestFault, S0_latestFinding) (S1_points, S1_home, S1_men, S1_turn, S1_thrower, S1_cube, S1_owner, S1_firms, S1_kindsTold, S1_places, S1_crowds, S1_pipsLeft, S1_notHome) (S2_next, S2_kept, S2_before) i1 i2) (fun u => some (.int u.1)) (fun u => wTF G h h_rows h_tape h_live h_draft h_images h_acts h_foresight h_asks S0_latestFault S0_latestFinding ++ wBD G h_live h_live_firms h_live_kindsTold h_live_places h_live_crowds h_live_pipsLeft h_live_notHome u.2.1.1 u.2.1.2.1 u.2.1.2.2.1 u.2.1.2.2.2.1 u.2.1.2.2.2.2.1 u.2.1.2.2.2.2.2.1 u.2.1.2.2.2.2.2.2.1 u.2.1.2.2.2.2.2.2.2.1 u.2.1.2.2.2.2.2.2.2.2.1 u.2.1.2.2.2.2.2.2.2.2.2.1 u.2.1.2.2.2.2.2.2.2.2.2.2.1 u.2.1.2.2.2.2.2.2.2.2.2.2.2.1 u.2.1.2.2.2.2.2.2.2.2.2.2.2.2 ++ wAC G h_acts h_acts_before u.2.2.1 u.2.2.2.1 u.2.2.2.2) := by
  refine CT.of (P := PX7_lay) (by decide) dPX7_lay (Nat.le_of_ble_eq_true rfl) ?_
  intro p e s m args below meth c A Q ls hne X RT Y hl
  have hl : lv_has ls 4 [(0, .ref h), (1, .int i1), (2, .int i2)] := hl
  generalize hM : M_X7_lay (S0_latestFault, S0_latestFinding) (S1_points, S1_home, S1_men, S1_turn, S1_thrower, S1_cube, S1_owner, S1_firms, S1_kindsTold, S1_places, S1_crowds, S1_pipsLeft, S1_notHome) (S2_next, S2_kept, S2_before) i1 i2 = MM at hne RT
  unfold M_X7_lay at hM
  refine r_aload_n (pc' := 1) X hl 0 rfl rfl 0 rfl rfl ?_
  refine r_iload_n (pc' := 2) X hl 1 rfl rfl 1 rfl rfl ?_
  refine r_callV0 (pc' := 5) (As := [.int i1]) (rest := []) X Y 2 rfl rfl mRX7_161 (c_X7_isMan l G h h_rows h_tape h_live h_draft h_images h_acts h_foresight h_asks h_live_firms h_live_kindsTold h_live_places h_live_crowds h_live_pipsLeft h_live_notHome S0_latestFault S0_latestFinding S1_points S1_home S1_men S1_turn S1_thrower S1_cube S1_owner S1_firms S1_kindsTold S1_places S1_crowds S1_pipsLeft S1_notHome i1) (mB hM hne) 0 rfl rfl [0, 1, 2, 3, 4, 5, 6, 7] rfl rfl rfl (Nat.le_of_ble_eq_true rfl) ⟨rfl, rfl⟩ ⟨Nat.le_of_ble_eq_true rfl, Nat.le_of_ble_eq_true rfl⟩ ⟨Nat.zero_le _, Nat.zero_le _⟩ hl.1 (st' := fun u1 => [.int u1]) (fun _ => rfl) (fun u1 H locs huu1 Y => ?_)
  replace hM := mS hM huu1
  refine r_if_eq (pc' := 8) X 23 3 rfl rfl (by decide) (fun c2 => ?_) (fun c2 => ?_)
  · replace hM := mI hM c2
    refine r_ldc (pc' := 25) X mw324 11 rfl rfl ?_
    exact RT ((-1000001 : Int32), (S1_points, S1_home, S1_men, S1_turn, S1_thrower, S1_cube, S1_owner, S1_firms, S1_kindsTold, S1_places, S1_crowds, S1_pipsLeft, S1_notHome), (S2_next, S2_kept, S2_before)) _ _ _ _ _ hM (Or.inl ⟨rfl, rfl, _, rfl⟩) (X.d (k := 12) rfl) Y
  · replace hM := mE hM c2
    refine r_iload_n (pc' := 9) X hl 2 rfl rfl 4 rfl rfl ?_
    refine r_iconst (pc' := 10) X (0 : Int32) 5 rfl rfl rfl ?_
    refine r_aload_n (pc' := 11) X hl 0 rfl rfl 6 rfl rfl ?_
    refine r_get (pc' := 14) (v := .ref h_live) X Y 7 rfl rfl fRX7_26 0 rfl rfl ?_
    refine r_callV0 (pc' := 17) (As := []) (rest := [.int (0 : Int32), .int i2]) X Y 8 rfl rfl mRX7_194 (c_X2_bar l G h_live h_live_firms h_live_kindsTold h_live_places h_live_crowds h_live_pipsLeft h_live_notHome S1_points S1_home S1_men S1_turn S1_thrower S1_cube S1_owner S1_firms S1_kindsTold S1_places S1_crowds S1_pipsLeft S1_notHome) (mB hM hne) 1 rfl rfl [1, 2, 3, 4, 5, 6, 7] rfl rfl rfl (Nat.le_of_ble_eq_true rfl) ⟨rfl, rfl⟩ ⟨Nat.le_of_ble_eq_true rfl, Nat.le_of_ble_eq_true rfl⟩ ⟨Nat.zero_le _, Nat.zero_le _⟩ hl.1 (st' := fun u3 => [.int u3, .int (0 : Int32), .int i2]) (fun _ => rfl) (fun u3 H locs huu3 Y => ?_)
    replace hM := mS hM huu3
    refine r_callS0 (pc' := 20) (As := [.int i2, .int (0 : Int32), .int u3]) (rest := []) X Y 9 rfl rfl mRX7_62 (c_X7_within l G i2 (0 : Int32) u3) (mB hM hne) rfl [] rfl rfl rfl (Nat.le_of_ble_eq_true rfl) ⟨rfl, rfl⟩ ⟨Nat.le_of_ble_eq_true rfl, Nat.le_of_ble_eq_true rfl⟩ ⟨Nat.zero_le _, Nat.zero_le _⟩ hl.1 (st' := fun u4 => [.int u4]) (fun _ => rfl) (fun u4 H locs huu4 Y => ?_)
    replace hM := mS hM huu4
    refine r_if_ne (pc' := 23) X 26 10 rfl rfl (by decide) (fun c5 => ?_) (fun c5 => ?_)
    · replace hM := mE hM c5
      refine r_aload_n (pc' := 27) X hl 0 rfl rfl 13 rfl rfl ?_
      refine r_get (pc' := 30) (v := .ref h_live) X Y 14 rfl rfl fRX7_26 0 rfl rfl ?_
      refine r_getN (pc' := 33) (v := .ref h_live_places) X Y 15 rfl rfl fRX7_182 1 rfl rfl ?_
      refine r_iload_n (pc' := 34) X hl 1 rfl rfl 16 rfl rfl ?_
      obtain ⟨g6, hM⟩ := mG hM hne
      refine r_iald (pc' := 35) X Y 17 rfl rfl 4 rfl (vin g6) ?_
      refine r_istore_n (pc' := 36) (L' := [(3, .int (S1_places (i1).toNatClampNeg)), (0, .ref h), (1, .int i1), (2, .int i2)]) X hl rfl 18 rfl rfl (by decide) rfl (fun ls hl => ?_)
      refine r_iload_n (pc' := 37) X hl 0 rfl rfl 19 rfl rfl ?_
      refine r_iload_n (pc' := 38) X hl 3 rfl rfl 20 rfl rfl ?_
      refine r_icmp_ne (pc' := 41) X 44 21 rfl rfl (by decide) (fun c7 => ?_) (fun c7 => ?_)
      · replace hM := mE hM c7
        refine r_aload_n (pc' := 45) X hl 1 rfl rfl 24 rfl rfl ?_
        refine r_get (pc' := 48) (v := .ref h_acts) X Y 25 rfl rfl fRX7_40 0 rfl rfl ?_
        refine r_aload_n (pc' := 49) X hl 1 rfl rfl 26 rfl rfl ?_
        refine r_get (pc' := 52) (v := .ref h_live) X Y 27 rfl rfl fRX7_26 0 rfl rfl ?_
        refine r_callV (pc' := 55) (As := [.ref h_live]) (rest := []) (wr := (wTF G h h_rows h_tape h_live h_draft h_images h_acts h_foresight h_asks S0_latestFault S0_latestFinding : va_W)) X Y 28 rfl rfl mRX7_155 (c_X0_keep l G h_acts h_live h_acts_before h_live_firms h_live_kindsTold h_live_places h_live_crowds h_live_pipsLeft h_live_notHome S2_next S2_kept S2_before S1_points S1_home S1_men S1_turn S1_thrower S1_cube S1_owner S1_firms S1_kindsTold S1_places S1_crowds S1_pipsLeft S1_notHome) (mB hM hne) 8 rfl rfl [8, 9, 1, 2, 3, 4, 5, 6, 7] [0] [0, 3, 4, 5, 6, 7, 8, 9, 1, 2] rfl rfl ⟨rfl, rfl, rfl⟩ rfl (w2 := fun u8 => wTF G h h_rows h_tape h_live h_draft h_images h_acts h_foresight h_asks S0_latestFault S0_latestFinding ++ wBD G h_live h_live_firms h_live_kindsTold h_live_places h_live_crowds h_live_pipsLeft h_live_notHome S1_points S1_home S1_men S1_turn S1_thrower S1_cube S1_owner S1_firms S1_kindsTold S1_places S1_crowds S1_pipsLeft S1_notHome ++ wAC G h_acts h_acts_before u8.1 u8.2.1 u8.2.2) (fun _ => rfl) rfl (Nat.le_of_ble_eq_true rfl) ⟨rfl, rfl⟩ ⟨Nat.le_of_ble_eq_true rfl, Nat.le_of_ble_eq_true rfl⟩ ⟨Nat.zero_le _, Nat.zero_le _⟩ hl.1 (st' := fun u8 => []) (fun _ => rfl) (fun u8 H locs huu8 Y => ?_)
        obtain ⟨u8_next, u8_kept, u8_before⟩ := u8
        replace Y : rY G A s (wTF G h h_rows h_tape h_live h_draft h_images h_acts h_foresight h_asks S0_latestFault S0_latestFinding ++ wBD G h_live h_live_firms h_live_kindsTold h_live_places h_live_crowds h_live_pipsLeft h_live_notHome S1_points S1_home S1_men S1_turn S1_thrower S1_cube S1_owner S1_firms S1_kindsTold S1_places S1_crowds S1_pipsLeft S1_notHome ++ wAC G h_acts h_acts_before u8_next u8_kept u8_before) H locs := Y
        replace hM := mS hM huu8
        show W p l e q_X7_lay s m args below meth c H locs 0 0 Q (F0 m 55 ls [])
        refine r_aload_n (pc' := 56) X hl 1 rfl rfl 29 rfl rfl ?_
        refine r_get (pc' := 59) (v := .ref h_live) X Y 30 rfl rfl fRX7_26 0 rfl rfl ?_
        refine r_iload_n (pc' := 60) X hl 2 rfl rfl 31 rfl rfl ?_
        refine r_iload_n (pc' := 61) X hl 3 rfl rfl 32 rfl rfl ?_
        refine r_callV (pc' := 64) (As := [.int i1, .int i2]) (rest := []) (wr := (wTF G h h_rows h_tape h_live h_draft h_images h_acts h_foresight h_asks S0_latestFault S0_latestFinding ++ wAC G h_acts h_acts_before u8_next u8_kept u8_before : va_W)) X Y 33 rfl rfl mRX7_198 (c_X2_put l G h_live h_live_firms h_live_kindsTold h_live_places h_live_crowds h_live_pipsLeft h_live_notHome S1_points S1_home S1_men S1_turn S1_thrower S1_cube S1_owner S1_firms S1_kindsTold S1_places S1_crowds S1_pipsLeft S1_notHome i1 i2) (mB hM hne) 1 rfl rfl [1, 2, 3, 4, 5, 6, 7] [0, 8, 9] [0, 3, 4, 5, 6, 7, 8, 9, 1, 2] rfl rfl ⟨rfl, rfl, rfl⟩ rfl (w2 := fun u9 => wTF G h h_rows h_tape h_live h_draft h_images h_acts h_foresight h_asks S0_latestFault S0_latestFinding ++ wBD G h_live h_live_firms h_live_kindsTold h_live_places h_live_crowds h_live_pipsLeft h_live_notHome u9.1 u9.2.1 u9.2.2.1 u9.2.2.2.1 u9.2.2.2.2.1 u9.2.2.2.2.2.1 u9.2.2.2.2.2.2.1 u9.2.2.2.2.2.2.2.1 u9.2.2.2.2.2.2.2.2.1 u9.2.2.2.2.2.2.2.2.2.1 u9.2.2.2.2.2.2.2.2.2.2.1 u9.2.2.2.2.2.2.2.2.2.2.2.1 u9.2.2.2.2.2.2.2.2.2.2.2.2 ++ wAC G h_acts h_acts_before u8_next u8_kept u8_before) (fun _ => rfl) rfl (Nat.le_of_ble_eq_true rfl) ⟨rfl, rfl⟩ ⟨Nat.le_of_ble_eq_true rfl, Nat.le_of_ble_eq_true rfl⟩ ⟨Nat.zero_le _, Nat.zero_le _⟩ hl.1 (st' := fun u9 => []) (fun _ => rfl) (fun u9 H locs huu9 Y => ?_)
        obtain ⟨u9_points, u9_home, u9_men, u9_turn, u9_thrower, u9_cube, u9_owner, u9_firms, u9_kindsTold, u9_places, u9_crowds, u9_pipsLeft, u9_notHome⟩ := u9
        replace Y : rY G A s (wTF G h h_rows h_tape h_live h_draft h_images h_acts h_foresight h_asks S0_latestFault S0_latestFinding ++ wBD G h_live h_live_firms h_live_kindsTold h_live_places h_live_crowds h_live_pipsLeft h_live_notHome u9_points u9_home u9_men u9_turn u9_thrower u9_cube u9_owner u9_firms u9_kindsTold u9_places u9_crowds u9_pipsLeft u9_notHome ++ wAC G h_acts h_acts_before u8_next u8_kept u8_before) H locs := Y
        replace hM := mS hM huu9
        show W p l e q_X7_lay s m args below meth c H locs 0 0 Q (F0 m 64 ls [])
        refine r_iload_n (pc' := 65) X hl 0 rfl rfl 34 rfl rfl ?_
        exact RT ((S1_places (i1).toNatClampNeg), (u9_points, u9_home, u9_men, u9_turn, u9_thrower, u9_cube, u9_owner, u9_firms, u9_kindsTold, u9_places, u9_crowds, u9_pipsLeft, u9_notHome), (u8_next, u8_kept, u8_before)) _ _ _ _ _ hM (Or.inl ⟨rfl, rfl, _, rfl⟩) (X.d (k := 35) rfl) Y
      · replace hM := mI hM c7
        refine r_ldc (pc' := 43) X mw378 22 rfl rfl ?_
        exact RT ((-1000002 : Int32), (S1_points, S1_home, S1_men, S1_turn, S1_thrower, S1_cube, S1_owner, S1_firms, S1_kindsTold, S1_places, S1_crowds, S1_pipsLeft, S1_notHome), (S2_next, S2_kept, S2_before)) _ _ _ _ _ hM (Or.inl ⟨rfl, rfl, _, rfl⟩) (X.d (k := 23) rfl) Y
    · replace hM := mI hM c5
      refine r_ldc (pc' := 25) X mw324 11 rfl rfl ?_
      exact RT ((-1000001 : Int32), (S1_points, S1_home, S1_men, S1_turn, S1_thrower, S1_cube, S1_owner, S1_firms, S1_kindsTold, S1_places, S1_crowds, S1_pipsLeft, S1_notHome), (S2_next, S2_kept, S2_before)) _ _ _ _ _ hM (Or.inl ⟨rfl, rfl, _, rfl⟩) (X.d (k := 12) rfl) Y

def M_X7_man (S0 : TF) (S1 : BD) (i1 : Int32) (i2 : Int32) : Option (Int32) :=
  ((M_X7_isMan S0 S1 i1).bind (fun u1 => (if u1 = 0 then (some (-1000001 : Int32)) else (if i2 = 0 then (if inb i1 8 = true then (some ((bd_firms S1) (i1).toNatClampNeg)) else none) else (if i2 = 1 then (if inb i1 8 = true then ((M_X2_off S1).bind (fun u6 => (if ((bd_places S1) (i1).toNatClampNeg) = u6 then (some (-1000000 : Int32)) else (some ((bd_places S1) (i1).toNatClampNeg))))) else none) else (if i2 = 2 then ((M_X2_pipsOf S1 i1).bind (fun u8 => (some u8))) else (if i2 = 3 then ((M_X2_pipsOf S1 i1).bind (fun u9 => (if (bd_home S1) < u9 then (some (0 : Int32)) else (some (1 : Int32))))) else (some (-1000001 : Int32)))))))))
def q_X7_man : Room := { frames := 3, cells := 0, slots := 0, locals := 103 }
set_option maxHeartbeats 4000000 in
set_option maxRecDepth 100000 in
theorem c_X7_man (l : Launch) (G : gT) (h h_rows h_tape h_live h_draft h_images h_acts h_foresight h_asks h_live_firms h_live_kindsTold h_live_places h_live_crowds h_live_pipsLeft h_live_notHome : Nat) (S0_latestFault : Int32) (S0_latestFinding : Int32) (S1_points : Int32) (S1_home : Int32) (S1_men : Int32) (S1_turn : Int32) (S1_thrower : Int32) (S1_cube : Int32) (S1_owner : Int32) (S1_firms : Nat → Int32) (S1_kindsTold : Nat → Int32) (S1_places : Nat → Int32) (S1_crowds : Nat → Int32) (S1_pipsLeft : Nat → Int32) (S1_notHome : Nat → Int32) (i1 : Int32) (i2 : Int32) : CT l G yX7_man cX7_man 3 (some .int) q_X7_man [.ref h, .int i1, .int i2] (wTF G h h_rows h_tape h_live h_draft h_images h_acts h_foresight h_asks S0_latestFault S0_latestFinding ++ wBD G h_live h_live_firms h_live_kindsTold h_live_places h_live_crowds h_live_pipsLeft h_live_notHome S1_points S1_home S1_men S1_turn S1_thrower S1_cube S1_owner S1_firms S1_kindsTold S1_places S1_crowds S1_pipsLeft S1_notHome) (M_X7_man (S0_latestFault, S0_latestFinding) (S1_points, S1_home, S1_men, S1_turn, S1_thrower, S1_cube, S1_owner, S1_firms, S1_kindsTold, S1_places, S1_crowds, S1_pipsLeft, S1_notHome) i1 i2) (fun u => some (.int u)) (fun u => wTF G h h_rows h_tape h_live h_draft h_images h_acts h_foresight h_asks S0_latestFault S0_latestFinding ++ wBD G h_live h_live_firms h_live_kindsTold h_live_places h_live_crowds h_live_pipsLeft h_live_notHome S1_points S1_home S1_men S1_turn S1_thrower S1_cube S1_owner S1_firms S1_kindsTold S1_places S1_crowds S1_pipsLeft S1_notHome) := by
  refine CT.of (P := PX7_man) (by decide) dPX7_man (Nat.le_of_ble_eq_true rfl) ?_
  intro p e s m args below meth c A Q ls hne X RT Y hl
  have hl : lv_has ls 3 [(0, .ref h), (1, .int i1), (2, .int i2)] := hl
  generalize hM : M_X7_man (S0_latestFault, S0_latestFinding) (S1_points, S1_home, S1_men, S1_turn, S1_thrower, S1_cube, S1_owner, S1_firms, S1_kindsTold, S1_places, S1_crowds, S1_pipsLeft, S1_notHome) i1 i2 = MM at hne RT
  unfold M_X7_man at hM
  refine r_aload_n (pc' := 1) X hl 0 rfl rfl 0 rfl rfl ?_
  refine r_iload_n (pc' := 2) X hl 1 rfl rfl 1 rfl rfl ?_
  refine r_callV0 (pc' := 5) (As := [.int i1]) (rest := []) X Y 2 rfl rfl mRX7_161 (c_X7_isMan l G h h_rows h_tape h_live h_draft h_images h_acts h_foresight h_asks h_live_firms h_live_kindsTold h_live_places h_live_crowds h_live_pipsLeft h_live_notHome S0_latestFault S0_latestFinding S1_points S1_home S1_men S1_turn S1_thrower S1_cube S1_owner S1_firms S1_kindsTold S1_places S1_crowds S1_pipsLeft S1_notHome i1) (mB hM hne) 0 rfl rfl [0, 1, 2, 3, 4, 5, 6, 7] rfl rfl rfl (Nat.le_of_ble_eq_true rfl) ⟨rfl, rfl⟩ ⟨Nat.le_of_ble_eq_true rfl, Nat.le_of_ble_eq_true rfl⟩ ⟨Nat.zero_le _, Nat.zero_le _⟩ hl.1 (st' := fun u1 => [.int u1]) (fun _ => rfl) (fun u1 H locs huu1 Y => ?_)
  replace hM := mS hM huu1
  refine r_if_ne (pc' := 8) X 11 3 rfl rfl (by decide) (fun c2 => ?_) (fun c2 => ?_)
  · replace hM := mE hM c2
    refine r_iload_n (pc' := 12) X hl 2 rfl rfl 6 rfl rfl ?_
    by_cases h3_0 : i2 = 0
    · replace hM := mI hM h3_0
      refine r_tabIn X 44 7 rfl (0 : Int32) h3_0 (by decide) rfl (by decide) ?_
      refine r_aload_n (pc' := 45) X hl 0 rfl rfl 8 rfl rfl ?_
      refine r_get (pc' := 48) (v := .ref h_live) X Y 9 rfl rfl fRX7_26 0 rfl rfl ?_
      refine r_getN (pc' := 51) (v := .ref h_live_firms) X Y 10 rfl rfl fRX7_164 1 rfl rfl ?_
      refine r_iload_n (pc' := 52) X hl 1 rfl rfl 11 rfl rfl ?_
      obtain ⟨g4, hM⟩ := mG hM hne
      refine r_iald (pc' := 53) X Y 12 rfl rfl 2 rfl (vin g4) ?_
      exact RT (S1_firms (i1).toNatClampNeg) _ _ _ _ _ hM (Or.inl ⟨rfl, rfl, _, rfl⟩) (X.d (k := 13) rfl) Y
    replace hM := mE hM h3_0
    by_cases h3_1 : i2 = 1
    · replace hM := mI hM h3_1
      refine r_tabIn X 54 7 rfl (1 : Int32) h3_1 (by decide) rfl (by decide) ?_
      refine r_aload_n (pc' := 55) X hl 0 rfl rfl 14 rfl rfl ?_
      refine r_get (pc' := 58) (v := .ref h_live) X Y 15 rfl rfl fRX7_26 0 rfl rfl ?_
      refine r_getN (pc' := 61) (v := .ref h_live_places) X Y 16 rfl rfl fRX7_182 1 rfl rfl ?_
      refine r_iload_n (pc' := 62) X hl 1 rfl rfl 17 rfl rfl ?_
      obtain ⟨g5, hM⟩ := mG hM hne
      refine r_iald (pc' := 63) X Y 18 rfl rfl 4 rfl (vin g5) ?_
      refine r_aload_n (pc' := 64) X hl 0 rfl rfl 19 rfl rfl ?_
      refine r_get (pc' := 67) (v := .ref h_live) X Y 20 rfl rfl fRX7_26 0 rfl rfl ?_
      refine r_callV0 (pc' := 70) (As := []) (rest := [.int (S1_places (i1).toNatClampNeg)]) X Y 21 rfl rfl mRX7_202 (c_X2_off l G h_live h_live_firms h_live_kindsTold h_live_places h_live_crowds h_live_pipsLeft h_live_notHome S1_points S1_home S1_men S1_turn S1_thrower S1_cube S1_owner S1_firms S1_kindsTold S1_places S1_crowds S1_pipsLeft S1_notHome) (mB hM hne) 1 rfl rfl [1, 2, 3, 4, 5, 6, 7] rfl rfl rfl (Nat.le_of_ble_eq_true rfl) ⟨rfl, rfl⟩ ⟨Nat.le_of_ble_eq_true rfl, Nat.le_of_ble_eq_true rfl⟩ ⟨Nat.zero_le _, Nat.zero_le _⟩ hl.1 (st' := fun u6 => [.int u6, .int (S1_places (i1).toNatClampNeg)]) (fun _ => rfl) (fun u6 H locs huu6 Y => ?_)
      replace hM := mS hM huu6
      refine r_icmp_ne (pc' := 73) X 78 22 rfl rfl (by decide) (fun c7 => ?_) (fun c7 => ?_)
      · replace hM := mE hM c7
        refine r_aload_n (pc' := 79) X hl 0 rfl rfl 25 rfl rfl ?_
        refine r_get (pc' := 82) (v := .ref h_live) X Y 26 rfl rfl fRX7_26 0 rfl rfl ?_
        refine r_getN (pc' := 85) (v := .ref h_live_places) X Y 27 rfl rfl fRX7_182 1 rfl rfl ?_
        refine r_iload_n (pc' := 86) X hl 1 rfl rfl 28 rfl rfl ?_
        refine r_iald (pc' := 87) X Y 29 rfl rfl 4 rfl (vin g5) ?_
        exact RT (S1_places (i1).toNatClampNeg) _ _ _ _ _ hM (Or.inl ⟨rfl, rfl, _, rfl⟩) (X.d (k := 30) rfl) Y
      · replace hM := mI hM c7
        refine r_ldc (pc' := 75) X mw386 23 rfl rfl ?_
        refine r_goto X 87 24 rfl (by decide) ?_
        exact RT (-1000000 : Int32) _ _ _ _ _ hM (Or.inl ⟨rfl, rfl, _, rfl⟩) (X.d (k := 30) rfl) Y
    replace hM := mE hM h3_1
    by_cases h3_2 : i2 = 2
    · replace hM := mI hM h3_2
      refine r_tabIn X 88 7 rfl (2 : Int32) h3_2 (by decide) rfl (by decide) ?_
      refine r_aload_n (pc' := 89) X hl 0 rfl rfl 31 rfl rfl ?_
      refine r_get (pc' := 92) (v := .ref h_live) X Y 32 rfl rfl fRX7_26 0 rfl rfl ?_
      refine r_iload_n (pc' := 93) X hl 1 rfl rfl 33 rfl rfl ?_
      refine r_callV0 (pc' := 96) (As := [.int i1]) (rest := []) X Y 34 rfl rfl mRX7_206 (c_X2_pipsOf l G h_live h_live_firms h_live_kindsTold h_live_places h_live_crowds h_live_pipsLeft h_live_notHome S1_points S1_home S1_men S1_turn S1_thrower S1_cube S1_owner S1_firms S1_kindsTold S1_places S1_crowds S1_pipsLeft S1_notHome i1) (mB hM hne) 1 rfl rfl [1, 2, 3, 4, 5, 6, 7] rfl rfl rfl (Nat.le_of_ble_eq_true rfl) ⟨rfl, rfl⟩ ⟨Nat.le_of_ble_eq_true rfl, Nat.le_of_ble_eq_true rfl⟩ ⟨Nat.zero_le _, Nat.zero_le _⟩ hl.1 (st' := fun u8 => [.int u8]) (fun _ => rfl) (fun u8 H locs huu8 Y => ?_)
      replace hM := mS hM huu8
      exact RT u8 _ _ _ _ _ hM (Or.inl ⟨rfl, rfl, _, rfl⟩) (X.d (k := 35) rfl) Y
    replace hM := mE hM h3_2
    by_cases h3_3 : i2 = 3
    · replace hM := mI hM h3_3
      refine r_tabIn X 97 7 rfl (3 : Int32) h3_3 (by decide) rfl (by decide) ?_
      refine r_aload_n (pc' := 98) X hl 0 rfl rfl 36 rfl rfl ?_
      refine r_get (pc' := 101) (v := .ref h_live) X Y 37 rfl rfl fRX7_26 0 rfl rfl ?_
      refine r_iload_n (pc' := 102) X hl 1 rfl rfl 38 rfl rfl ?_
      refine r_callV0 (pc' := 105) (As := [.int i1]) (rest := []) X Y 39 rfl rfl mRX7_206 (c_X2_pipsOf l G h_live h_live_firms h_live_kindsTold h_live_places h_live_crowds h_live_pipsLeft h_live_notHome S1_points S1_home S1_men S1_turn S1_thrower S1_cube S1_owner S1_firms S1_kindsTold S1_places S1_crowds S1_pipsLeft S1_notHome i1) (mB hM hne) 1 rfl rfl [1, 2, 3, 4, 5, 6, 7] rfl rfl rfl (Nat.le_of_ble_eq_true rfl) ⟨rfl, rfl⟩ ⟨Nat.le_of_ble_eq_true rfl, Nat.le_of_ble_eq_true rfl⟩ ⟨Nat.zero_le _, Nat.zero_le _⟩ hl.1 (st' := fun u9 => [.int u9]) (fun _ => rfl) (fun u9 H locs huu9 Y => ?_)
      replace hM := mS hM huu9
      refine r_aload_n (pc' := 106) X hl 0 rfl rfl 40 rfl rfl ?_
      refine r_get (pc' := 109) (v := .ref h_live) X Y 41 rfl rfl fRX7_26 0 rfl rfl ?_
      refine r_getN (pc' := 112) (v := .int S1_home) X Y 42 rfl rfl fRX7_209 1 rfl rfl ?_
      refine r_icmp_gt (pc' := 115) X 119 43 rfl rfl (by decide) (fun c10 => ?_) (fun c10 => ?_)
      · replace hM := mI hM c10
        refine r_iconst (pc' := 120) X (0 : Int32) 46 rfl rfl rfl ?_
        exact RT (0 : Int32) _ _ _ _ _ hM (Or.inl ⟨rfl, rfl, _, rfl⟩) (X.d (k := 47) rfl) Y
      · replace hM := mE hM c10
        refine r_iconst (pc' := 116) X (1 : Int32) 44 rfl rfl rfl ?_
        refine r_goto X 120 45 rfl (by decide) ?_
        exact RT (1 : Int32) _ _ _ _ _ hM (Or.inl ⟨rfl, rfl, _, rfl⟩) (X.d (k := 47) rfl) Y
    replace hM := mE hM h3_3
    refine r_tabOut X 121 7 rfl ((tsw (x := i2) 0 4 (fun k hk => match k, hk with | 0, _ => h3_0 | 1, _ => h3_1 | 2, _ => h3_2 | 3, _ => h3_3) (by decide)).imp id (fun z => Int.lt_of_lt_of_le (by decide) z)) (by decide) ?_
    refine r_ldc (pc' := 123) X mw324 48 rfl rfl ?_
    exact RT (-1000001 : Int32) _ _ _ _ _ hM (Or.inl ⟨rfl, rfl, _, rfl⟩) (X.d (k := 49) rfl) Y
  · replace hM := mI hM c2
    refine r_ldc (pc' := 10) X mw324 4 rfl rfl ?_
    exact RT (-1000001 : Int32) _ _ _ _ _ hM (Or.inl ⟨rfl, rfl, _, rfl⟩) (X.d (k := 5) rfl) Y

def M_X7_isFirm (i0 : Int32) : Option (Int32) :=
  ((M_X7_within i0 (0 : Int32) (1 : Int32)).bind (fun u1 => (if (u1 = 0 ∨ u1 = 1) then (some u1) else none)))
def q_X7_isFirm : Room := { frames := 2, cells := 0, slots := 0, locals := 82 }
set_option maxHeartbeats 4000000 in
set_option maxRecDepth 100000 in
theorem c_X7_isFirm (l : Launch) (G : gT) (i0 : Int32) : CT l G yX7_isFirm cX7_isFirm 1 (some .boolean) q_X7_isFirm [.int i0] ([]) (M_X7_isFirm i0) (fun u => some (.int u)) (fun u => []) := by
  refine CT.of (P := PX7_isFirm) (by decide) dPX7_isFirm (Nat.le_of_ble_eq_true rfl) ?_
  intro p e s m args below meth c A Q ls hne X RT Y hl
  have hl : lv_has ls 1 [(0, .int i0)] := hl
  generalize hM : M_X7_isFirm i0 = MM at hne RT
  unfold M_X7_isFirm at hM
  refine r_iload_n (pc' := 1) X hl 0 rfl rfl 0 rfl rfl ?_
  refine r_iconst (pc' := 2) X (0 : Int32) 1 rfl rfl rfl ?_
  refine r_iconst (pc' := 3) X (1 : Int32) 2 rfl rfl rfl ?_
  refine r_callS0 (pc' := 6) (As := [.int i0, .int (0 : Int32), .int (1 : Int32)]) (rest := []) X Y 3 rfl rfl mRX7_62 (c_X7_within l G i0 (0 : Int32) (1 : Int32)) (mB hM hne) rfl [] rfl rfl rfl (Nat.le_of_ble_eq_true rfl) ⟨rfl, rfl⟩ ⟨Nat.le_of_ble_eq_true rfl, Nat.le_of_ble_eq_true rfl⟩ ⟨Nat.zero_le _, Nat.zero_le _⟩ hl.1 (st' := fun u1 => [.int u1]) (fun _ => rfl) (fun u1 H locs huu1 Y => ?_)
  replace hM := mS hM huu1
  obtain ⟨g2, hM⟩ := mG hM hne
  exact RT u1 _ _ _ _ _ hM (Or.inr (Or.inl ⟨rfl, rfl, _, rfl, nb g2⟩)) (X.d (k := 4) rfl) Y

def M_X7_on (S0 : TF) (S1 : BD) (i1 : Int32) (i2 : Int32) : Option (Int32) :=
  ((M_X7_hasNoTable S0 S1).bind (fun u1 => (if u1 = 0 then ((M_X7_isFirm i1).bind (fun u3 => (if u3 = 0 then (some (-1000001 : Int32)) else ((M_X2_off S1).bind (fun u5 => ((M_X7_within i2 (0 : Int32) u5).bind (fun u6 => (if u6 = 0 then (some (-1000001 : Int32)) else ((M_X2_menAt S1 i1 i2).bind (fun u8 => (some u8))))))))))) else (some (-1000001 : Int32)))))
def q_X7_on : Room := { frames := 3, cells := 0, slots := 0, locals := 102 }
set_option maxHeartbeats 4000000 in
set_option maxRecDepth 100000 in
theorem c_X7_on (l : Launch) (G : gT) (h h_rows h_tape h_live h_draft h_images h_acts h_foresight h_asks h_live_firms h_live_kindsTold h_live_places h_live_crowds h_live_pipsLeft h_live_notHome : Nat) (S0_latestFault : Int32) (S0_latestFinding : Int32) (S1_points : Int32) (S1_home : Int32) (S1_men : Int32) (S1_turn : Int32) (S1_thrower : Int32) (S1_cube : Int32) (S1_owner : Int32) (S1_firms : Nat → Int32) (S1_kindsTold : Nat → Int32) (S1_places : Nat → Int32) (S1_crowds : Nat → Int32) (S1_pipsLeft : Nat → Int32) (S1_notHome : Nat → Int32) (i1 : Int32) (i2 : Int32) : CT l G yX7_on cX7_on 3 (some .int) q_X7_on [.ref h, .int i1, .int i2] (wTF G h h_rows h_tape h_live h_draft h_images h_acts h_foresight h_asks S0_latestFault S0_latestFinding ++ wBD G h_live h_live_firms h_live_kindsTold h_live_places h_live_crowds h_live_pipsLeft h_live_notHome S1_points S1_home S1_men S1_turn S1_thrower S1_cube S1_owner S1_firms S1_kindsTold S1_places S1_crowds S1_pipsLeft S1_notHome) (M_X7_on (S0_latestFault, S0_latestFinding) (S1_points, S1_home, S1_men, S1_turn, S1_thrower, S1_cube, S1_owner, S1_firms, S1_kindsTold, S1_places, S1_crowds, S1_pipsLeft, S1_notHome) i1 i2) (fun u => some (.int u)) (fun u => wTF G h h_rows h_tape h_live h_draft h_images h_acts h_foresight h_asks S0_latestFault S0_latestFinding ++ wBD G h_live h_live_firms h_live_kindsTold h_live_places h_live_crowds h_live_pipsLeft h_live_notHome S1_points S1_home S1_men S1_turn S1_thrower S1_cube S1_owner S1_firms S1_kindsTold S1_places S1_crowds S1_pipsLeft S1_notHome) := by
  refine CT.of (P := PX7_on) (by decide) dPX7_on (Nat.le_of_ble_eq_true rfl) ?_
  intro p e s m args below meth c A Q ls hne X RT Y hl
  have hl : lv_has ls 3 [(0, .ref h), (1, .int i1), (2, .int i2)] := hl
  generalize hM : M_X7_on (S0_latestFault, S0_latestFinding) (S1_points, S1_home, S1_men, S1_turn, S1_thrower, S1_cube, S1_owner, S1_firms, S1_kindsTold, S1_places, S1_crowds, S1_pipsLeft, S1_notHome) i1 i2 = MM at hne RT
  unfold M_X7_on at hM
  refine r_aload_n (pc' := 1) X hl 0 rfl rfl 0 rfl rfl ?_
  refine r_callV0 (pc' := 4) (As := []) (rest := []) X Y 1 rfl rfl mRX7_142 (c_X7_hasNoTable l G h h_rows h_tape h_live h_draft h_images h_acts h_foresight h_asks h_live_firms h_live_kindsTold h_live_places h_live_crowds h_live_pipsLeft h_live_notHome S0_latestFault S0_latestFinding S1_points S1_home S1_men S1_turn S1_thrower S1_cube S1_owner S1_firms S1_kindsTold S1_places S1_crowds S1_pipsLeft S1_notHome) (mB hM hne) 0 rfl rfl [0, 1, 2, 3, 4, 5, 6, 7] rfl rfl rfl (Nat.le_of_ble_eq_true rfl) ⟨rfl, rfl⟩ ⟨Nat.le_of_ble_eq_true rfl, Nat.le_of_ble_eq_true rfl⟩ ⟨Nat.zero_le _, Nat.zero_le _⟩ hl.1 (st' := fun u1 => [.int u1]) (fun _ => rfl) (fun u1 H locs huu1 Y => ?_)
  replace hM := mS hM huu1
  refine r_if_ne (pc' := 7) X 29 2 rfl rfl (by decide) (fun c2 => ?_) (fun c2 => ?_)
  · replace hM := mE hM c2
    refine r_ldc (pc' := 31) X mw324 13 rfl rfl ?_
    exact RT (-1000001 : Int32) _ _ _ _ _ hM (Or.inl ⟨rfl, rfl, _, rfl⟩) (X.d (k := 14) rfl) Y
  · replace hM := mI hM c2
    refine r_iload_n (pc' := 8) X hl 1 rfl rfl 3 rfl rfl ?_
    refine r_callS0 (pc' := 11) (As := [.int i1]) (rest := []) X Y 4 rfl rfl mRX7_212 (c_X7_isFirm l G i1) (mB hM hne) rfl [] rfl rfl rfl (Nat.le_of_ble_eq_true rfl) ⟨rfl, rfl⟩ ⟨Nat.le_of_ble_eq_true rfl, Nat.le_of_ble_eq_true rfl⟩ ⟨Nat.zero_le _, Nat.zero_le _⟩ hl.1 (st' := fun u3 => [.int u3]) (fun _ => rfl) (fun u3 H locs huu3 Y => ?_)
    replace hM := mS hM huu3
    refine r_if_eq (pc' := 14) X 29 5 rfl rfl (by decide) (fun c4 => ?_) (fun c4 => ?_)
    · replace hM := mI hM c4
      refine r_ldc (pc' := 31) X mw324 13 rfl rfl ?_
      exact RT (-1000001 : Int32) _ _ _ _ _ hM (Or.inl ⟨rfl, rfl, _, rfl⟩) (X.d (k := 14) rfl) Y
    · replace hM := mE hM c4
      refine r_iload_n (pc' := 15) X hl 2 rfl rfl 6 rfl rfl ?_
      refine r_iconst (pc' := 16) X (0 : Int32) 7 rfl rfl rfl ?_
      refine r_aload_n (pc' := 17) X hl 0 rfl rfl 8 rfl rfl ?_
      refine r_get (pc' := 20) (v := .ref h_live) X Y 9 rfl rfl fRX7_26 0 rfl rfl ?_
      refine r_callV0 (pc' := 23) (As := []) (rest := [.int (0 : Int32), .int i2]) X Y 10 rfl rfl mRX7_202 (c_X2_off l G h_live h_live_firms h_live_kindsTold h_live_places h_live_crowds h_live_pipsLeft h_live_notHome S1_points S1_home S1_men S1_turn S1_thrower S1_cube S1_owner S1_firms S1_kindsTold S1_places S1_crowds S1_pipsLeft S1_notHome) (mB hM hne) 1 rfl rfl [1, 2, 3, 4, 5, 6, 7] rfl rfl rfl (Nat.le_of_ble_eq_true rfl) ⟨rfl, rfl⟩ ⟨Nat.le_of_ble_eq_true rfl, Nat.le_of_ble_eq_true rfl⟩ ⟨Nat.zero_le _, Nat.zero_le _⟩ hl.1 (st' := fun u5 => [.int u5, .int (0 : Int32), .int i2]) (fun _ => rfl) (fun u5 H locs huu5 Y => ?_)
      replace hM := mS hM huu5
      refine r_callS0 (pc' := 26) (As := [.int i2, .int (0 : Int32), .int u5]) (rest := []) X Y 11 rfl rfl mRX7_62 (c_X7_within l G i2 (0 : Int32) u5) (mB hM hne) rfl [] rfl rfl rfl (Nat.le_of_ble_eq_true rfl) ⟨rfl, rfl⟩ ⟨Nat.le_of_ble_eq_true rfl, Nat.le_of_ble_eq_true rfl⟩ ⟨Nat.zero_le _, Nat.zero_le _⟩ hl.1 (st' := fun u6 => [.int u6]) (fun _ => rfl) (fun u6 H locs huu6 Y => ?_)
      replace hM := mS hM huu6
      refine r_if_ne (pc' := 29) X 32 12 rfl rfl (by decide) (fun c7 => ?_) (fun c7 => ?_)
      · replace hM := mE hM c7
        refine r_aload_n (pc' := 33) X hl 0 rfl rfl 15 rfl rfl ?_
        refine r_get (pc' := 36) (v := .ref h_live) X Y 16 rfl rfl fRX7_26 0 rfl rfl ?_
        refine r_iload_n (pc' := 37) X hl 1 rfl rfl 17 rfl rfl ?_
        refine r_iload_n (pc' := 38) X hl 2 rfl rfl 18 rfl rfl ?_
        refine r_callV0 (pc' := 41) (As := [.int i1, .int i2]) (rest := []) X Y 19 rfl rfl mRX7_215 (c_X2_menAt l G h_live h_live_firms h_live_kindsTold h_live_places h_live_crowds h_live_pipsLeft h_live_notHome S1_points S1_home S1_men S1_turn S1_thrower S1_cube S1_owner S1_firms S1_kindsTold S1_places S1_crowds S1_pipsLeft S1_notHome i1 i2) (mB hM hne) 1 rfl rfl [1, 2, 3, 4, 5, 6, 7] rfl rfl rfl (Nat.le_of_ble_eq_true rfl) ⟨rfl, rfl⟩ ⟨Nat.le_of_ble_eq_true rfl, Nat.le_of_ble_eq_true rfl⟩ ⟨Nat.zero_le _, Nat.zero_le _⟩ hl.1 (st' := fun u8 => [.int u8]) (fun _ => rfl) (fun u8 H locs huu8 Y => ?_)
        replace hM := mS hM huu8
        exact RT u8 _ _ _ _ _ hM (Or.inl ⟨rfl, rfl, _, rfl⟩) (X.d (k := 20) rfl) Y
      · replace hM := mI hM c7
        refine r_ldc (pc' := 31) X mw324 13 rfl rfl ?_
        exact RT (-1000001 : Int32) _ _ _ _ _ hM (Or.inl ⟨rfl, rfl, _, rfl⟩) (X.d (k := 14) rfl) Y

def M_X7_stand (S0 : TF) (S1 : BD) (i1 : Int32) : Option (Int32) :=
  ((M_X7_hasNoTable S0 S1).bind (fun u1 => (if u1 = 0 then (if i1 = 0 then (some (bd_thrower S1)) else (if i1 = 1 then (some (bd_cube S1)) else (if i1 = 2 then (some (bd_owner S1)) else (if i1 = 3 then ((M_X2_winner S1).bind (fun u4 => (some u4))) else (if i1 = 4 then (some (bd_points S1)) else (if i1 = 5 then (some (bd_home S1)) else (some (-1000001 : Int32)))))))) else (some (-1000002 : Int32)))))
def q_X7_stand : Room := { frames := 4, cells := 0, slots := 0, locals := 124 }
set_option maxHeartbeats 4000000 in
set_option maxRecDepth 100000 in
theorem c_X7_stand (l : Launch) (G : gT) (h h_rows h_tape h_live h_draft h_images h_acts h_foresight h_asks h_live_firms h_live_kindsTold h_live_places h_live_crowds h_live_pipsLeft h_live_notHome : Nat) (S0_latestFault : Int32) (S0_latestFinding : Int32) (S1_points : Int32) (S1_home : Int32) (S1_men : Int32) (S1_turn : Int32) (S1_thrower : Int32) (S1_cube : Int32) (S1_owner : Int32) (S1_firms : Nat → Int32) (S1_kindsTold : Nat → Int32) (S1_places : Nat → Int32) (S1_crowds : Nat → Int32) (S1_pipsLeft : Nat → Int32) (S1_notHome : Nat → Int32) (i1 : Int32) : CT l G yX7_stand cX7_stand 2 (some .int) q_X7_stand [.ref h, .int i1] (wTF G h h_rows h_tape h_live h_draft h_images h_acts h_foresight h_asks S0_latestFault S0_latestFinding ++ wBD G h_live h_live_firms h_live_kindsTold h_live_places h_live_crowds h_live_pipsLeft h_live_notHome S1_points S1_home S1_men S1_turn S1_thrower S1_cube S1_owner S1_firms S1_kindsTold S1_places S1_crowds S1_pipsLeft S1_notHome) (M_X7_stand (S0_latestFault, S0_latestFinding) (S1_points, S1_home, S1_men, S1_turn, S1_thrower, S1_cube, S1_owner, S1_firms, S1_kindsTold, S1_places, S1_crowds, S1_pipsLeft, S1_notHome) i1) (fun u => some (.int u)) (fun u => wTF G h h_rows h_tape h_live h_draft h_images h_acts h_foresight h_asks S0_latestFault S0_latestFinding ++ wBD G h_live h_live_firms h_live_kindsTold h_live_places h_live_crowds h_live_pipsLeft h_live_notHome S1_points S1_home S1_men S1_turn S1_thrower S1_cube S1_owner S1_firms S1_kindsTold S1_places S1_crowds S1_pipsLeft S1_notHome) := by
  refine CT.of (P := PX7_stand) (by decide) dPX7_stand (Nat.le_of_ble_eq_true rfl) ?_
  intro p e s m args below meth c A Q ls hne X RT Y hl
  have hl : lv_has ls 2 [(0, .ref h), (1, .int i1)] := hl
  generalize hM : M_X7_stand (S0_latestFault, S0_latestFinding) (S1_points, S1_home, S1_men, S1_turn, S1_thrower, S1_cube, S1_owner, S1_firms, S1_kindsTold, S1_places, S1_crowds, S1_pipsLeft, S1_notHome) i1 = MM at hne RT
  unfold M_X7_stand at hM
  refine r_aload_n (pc' := 1) X hl 0 rfl rfl 0 rfl rfl ?_
  refine r_callV0 (pc' := 4) (As := []) (rest := []) X Y 1 rfl rfl mRX7_142 (c_X7_hasNoTable l G h h_rows h_tape h_live h_draft h_images h_acts h_foresight h_asks h_live_firms h_live_kindsTold h_live_places h_live_crowds h_live_pipsLeft h_live_notHome S0_latestFault S0_latestFinding S1_points S1_home S1_men S1_turn S1_thrower S1_cube S1_owner S1_firms S1_kindsTold S1_places S1_crowds S1_pipsLeft S1_notHome) (mB hM hne) 0 rfl rfl [0, 1, 2, 3, 4, 5, 6, 7] rfl rfl rfl (Nat.le_of_ble_eq_true rfl) ⟨rfl, rfl⟩ ⟨Nat.le_of_ble_eq_true rfl, Nat.le_of_ble_eq_true rfl⟩ ⟨Nat.zero_le _, Nat.zero_le _⟩ hl.1 (st' := fun u1 => [.int u1]) (fun _ => rfl) (fun u1 H locs huu1 Y => ?_)
  replace hM := mS hM huu1
  refine r_if_eq (pc' := 7) X 10 2 rfl rfl (by decide) (fun c2 => ?_) (fun c2 => ?_)
  · replace hM := mI hM c2
    refine r_iload_n (pc' := 11) X hl 1 rfl rfl 5 rfl rfl ?_
    by_cases h3_0 : i1 = 0
    · replace hM := mI hM h3_0
      refine r_tabIn X 48 6 rfl (0 : Int32) h3_0 (by decide) rfl (by decide) ?_
      refine r_aload_n (pc' := 49) X hl 0 rfl rfl 7 rfl rfl ?_
      refine r_get (pc' := 52) (v := .ref h_live) X Y 8 rfl rfl fRX7_26 0 rfl rfl ?_
      refine r_getN (pc' := 55) (v := .int S1_thrower) X Y 9 rfl rfl fRX7_168 1 rfl rfl ?_
      exact RT S1_thrower _ _ _ _ _ hM (Or.inl ⟨rfl, rfl, _, rfl⟩) (X.d (k := 10) rfl) Y
    replace hM := mE hM h3_0
    by_cases h3_1 : i1 = 1
    · replace hM := mI hM h3_1
      refine r_tabIn X 56 6 rfl (1 : Int32) h3_1 (by decide) rfl (by decide) ?_
      refine r_aload_n (pc' := 57) X hl 0 rfl rfl 11 rfl rfl ?_
      refine r_get (pc' := 60) (v := .ref h_live) X Y 12 rfl rfl fRX7_26 0 rfl rfl ?_
      refine r_getN (pc' := 63) (v := .int S1_cube) X Y 13 rfl rfl fRX7_191 1 rfl rfl ?_
      exact RT S1_cube _ _ _ _ _ hM (Or.inl ⟨rfl, rfl, _, rfl⟩) (X.d (k := 14) rfl) Y
    replace hM := mE hM h3_1
    by_cases h3_2 : i1 = 2
    · replace hM := mI hM h3_2
      refine r_tabIn X 64 6 rfl (2 : Int32) h3_2 (by decide) rfl (by decide) ?_
      refine r_aload_n (pc' := 65) X hl 0 rfl rfl 15 rfl rfl ?_
      refine r_get (pc' := 68) (v := .ref h_live) X Y 16 rfl rfl fRX7_26 0 rfl rfl ?_
      refine r_getN (pc' := 71) (v := .int S1_owner) X Y 17 rfl rfl fRX7_188 1 rfl rfl ?_
      exact RT S1_owner _ _ _ _ _ hM (Or.inl ⟨rfl, rfl, _, rfl⟩) (X.d (k := 18) rfl) Y
    replace hM := mE hM h3_2
    by_cases h3_3 : i1 = 3
    · replace hM := mI hM h3_3
      refine r_tabIn X 72 6 rfl (3 : Int32) h3_3 (by decide) rfl (by decide) ?_
      refine r_aload_n (pc' := 73) X hl 0 rfl rfl 19 rfl rfl ?_
      refine r_get (pc' := 76) (v := .ref h_live) X Y 20 rfl rfl fRX7_26 0 rfl rfl ?_
      refine r_callV0 (pc' := 79) (As := []) (rest := []) X Y 21 rfl rfl mRX7_218 (c_X2_winner l G h_live h_live_firms h_live_kindsTold h_live_places h_live_crowds h_live_pipsLeft h_live_notHome S1_points S1_home S1_men S1_turn S1_thrower S1_cube S1_owner S1_firms S1_kindsTold S1_places S1_crowds S1_pipsLeft S1_notHome) (mB hM hne) 1 rfl rfl [1, 2, 3, 4, 5, 6, 7] rfl rfl rfl (Nat.le_of_ble_eq_true rfl) ⟨rfl, rfl⟩ ⟨Nat.le_of_ble_eq_true rfl, Nat.le_of_ble_eq_true rfl⟩ ⟨Nat.zero_le _, Nat.zero_le _⟩ hl.1 (st' := fun u4 => [.int u4]) (fun _ => rfl) (fun u4 H locs huu4 Y => ?_)
      replace hM := mS hM huu4
      exact RT u4 _ _ _ _ _ hM (Or.inl ⟨rfl, rfl, _, rfl⟩) (X.d (k := 22) rfl) Y
    replace hM := mE hM h3_3
    by_cases h3_4 : i1 = 4
    · replace hM := mI hM h3_4
      refine r_tabIn X 80 6 rfl (4 : Int32) h3_4 (by decide) rfl (by decide) ?_
      refine r_aload_n (pc' := 81) X hl 0 rfl rfl 23 rfl rfl ?_
      refine r_get (pc' := 84) (v := .ref h_live) X Y 24 rfl rfl fRX7_26 0 rfl rfl ?_
      refine r_getN (pc' := 87) (v := .int S1_points) X Y 25 rfl rfl fRX7_221 1 rfl rfl ?_
      exact RT S1_points _ _ _ _ _ hM (Or.inl ⟨rfl, rfl, _, rfl⟩) (X.d (k := 26) rfl) Y
    replace hM := mE hM h3_4
    by_cases h3_5 : i1 = 5
    · replace hM := mI hM h3_5
      refine r_tabIn X 88 6 rfl (5 : Int32) h3_5 (by decide) rfl (by decide) ?_
      refine r_aload_n (pc' := 89) X hl 0 rfl rfl 27 rfl rfl ?_
      refine r_get (pc' := 92) (v := .ref h_live) X Y 28 rfl rfl fRX7_26 0 rfl rfl ?_
      refine r_getN (pc' := 95) (v := .int S1_home) X Y 29 rfl rfl fRX7_209 1 rfl rfl ?_
      exact RT S1_home _ _ _ _ _ hM (Or.inl ⟨rfl, rfl, _, rfl⟩) (X.d (k := 30) rfl) Y
    replace hM := mE hM h3_5
    refine r_tabOut X 96 6 rfl ((tsw (x := i1) 0 6 (fun k hk => match k, hk with | 0, _ => h3_0 | 1, _ => h3_1 | 2, _ => h3_2 | 3, _ => h3_3 | 4, _ => h3_4 | 5, _ => h3_5) (by decide)).imp id (fun z => Int.lt_of_lt_of_le (by decide) z)) (by decide) ?_
    refine r_ldc (pc' := 98) X mw324 31 rfl rfl ?_
    exact RT (-1000001 : Int32) _ _ _ _ _ hM (Or.inl ⟨rfl, rfl, _, rfl⟩) (X.d (k := 32) rfl) Y
  · replace hM := mE hM c2
    refine r_ldc (pc' := 9) X mw378 3 rfl rfl ?_
    exact RT (-1000002 : Int32) _ _ _ _ _ hM (Or.inl ⟨rfl, rfl, _, rfl⟩) (X.d (k := 4) rfl) Y

def M_X7_may (S0 : TF) (S1 : BD) (i1 : Int32) : Option (Int32) :=
  ((M_X7_hasNoTable S0 S1).bind (fun u1 => (if u1 = 0 then ((M_X7_isThrow i1).bind (fun u3 => (if u3 = 0 then (some (-1000001 : Int32)) else ((M_X2_menWhoCan S1 (bd_thrower S1) i1).bind (fun u5 => (some u5)))))) else (some (-1000002 : Int32)))))
def q_X7_may : Room := { frames := 5, cells := 0, slots := 0, locals := 157 }
set_option maxHeartbeats 4000000 in
set_option maxRecDepth 100000 in
theorem c_X7_may (l : Launch) (G : gT) (h h_rows h_tape h_live h_draft h_images h_acts h_foresight h_asks h_live_firms h_live_kindsTold h_live_places h_live_crowds h_live_pipsLeft h_live_notHome : Nat) (S0_latestFault : Int32) (S0_latestFinding : Int32) (S1_points : Int32) (S1_home : Int32) (S1_men : Int32) (S1_turn : Int32) (S1_thrower : Int32) (S1_cube : Int32) (S1_owner : Int32) (S1_firms : Nat → Int32) (S1_kindsTold : Nat → Int32) (S1_places : Nat → Int32) (S1_crowds : Nat → Int32) (S1_pipsLeft : Nat → Int32) (S1_notHome : Nat → Int32) (i1 : Int32) : CT l G yX7_may cX7_may 2 (some .int) q_X7_may [.ref h, .int i1] (wTF G h h_rows h_tape h_live h_draft h_images h_acts h_foresight h_asks S0_latestFault S0_latestFinding ++ wBD G h_live h_live_firms h_live_kindsTold h_live_places h_live_crowds h_live_pipsLeft h_live_notHome S1_points S1_home S1_men S1_turn S1_thrower S1_cube S1_owner S1_firms S1_kindsTold S1_places S1_crowds S1_pipsLeft S1_notHome) (M_X7_may (S0_latestFault, S0_latestFinding) (S1_points, S1_home, S1_men, S1_turn, S1_thrower, S1_cube, S1_owner, S1_firms, S1_kindsTold, S1_places, S1_crowds, S1_pipsLeft, S1_notHome) i1) (fun u => some (.int u)) (fun u => wTF G h h_rows h_tape h_live h_draft h_images h_acts h_foresight h_asks S0_latestFault S0_latestFinding ++ wBD G h_live h_live_firms h_live_kindsTold h_live_places h_live_crowds h_live_pipsLeft h_live_notHome S1_points S1_home S1_men S1_turn S1_thrower S1_cube S1_owner S1_firms S1_kindsTold S1_places S1_crowds S1_pipsLeft S1_notHome) := by
  refine CT.of (P := PX7_may) (by decide) dPX7_may (Nat.le_of_ble_eq_true rfl) ?_
  intro p e s m args below meth c A Q ls hne X RT Y hl
  have hl : lv_has ls 2 [(0, .ref h), (1, .int i1)] := hl
  generalize hM : M_X7_may (S0_latestFault, S0_latestFinding) (S1_points, S1_home, S1_men, S1_turn, S1_thrower, S1_cube, S1_owner, S1_firms, S1_kindsTold, S1_places, S1_crowds, S1_pipsLeft, S1_notHome) i1 = MM at hne RT
  unfold M_X7_may at hM
  refine r_aload_n (pc' := 1) X hl 0 rfl rfl 0 rfl rfl ?_
  refine r_callV0 (pc' := 4) (As := []) (rest := []) X Y 1 rfl rfl mRX7_142 (c_X7_hasNoTable l G h h_rows h_tape h_live h_draft h_images h_acts h_foresight h_asks h_live_firms h_live_kindsTold h_live_places h_live_crowds h_live_pipsLeft h_live_notHome S0_latestFault S0_latestFinding S1_points S1_home S1_men S1_turn S1_thrower S1_cube S1_owner S1_firms S1_kindsTold S1_places S1_crowds S1_pipsLeft S1_notHome) (mB hM hne) 0 rfl rfl [0, 1, 2, 3, 4, 5, 6, 7] rfl rfl rfl (Nat.le_of_ble_eq_true rfl) ⟨rfl, rfl⟩ ⟨Nat.le_of_ble_eq_true rfl, Nat.le_of_ble_eq_true rfl⟩ ⟨Nat.zero_le _, Nat.zero_le _⟩ hl.1 (st' := fun u1 => [.int u1]) (fun _ => rfl) (fun u1 H locs huu1 Y => ?_)
  replace hM := mS hM huu1
  refine r_if_eq (pc' := 7) X 10 2 rfl rfl (by decide) (fun c2 => ?_) (fun c2 => ?_)
  · replace hM := mI hM c2
    refine r_iload_n (pc' := 11) X hl 1 rfl rfl 5 rfl rfl ?_
    refine r_callS0 (pc' := 14) (As := [.int i1]) (rest := []) X Y 6 rfl rfl mRX7_145 (c_X7_isThrow l G i1) (mB hM hne) rfl [] rfl rfl rfl (Nat.le_of_ble_eq_true rfl) ⟨rfl, rfl⟩ ⟨Nat.le_of_ble_eq_true rfl, Nat.le_of_ble_eq_true rfl⟩ ⟨Nat.zero_le _, Nat.zero_le _⟩ hl.1 (st' := fun u3 => [.int u3]) (fun _ => rfl) (fun u3 H locs huu3 Y => ?_)
    replace hM := mS hM huu3
    refine r_if_ne (pc' := 17) X 20 7 rfl rfl (by decide) (fun c4 => ?_) (fun c4 => ?_)
    · replace hM := mE hM c4
      refine r_aload_n (pc' := 21) X hl 0 rfl rfl 10 rfl rfl ?_
      refine r_get (pc' := 24) (v := .ref h_live) X Y 11 rfl rfl fRX7_26 0 rfl rfl ?_
      refine r_aload_n (pc' := 25) X hl 0 rfl rfl 12 rfl rfl ?_
      refine r_get (pc' := 28) (v := .ref h_live) X Y 13 rfl rfl fRX7_26 0 rfl rfl ?_
      refine r_getN (pc' := 31) (v := .int S1_thrower) X Y 14 rfl rfl fRX7_168 1 rfl rfl ?_
      refine r_iload_n (pc' := 32) X hl 1 rfl rfl 15 rfl rfl ?_
      refine r_callV0 (pc' := 35) (As := [.int S1_thrower, .int i1]) (rest := []) X Y 16 rfl rfl mRX7_224 (c_X2_menWhoCan l G h_live h_live_firms h_live_kindsTold h_live_places h_live_crowds h_live_pipsLeft h_live_notHome S1_points S1_home S1_men S1_turn S1_thrower S1_cube S1_owner S1_firms S1_kindsTold S1_places S1_crowds S1_pipsLeft S1_notHome S1_thrower i1) (mB hM hne) 1 rfl rfl [1, 2, 3, 4, 5, 6, 7] rfl rfl rfl (Nat.le_of_ble_eq_true rfl) ⟨rfl, rfl⟩ ⟨Nat.le_of_ble_eq_true rfl, Nat.le_of_ble_eq_true rfl⟩ ⟨Nat.zero_le _, Nat.zero_le _⟩ hl.1 (st' := fun u5 => [.int u5]) (fun _ => rfl) (fun u5 H locs huu5 Y => ?_)
      replace hM := mS hM huu5
      exact RT u5 _ _ _ _ _ hM (Or.inl ⟨rfl, rfl, _, rfl⟩) (X.d (k := 17) rfl) Y
    · replace hM := mI hM c4
      refine r_ldc (pc' := 19) X mw324 8 rfl rfl ?_
      exact RT (-1000001 : Int32) _ _ _ _ _ hM (Or.inl ⟨rfl, rfl, _, rfl⟩) (X.d (k := 9) rfl) Y
  · replace hM := mE hM c2
    refine r_ldc (pc' := 9) X mw378 3 rfl rfl ?_
    exact RT (-1000002 : Int32) _ _ _ _ _ hM (Or.inl ⟨rfl, rfl, _, rfl⟩) (X.d (k := 4) rfl) Y

def M_X7_whither (S0 : TF) (S1 : BD) (i1 : Int32) (i2 : Int32) : Option (Int32) :=
  ((M_X7_isMan S0 S1 i1).bind (fun u1 => (if u1 = 0 then (some (-1000001 : Int32)) else ((M_X7_isThrow i2).bind (fun u3 => (if u3 = 0 then (some (-1000001 : Int32)) else ((M_X2_canGo S1 i1 i2).bind (fun u5 => (if u5 = 0 then (some (-1000000 : Int32)) else ((M_X2_aim S1 i1 i2).bind (fun u7 => ((M_X2_placeTold S1 u7).bind (fun u8 => (some u8))))))))))))))
def q_X7_whither : Room := { frames := 4, cells := 0, slots := 0, locals := 133 }
set_option maxHeartbeats 4000000 in
set_option maxRecDepth 100000 in
theorem c_X7_whither (l : Launch) (G : gT) (h h_rows h_tape h_live h_draft h_images h_acts h_foresight h_asks h_live_firms h_live_kindsTold h_live_places h_live_crowds h_live_pipsLeft h_live_notHome : Nat) (S0_latestFault : Int32) (S0_latestFinding : Int32) (S1_points : Int32) (S1_home : Int32) (S1_men : Int32) (S1_turn : Int32) (S1_thrower : Int32) (S1_cube : Int32) (S1_owner : Int32) (S1_firms : Nat → Int32) (S1_kindsTold : Nat → Int32) (S1_places : Nat → Int32) (S1_crowds : Nat → Int32) (S1_pipsLeft : Nat → Int32) (S1_notHome : Nat → Int32) (i1 : Int32) (i2 : Int32) : CT l G yX7_whither cX7_whither 3 (some .int) q_X7_whither [.ref h, .int i1, .int i2] (wTF G h h_rows h_tape h_live h_draft h_images h_acts h_foresight h_asks S0_latestFault S0_latestFinding ++ wBD G h_live h_live_firms h_live_kindsTold h_live_places h_live_crowds h_live_pipsLeft h_live_notHome S1_points S1_home S1_men S1_turn S1_thrower S1_cube S1_owner S1_firms S1_kindsTold S1_places S1_crowds S1_pipsLeft S1_notHome) (M_X7_whither (S0_latestFault, S0_latestFinding) (S1_points, S1_home, S1_men, S1_turn, S1_thrower, S1_cube, S1_owner, S1_firms, S1_kindsTold, S1_places, S1_crowds, S1_pipsLeft, S1_notHome) i1 i2) (fun u => some (.int u)) (fun u => wTF G h h_rows h_tape h_live h_draft h_images h_acts h_foresight h_asks S0_latestFault S0_latestFinding ++ wBD G h_live h_live_firms h_live_kindsTold h_live_places h_live_crowds h_live_pipsLeft h_live_notHome S1_points S1_home S1_men S1_turn S1_thrower S1_cube S1_owner S1_firms S1_kindsTold S1_places S1_crowds S1_pipsLeft S1_notHome) := by
  refine CT.of (P := PX7_whither) (by decide) dPX7_whither (Nat.le_of_ble_eq_true rfl) ?_
  intro p e s m args below meth c A Q ls hne X RT Y hl
  have hl : lv_has ls 3 [(0, .ref h), (1, .int i1), (2, .int i2)] := hl
  generalize hM : M_X7_whither (S0_latestFault, S0_latestFinding) (S1_points, S1_home, S1_men, S1_turn, S1_thrower, S1_cube, S1_owner, S1_firms, S1_kindsTold, S1_places, S1_crowds, S1_pipsLeft, S1_notHome) i1 i2 = MM at hne RT
  unfold M_X7_whither at hM
  refine r_aload_n (pc' := 1) X hl 0 rfl rfl 0 rfl rfl ?_
  refine r_iload_n (pc' := 2) X hl 1 rfl rfl 1 rfl rfl ?_
  refine r_callV0 (pc' := 5) (As := [.int i1]) (rest := []) X Y 2 rfl rfl mRX7_161 (c_X7_isMan l G h h_rows h_tape h_live h_draft h_images h_acts h_foresight h_asks h_live_firms h_live_kindsTold h_live_places h_live_crowds h_live_pipsLeft h_live_notHome S0_latestFault S0_latestFinding S1_points S1_home S1_men S1_turn S1_thrower S1_cube S1_owner S1_firms S1_kindsTold S1_places S1_crowds S1_pipsLeft S1_notHome i1) (mB hM hne) 0 rfl rfl [0, 1, 2, 3, 4, 5, 6, 7] rfl rfl rfl (Nat.le_of_ble_eq_true rfl) ⟨rfl, rfl⟩ ⟨Nat.le_of_ble_eq_true rfl, Nat.le_of_ble_eq_true rfl⟩ ⟨Nat.zero_le _, Nat.zero_le _⟩ hl.1 (st' := fun u1 => [.int u1]) (fun _ => rfl) (fun u1 H locs huu1 Y => ?_)
  replace hM := mS hM huu1
  refine r_if_eq (pc' := 8) X 15 3 rfl rfl (by decide) (fun c2 => ?_) (fun c2 => ?_)
  · replace hM := mI hM c2
    refine r_ldc (pc' := 17) X mw324 7 rfl rfl ?_
    exact RT (-1000001 : Int32) _ _ _ _ _ hM (Or.inl ⟨rfl, rfl, _, rfl⟩) (X.d (k := 8) rfl) Y
  · replace hM := mE hM c2
    refine r_iload_n (pc' := 9) X hl 2 rfl rfl 4 rfl rfl ?_
    refine r_callS0 (pc' := 12) (As := [.int i2]) (rest := []) X Y 5 rfl rfl mRX7_145 (c_X7_isThrow l G i2) (mB hM hne) rfl [] rfl rfl rfl (Nat.le_of_ble_eq_true rfl) ⟨rfl, rfl⟩ ⟨Nat.le_of_ble_eq_true rfl, Nat.le_of_ble_eq_true rfl⟩ ⟨Nat.zero_le _, Nat.zero_le _⟩ hl.1 (st' := fun u3 => [.int u3]) (fun _ => rfl) (fun u3 H locs huu3 Y => ?_)
    replace hM := mS hM huu3
    refine r_if_ne (pc' := 15) X 18 6 rfl rfl (by decide) (fun c4 => ?_) (fun c4 => ?_)
    · replace hM := mE hM c4
      refine r_aload_n (pc' := 19) X hl 0 rfl rfl 9 rfl rfl ?_
      refine r_get (pc' := 22) (v := .ref h_live) X Y 10 rfl rfl fRX7_26 0 rfl rfl ?_
      refine r_iload_n (pc' := 23) X hl 1 rfl rfl 11 rfl rfl ?_
      refine r_iload_n (pc' := 24) X hl 2 rfl rfl 12 rfl rfl ?_
      refine r_callV0 (pc' := 27) (As := [.int i1, .int i2]) (rest := []) X Y 13 rfl rfl mRX7_171 (c_X2_canGo l G h_live h_live_firms h_live_kindsTold h_live_places h_live_crowds h_live_pipsLeft h_live_notHome S1_points S1_home S1_men S1_turn S1_thrower S1_cube S1_owner S1_firms S1_kindsTold S1_places S1_crowds S1_pipsLeft S1_notHome i1 i2) (mB hM hne) 1 rfl rfl [1, 2, 3, 4, 5, 6, 7] rfl rfl rfl (Nat.le_of_ble_eq_true rfl) ⟨rfl, rfl⟩ ⟨Nat.le_of_ble_eq_true rfl, Nat.le_of_ble_eq_true rfl⟩ ⟨Nat.zero_le _, Nat.zero_le _⟩ hl.1 (st' := fun u5 => [.int u5]) (fun _ => rfl) (fun u5 H locs huu5 Y => ?_)
      replace hM := mS hM huu5
      refine r_if_eq (pc' := 30) X 49 14 rfl rfl (by decide) (fun c6 => ?_) (fun c6 => ?_)
      · replace hM := mI hM c6
        refine r_ldc (pc' := 51) X mw386 24 rfl rfl ?_
        exact RT (-1000000 : Int32) _ _ _ _ _ hM (Or.inl ⟨rfl, rfl, _, rfl⟩) (X.d (k := 25) rfl) Y
      · replace hM := mE hM c6
        refine r_aload_n (pc' := 31) X hl 0 rfl rfl 15 rfl rfl ?_
        refine r_get (pc' := 34) (v := .ref h_live) X Y 16 rfl rfl fRX7_26 0 rfl rfl ?_
        refine r_aload_n (pc' := 35) X hl 0 rfl rfl 17 rfl rfl ?_
        refine r_get (pc' := 38) (v := .ref h_live) X Y 18 rfl rfl fRX7_26 0 rfl rfl ?_
        refine r_iload_n (pc' := 39) X hl 1 rfl rfl 19 rfl rfl ?_
        refine r_iload_n (pc' := 40) X hl 2 rfl rfl 20 rfl rfl ?_
        refine r_callV0 (pc' := 43) (As := [.int i1, .int i2]) (rest := [.ref h_live]) X Y 21 rfl rfl mRX7_227 (c_X2_aim l G h_live h_live_firms h_live_kindsTold h_live_places h_live_crowds h_live_pipsLeft h_live_notHome S1_points S1_home S1_men S1_turn S1_thrower S1_cube S1_owner S1_firms S1_kindsTold S1_places S1_crowds S1_pipsLeft S1_notHome i1 i2) (mB hM hne) 1 rfl rfl [1, 2, 3, 4, 5, 6, 7] rfl rfl rfl (Nat.le_of_ble_eq_true rfl) ⟨rfl, rfl⟩ ⟨Nat.le_of_ble_eq_true rfl, Nat.le_of_ble_eq_true rfl⟩ ⟨Nat.zero_le _, Nat.zero_le _⟩ hl.1 (st' := fun u7 => [.int u7, .ref h_live]) (fun _ => rfl) (fun u7 H locs huu7 Y => ?_)
        replace hM := mS hM huu7
        refine r_callV0 (pc' := 46) (As := [.int u7]) (rest := []) X Y 22 rfl rfl mRX7_185 (c_X2_placeTold l G h_live h_live_firms h_live_kindsTold h_live_places h_live_crowds h_live_pipsLeft h_live_notHome S1_points S1_home S1_men S1_turn S1_thrower S1_cube S1_owner S1_firms S1_kindsTold S1_places S1_crowds S1_pipsLeft S1_notHome u7) (mB hM hne) 1 rfl rfl [1, 2, 3, 4, 5, 6, 7] rfl rfl rfl (Nat.le_of_ble_eq_true rfl) ⟨rfl, rfl⟩ ⟨Nat.le_of_ble_eq_true rfl, Nat.le_of_ble_eq_true rfl⟩ ⟨Nat.zero_le _, Nat.zero_le _⟩ hl.1 (st' := fun u8 => [.int u8]) (fun _ => rfl) (fun u8 H locs huu8 Y => ?_)
        replace hM := mS hM huu8
        refine r_goto X 51 23 rfl (by decide) ?_
        exact RT u8 _ _ _ _ _ hM (Or.inl ⟨rfl, rfl, _, rfl⟩) (X.d (k := 25) rfl) Y
    · replace hM := mI hM c4
      refine r_ldc (pc' := 17) X mw324 7 rfl rfl ?_
      exact RT (-1000001 : Int32) _ _ _ _ _ hM (Or.inl ⟨rfl, rfl, _, rfl⟩) (X.d (k := 8) rfl) Y

def M_X7_shots (S0 : TF) (S1 : BD) (i1 : Int32) : Option (Int32) :=
  ((M_X7_isMan S0 S1 i1).bind (fun u1 => (if u1 = 0 then (some (-1000001 : Int32)) else (if inb i1 8 = true then (if ((bd_places S1) (i1).toNatClampNeg) < (bd_points S1) then ((M_X2_throwsThatHit S1 i1).bind (fun u5 => (some u5))) else (some (-1000002 : Int32))) else none))))
def q_X7_shots : Room := { frames := 6, cells := 0, slots := 0, locals := 181 }
set_option maxHeartbeats 4000000 in
set_option maxRecDepth 100000 in
theorem c_X7_shots (l : Launch) (G : gT) (h h_rows h_tape h_live h_draft h_images h_acts h_foresight h_asks h_live_firms h_live_kindsTold h_live_places h_live_crowds h_live_pipsLeft h_live_notHome : Nat) (S0_latestFault : Int32) (S0_latestFinding : Int32) (S1_points : Int32) (S1_home : Int32) (S1_men : Int32) (S1_turn : Int32) (S1_thrower : Int32) (S1_cube : Int32) (S1_owner : Int32) (S1_firms : Nat → Int32) (S1_kindsTold : Nat → Int32) (S1_places : Nat → Int32) (S1_crowds : Nat → Int32) (S1_pipsLeft : Nat → Int32) (S1_notHome : Nat → Int32) (i1 : Int32) : CT l G yX7_shots cX7_shots 2 (some .int) q_X7_shots [.ref h, .int i1] (wTF G h h_rows h_tape h_live h_draft h_images h_acts h_foresight h_asks S0_latestFault S0_latestFinding ++ wBD G h_live h_live_firms h_live_kindsTold h_live_places h_live_crowds h_live_pipsLeft h_live_notHome S1_points S1_home S1_men S1_turn S1_thrower S1_cube S1_owner S1_firms S1_kindsTold S1_places S1_crowds S1_pipsLeft S1_notHome) (M_X7_shots (S0_latestFault, S0_latestFinding) (S1_points, S1_home, S1_men, S1_turn, S1_thrower, S1_cube, S1_owner, S1_firms, S1_kindsTold, S1_places, S1_crowds, S1_pipsLeft, S1_notHome) i1) (fun u => some (.int u)) (fun u => wTF G h h_rows h_tape h_live h_draft h_images h_acts h_foresight h_asks S0_latestFault S0_latestFinding ++ wBD G h_live h_live_firms h_live_kindsTold h_live_places h_live_crowds h_live_pipsLeft h_live_notHome S1_points S1_home S1_men S1_turn S1_thrower S1_cube S1_owner S1_firms S1_kindsTold S1_places S1_crowds S1_pipsLeft S1_notHome) := by
  refine CT.of (P := PX7_shots) (by decide) dPX7_shots (Nat.le_of_ble_eq_true rfl) ?_
  intro p e s m args below meth c A Q ls hne X RT Y hl
  have hl : lv_has ls 2 [(0, .ref h), (1, .int i1)] := hl
  generalize hM : M_X7_shots (S0_latestFault, S0_latestFinding) (S1_points, S1_home, S1_men, S1_turn, S1_thrower, S1_cube, S1_owner, S1_firms, S1_kindsTold, S1_places, S1_crowds, S1_pipsLeft, S1_notHome) i1 = MM at hne RT
  unfold M_X7_shots at hM
  refine r_aload_n (pc' := 1) X hl 0 rfl rfl 0 rfl rfl ?_
  refine r_iload_n (pc' := 2) X hl 1 rfl rfl 1 rfl rfl ?_
  refine r_callV0 (pc' := 5) (As := [.int i1]) (rest := []) X Y 2 rfl rfl mRX7_161 (c_X7_isMan l G h h_rows h_tape h_live h_draft h_images h_acts h_foresight h_asks h_live_firms h_live_kindsTold h_live_places h_live_crowds h_live_pipsLeft h_live_notHome S0_latestFault S0_latestFinding S1_points S1_home S1_men S1_turn S1_thrower S1_cube S1_owner S1_firms S1_kindsTold S1_places S1_crowds S1_pipsLeft S1_notHome i1) (mB hM hne) 0 rfl rfl [0, 1, 2, 3, 4, 5, 6, 7] rfl rfl rfl (Nat.le_of_ble_eq_true rfl) ⟨rfl, rfl⟩ ⟨Nat.le_of_ble_eq_true rfl, Nat.le_of_ble_eq_true rfl⟩ ⟨Nat.zero_le _, Nat.zero_le _⟩ hl.1 (st' := fun u1 => [.int u1]) (fun _ => rfl) (fun u1 H locs huu1 Y => ?_)
  replace hM := mS hM huu1
  refine r_if_ne (pc' := 8) X 11 3 rfl rfl (by decide) (fun c2 => ?_) (fun c2 => ?_)
  · replace hM := mE hM c2
    refine r_aload_n (pc' := 12) X hl 0 rfl rfl 6 rfl rfl ?_
    refine r_get (pc' := 15) (v := .ref h_live) X Y 7 rfl rfl fRX7_26 0 rfl rfl ?_
    refine r_getN (pc' := 18) (v := .ref h_live_places) X Y 8 rfl rfl fRX7_182 1 rfl rfl ?_
    refine r_iload_n (pc' := 19) X hl 1 rfl rfl 9 rfl rfl ?_
    obtain ⟨g3, hM⟩ := mG hM hne
    refine r_iald (pc' := 20) X Y 10 rfl rfl 4 rfl (vin g3) ?_
    refine r_aload_n (pc' := 21) X hl 0 rfl rfl 11 rfl rfl ?_
    refine r_get (pc' := 24) (v := .ref h_live) X Y 12 rfl rfl fRX7_26 0 rfl rfl ?_
    refine r_getN (pc' := 27) (v := .int S1_points) X Y 13 rfl rfl fRX7_221 1 rfl rfl ?_
    refine r_icmp_lt (pc' := 30) X 33 14 rfl rfl (by decide) (fun c4 => ?_) (fun c4 => ?_)
    · replace hM := mI hM c4
      refine r_aload_n (pc' := 34) X hl 0 rfl rfl 17 rfl rfl ?_
      refine r_get (pc' := 37) (v := .ref h_live) X Y 18 rfl rfl fRX7_26 0 rfl rfl ?_
      refine r_iload_n (pc' := 38) X hl 1 rfl rfl 19 rfl rfl ?_
      refine r_callV0 (pc' := 41) (As := [.int i1]) (rest := []) X Y 20 rfl rfl mRX7_230 (c_X2_throwsThatHit l G h_live h_live_firms h_live_kindsTold h_live_places h_live_crowds h_live_pipsLeft h_live_notHome S1_points S1_home S1_men S1_turn S1_thrower S1_cube S1_owner S1_firms S1_kindsTold S1_places S1_crowds S1_pipsLeft S1_notHome i1) (mB hM hne) 1 rfl rfl [1, 2, 3, 4, 5, 6, 7] rfl rfl rfl (Nat.le_of_ble_eq_true rfl) ⟨rfl, rfl⟩ ⟨Nat.le_of_ble_eq_true rfl, Nat.le_of_ble_eq_true rfl⟩ ⟨Nat.zero_le _, Nat.zero_le _⟩ hl.1 (st' := fun u5 => [.int u5]) (fun _ => rfl) (fun u5 H locs huu5 Y => ?_)
      replace hM := mS hM huu5
      exact RT u5 _ _ _ _ _ hM (Or.inl ⟨rfl, rfl, _, rfl⟩) (X.d (k := 21) rfl) Y
    · replace hM := mE hM c4
      refine r_ldc (pc' := 32) X mw378 15 rfl rfl ?_
      exact RT (-1000002 : Int32) _ _ _ _ _ hM (Or.inl ⟨rfl, rfl, _, rfl⟩) (X.d (k := 16) rfl) Y
  · replace hM := mI hM c2
    refine r_ldc (pc' := 10) X mw324 4 rfl rfl ?_
    exact RT (-1000001 : Int32) _ _ _ _ _ hM (Or.inl ⟨rfl, rfl, _, rfl⟩) (X.d (k := 5) rfl) Y

def M_X7_enter (S0 : TF) (S1 : BD) (i1 : Int32) : Option (Int32) :=
  ((M_X7_hasNoTable S0 S1).bind (fun u1 => (if u1 = 0 then ((M_X7_isFirm i1).bind (fun u3 => (if u3 = 0 then (some (-1000001 : Int32)) else ((M_X2_bar S1).bind (fun u5 => ((M_X2_crowd S1 i1 u5).bind (fun u6 => (if u6 = 0 then (some (-1000000 : Int32)) else ((M_X2_throwsThatEnter S1 i1).bind (fun u8 => (some u8))))))))))) else (some (-1000002 : Int32)))))
def q_X7_enter : Room := { frames := 6, cells := 0, slots := 0, locals := 180 }
set_option maxHeartbeats 4000000 in
set_option maxRecDepth 100000 in
theorem c_X7_enter (l : Launch) (G : gT) (h h_rows h_tape h_live h_draft h_images h_acts h_foresight h_asks h_live_firms h_live_kindsTold h_live_places h_live_crowds h_live_pipsLeft h_live_notHome : Nat) (S0_latestFault : Int32) (S0_latestFinding : Int32) (S1_points : Int32) (S1_home : Int32) (S1_men : Int32) (S1_turn : Int32) (S1_thrower : Int32) (S1_cube : Int32) (S1_owner : Int32) (S1_firms : Nat → Int32) (S1_kindsTold : Nat → Int32) (S1_places : Nat → Int32) (S1_crowds : Nat → Int32) (S1_pipsLeft : Nat → Int32) (S1_notHome : Nat → Int32) (i1 : Int32) : CT l G yX7_enter cX7_enter 2 (some .int) q_X7_enter [.ref h, .int i1] (wTF G h h_rows h_tape h_live h_draft h_images h_acts h_foresight h_asks S0_latestFault S0_latestFinding ++ wBD G h_live h_live_firms h_live_kindsTold h_live_places h_live_crowds h_live_pipsLeft h_live_notHome S1_points S1_home S1_men S1_turn S1_thrower S1_cube S1_owner S1_firms S1_kindsTold S1_places S1_crowds S1_pipsLeft S1_notHome) (M_X7_enter (S0_latestFault, S0_latestFinding) (S1_points, S1_home, S1_men, S1_turn, S1_thrower, S1_cube, S1_owner, S1_firms, S1_kindsTold, S1_places, S1_crowds, S1_pipsLeft, S1_notHome) i1) (fun u => some (.int u)) (fun u => wTF G h h_rows h_tape h_live h_draft h_images h_acts h_foresight h_asks S0_latestFault S0_latestFinding ++ wBD G h_live h_live_firms h_live_kindsTold h_live_places h_live_crowds h_live_pipsLeft h_live_notHome S1_points S1_home S1_men S1_turn S1_thrower S1_cube S1_owner S1_firms S1_kindsTold S1_places S1_crowds S1_pipsLeft S1_notHome) := by
  refine CT.of (P := PX7_enter) (by decide) dPX7_enter (Nat.le_of_ble_eq_true rfl) ?_
  intro p e s m args below meth c A Q ls hne X RT Y hl
  have hl : lv_has ls 2 [(0, .ref h), (1, .int i1)] := hl
  generalize hM : M_X7_enter (S0_latestFault, S0_latestFinding) (S1_points, S1_home, S1_men, S1_turn, S1_thrower, S1_cube, S1_owner, S1_firms, S1_kindsTold, S1_places, S1_crowds, S1_pipsLeft, S1_notHome) i1 = MM at hne RT
  unfold M_X7_enter at hM
  refine r_aload_n (pc' := 1) X hl 0 rfl rfl 0 rfl rfl ?_
  refine r_callV0 (pc' := 4) (As := []) (rest := []) X Y 1 rfl rfl mRX7_142 (c_X7_hasNoTable l G h h_rows h_tape h_live h_draft h_images h_acts h_foresight h_asks h_live_firms h_live_kindsTold h_live_places h_live_crowds h_live_pipsLeft h_live_notHome S0_latestFault S0_latestFinding S1_points S1_home S1_men S1_turn S1_thrower S1_cube S1_owner S1_firms S1_kindsTold S1_places S1_crowds S1_pipsLeft S1_notHome) (mB hM hne) 0 rfl rfl [0, 1, 2, 3, 4, 5, 6, 7] rfl rfl rfl (Nat.le_of_ble_eq_true rfl) ⟨rfl, rfl⟩ ⟨Nat.le_of_ble_eq_true rfl, Nat.le_of_ble_eq_true rfl⟩ ⟨Nat.zero_le _, Nat.zero_le _⟩ hl.1 (st' := fun u1 => [.int u1]) (fun _ => rfl) (fun u1 H locs huu1 Y => ?_)
  replace hM := mS hM huu1
  refine r_if_eq (pc' := 7) X 10 2 rfl rfl (by decide) (fun c2 => ?_) (fun c2 => ?_)
  · replace hM := mI hM c2
    refine r_iload_n (pc' := 11) X hl 1 rfl rfl 5 rfl rfl ?_
    refine r_callS0 (pc' := 14) (As := [.int i1]) (rest := []) X Y 6 rfl rfl mRX7_212 (c_X7_isFirm l G i1) (mB hM hne) rfl [] rfl rfl rfl (Nat.le_of_ble_eq_true rfl) ⟨rfl, rfl⟩ ⟨Nat.le_of_ble_eq_true rfl, Nat.le_of_ble_eq_true rfl⟩ ⟨Nat.zero_le _, Nat.zero_le _⟩ hl.1 (st' := fun u3 => [.int u3]) (fun _ => rfl) (fun u3 H locs huu3 Y => ?_)
    replace hM := mS hM huu3
    refine r_if_ne (pc' := 17) X 20 7 rfl rfl (by decide) (fun c4 => ?_) (fun c4 => ?_)
    · replace hM := mE hM c4
      refine r_aload_n (pc' := 21) X hl 0 rfl rfl 10 rfl rfl ?_
      refine r_get (pc' := 24) (v := .ref h_live) X Y 11 rfl rfl fRX7_26 0 rfl rfl ?_
      refine r_iload_n (pc' := 25) X hl 1 rfl rfl 12 rfl rfl ?_
      refine r_aload_n (pc' := 26) X hl 0 rfl rfl 13 rfl rfl ?_
      refine r_get (pc' := 29) (v := .ref h_live) X Y 14 rfl rfl fRX7_26 0 rfl rfl ?_
      refine r_callV0 (pc' := 32) (As := []) (rest := [.int i1, .ref h_live]) X Y 15 rfl rfl mRX7_194 (c_X2_bar l G h_live h_live_firms h_live_kindsTold h_live_places h_live_crowds h_live_pipsLeft h_live_notHome S1_points S1_home S1_men S1_turn S1_thrower S1_cube S1_owner S1_firms S1_kindsTold S1_places S1_crowds S1_pipsLeft S1_notHome) (mB hM hne) 1 rfl rfl [1, 2, 3, 4, 5, 6, 7] rfl rfl rfl (Nat.le_of_ble_eq_true rfl) ⟨rfl, rfl⟩ ⟨Nat.le_of_ble_eq_true rfl, Nat.le_of_ble_eq_true rfl⟩ ⟨Nat.zero_le _, Nat.zero_le _⟩ hl.1 (st' := fun u5 => [.int u5, .int i1, .ref h_live]) (fun _ => rfl) (fun u5 H locs huu5 Y => ?_)
      replace hM := mS hM huu5
      refine r_callV0 (pc' := 35) (As := [.int i1, .int u5]) (rest := []) X Y 16 rfl rfl mRX7_233 (c_X2_crowd l G h_live h_live_firms h_live_kindsTold h_live_places h_live_crowds h_live_pipsLeft h_live_notHome S1_points S1_home S1_men S1_turn S1_thrower S1_cube S1_owner S1_firms S1_kindsTold S1_places S1_crowds S1_pipsLeft S1_notHome i1 u5) (mB hM hne) 1 rfl rfl [1, 2, 3, 4, 5, 6, 7] rfl rfl rfl (Nat.le_of_ble_eq_true rfl) ⟨rfl, rfl⟩ ⟨Nat.le_of_ble_eq_true rfl, Nat.le_of_ble_eq_true rfl⟩ ⟨Nat.zero_le _, Nat.zero_le _⟩ hl.1 (st' := fun u6 => [.int u6]) (fun _ => rfl) (fun u6 H locs huu6 Y => ?_)
      replace hM := mS hM huu6
      refine r_if_ne (pc' := 38) X 43 17 rfl rfl (by decide) (fun c7 => ?_) (fun c7 => ?_)
      · replace hM := mE hM c7
        refine r_aload_n (pc' := 44) X hl 0 rfl rfl 20 rfl rfl ?_
        refine r_get (pc' := 47) (v := .ref h_live) X Y 21 rfl rfl fRX7_26 0 rfl rfl ?_
        refine r_iload_n (pc' := 48) X hl 1 rfl rfl 22 rfl rfl ?_
        refine r_callV0 (pc' := 51) (As := [.int i1]) (rest := []) X Y 23 rfl rfl mRX7_236 (c_X2_throwsThatEnter l G h_live h_live_firms h_live_kindsTold h_live_places h_live_crowds h_live_pipsLeft h_live_notHome S1_points S1_home S1_men S1_turn S1_thrower S1_cube S1_owner S1_firms S1_kindsTold S1_places S1_crowds S1_pipsLeft S1_notHome i1) (mB hM hne) 1 rfl rfl [1, 2, 3, 4, 5, 6, 7] rfl rfl rfl (Nat.le_of_ble_eq_true rfl) ⟨rfl, rfl⟩ ⟨Nat.le_of_ble_eq_true rfl, Nat.le_of_ble_eq_true rfl⟩ ⟨Nat.zero_le _, Nat.zero_le _⟩ hl.1 (st' := fun u8 => [.int u8]) (fun _ => rfl) (fun u8 H locs huu8 Y => ?_)
        replace hM := mS hM huu8
        exact RT u8 _ _ _ _ _ hM (Or.inl ⟨rfl, rfl, _, rfl⟩) (X.d (k := 24) rfl) Y
      · replace hM := mI hM c7
        refine r_ldc (pc' := 40) X mw386 18 rfl rfl ?_
        refine r_goto X 51 19 rfl (by decide) ?_
        exact RT (-1000000 : Int32) _ _ _ _ _ hM (Or.inl ⟨rfl, rfl, _, rfl⟩) (X.d (k := 24) rfl) Y
    · replace hM := mI hM c4
      refine r_ldc (pc' := 19) X mw324 8 rfl rfl ?_
      exact RT (-1000001 : Int32) _ _ _ _ _ hM (Or.inl ⟨rfl, rfl, _, rfl⟩) (X.d (k := 9) rfl) Y
  · replace hM := mE hM c2
    refine r_ldc (pc' := 9) X mw378 3 rfl rfl ?_
    exact RT (-1000002 : Int32) _ _ _ _ _ hM (Or.inl ⟨rfl, rfl, _, rfl⟩) (X.d (k := 4) rfl) Y

def M_X7_isChoice (i0 : Int32) : Option (Int32) :=
  ((M_X7_within i0 (0 : Int32) (1 : Int32)).bind (fun u1 => (if (u1 = 0 ∨ u1 = 1) then (some u1) else none)))
def q_X7_isChoice : Room := { frames := 2, cells := 0, slots := 0, locals := 82 }
set_option maxHeartbeats 4000000 in
set_option maxRecDepth 100000 in
theorem c_X7_isChoice (l : Launch) (G : gT) (i0 : Int32) : CT l G yX7_isChoice cX7_isChoice 1 (some .boolean) q_X7_isChoice [.int i0] ([]) (M_X7_isChoice i0) (fun u => some (.int u)) (fun u => []) := by
  refine CT.of (P := PX7_isChoice) (by decide) dPX7_isChoice (Nat.le_of_ble_eq_true rfl) ?_
  intro p e s m args below meth c A Q ls hne X RT Y hl
  have hl : lv_has ls 1 [(0, .int i0)] := hl
  generalize hM : M_X7_isChoice i0 = MM at hne RT
  unfold M_X7_isChoice at hM
  refine r_iload_n (pc' := 1) X hl 0 rfl rfl 0 rfl rfl ?_
  refine r_iconst (pc' := 2) X (0 : Int32) 1 rfl rfl rfl ?_
  refine r_iconst (pc' := 3) X (1 : Int32) 2 rfl rfl rfl ?_
  refine r_callS0 (pc' := 6) (As := [.int i0, .int (0 : Int32), .int (1 : Int32)]) (rest := []) X Y 3 rfl rfl mRX7_62 (c_X7_within l G i0 (0 : Int32) (1 : Int32)) (mB hM hne) rfl [] rfl rfl rfl (Nat.le_of_ble_eq_true rfl) ⟨rfl, rfl⟩ ⟨Nat.le_of_ble_eq_true rfl, Nat.le_of_ble_eq_true rfl⟩ ⟨Nat.zero_le _, Nat.zero_le _⟩ hl.1 (st' := fun u1 => [.int u1]) (fun _ => rfl) (fun u1 H locs huu1 Y => ?_)
  replace hM := mS hM huu1
  obtain ⟨g2, hM⟩ := mG hM hne
  exact RT u1 _ _ _ _ _ hM (Or.inr (Or.inl ⟨rfl, rfl, _, rfl, nb g2⟩)) (X.d (k := 4) rfl) Y

def M_X7_pips (S0 : TF) (S1 : BD) (i1 : Int32) (i2 : Int32) : Option (Int32) :=
  ((M_X7_hasNoTable S0 S1).bind (fun u1 => (if u1 = 0 then ((M_X7_isFirm i1).bind (fun u3 => (if u3 = 0 then (some (-1000001 : Int32)) else ((M_X7_isChoice i2).bind (fun u5 => (if u5 = 0 then (some (-1000001 : Int32)) else (if i2 = 0 then (if inb i1 2 = true then (some ((bd_pipsLeft S1) (i1).toNatClampNeg)) else none) else ((M_X2_lead S1 i1).bind (fun u8 => (some u8)))))))))) else (some (-1000002 : Int32)))))
def q_X7_pips : Room := { frames := 3, cells := 0, slots := 0, locals := 102 }
set_option maxHeartbeats 4000000 in
set_option maxRecDepth 100000 in
theorem c_X7_pips (l : Launch) (G : gT) (h h_rows h_tape h_live h_draft h_images h_acts h_foresight h_asks h_live_firms h_live_kindsTold h_live_places h_live_crowds h_live_pipsLeft h_live_notHome : Nat) (S0_latestFault : Int32) (S0_latestFinding : Int32) (S1_points : Int32) (S1_home : Int32) (S1_men : Int32) (S1_turn : Int32) (S1_thrower : Int32) (S1_cube : Int32) (S1_owner : Int32) (S1_firms : Nat → Int32) (S1_kindsTold : Nat → Int32) (S1_places : Nat → Int32) (S1_crowds : Nat → Int32) (S1_pipsLeft : Nat → Int32) (S1_notHome : Nat → Int32) (i1 : Int32) (i2 : Int32) : CT l G yX7_pips cX7_pips 3 (some .int) q_X7_pips [.ref h, .int i1, .int i2] (wTF G h h_rows h_tape h_live h_draft h_images h_acts h_foresight h_asks S0_latestFault S0_latestFinding ++ wBD G h_live h_live_firms h_live_kindsTold h_live_places h_live_crowds h_live_pipsLeft h_live_notHome S1_points S1_home S1_men S1_turn S1_thrower S1_cube S1_owner S1_firms S1_kindsTold S1_places S1_crowds S1_pipsLeft S1_notHome) (M_X7_pips (S0_latestFault, S0_latestFinding) (S1_points, S1_home, S1_men, S1_turn, S1_thrower, S1_cube, S1_owner, S1_firms, S1_kindsTold, S1_places, S1_crowds, S1_pipsLeft, S1_notHome) i1 i2) (fun u => some (.int u)) (fun u => wTF G h h_rows h_tape h_live h_draft h_images h_acts h_foresight h_asks S0_latestFault S0_latestFinding ++ wBD G h_live h_live_firms h_live_kindsTold h_live_places h_live_crowds h_live_pipsLeft h_live_notHome S1_points S1_home S1_men S1_turn S1_thrower S1_cube S1_owner S1_firms S1_kindsTold S1_places S1_crowds S1_pipsLeft S1_notHome) := by
  refine CT.of (P := PX7_pips) (by decide) dPX7_pips (Nat.le_of_ble_eq_true rfl) ?_
  intro p e s m args below meth c A Q ls hne X RT Y hl
  have hl : lv_has ls 3 [(0, .ref h), (1, .int i1), (2, .int i2)] := hl
  generalize hM : M_X7_pips (S0_latestFault, S0_latestFinding) (S1_points, S1_home, S1_men, S1_turn, S1_thrower, S1_cube, S1_owner, S1_firms, S1_kindsTold, S1_places, S1_crowds, S1_pipsLeft, S1_notHome) i1 i2 = MM at hne RT
  unfold M_X7_pips at hM
  refine r_aload_n (pc' := 1) X hl 0 rfl rfl 0 rfl rfl ?_
  refine r_callV0 (pc' := 4) (As := []) (rest := []) X Y 1 rfl rfl mRX7_142 (c_X7_hasNoTable l G h h_rows h_tape h_live h_draft h_images h_acts h_foresight h_asks h_live_firms h_live_kindsTold h_live_places h_live_crowds h_live_pipsLeft h_live_notHome S0_latestFault S0_latestFinding S1_points S1_home S1_men S1_turn S1_thrower S1_cube S1_owner S1_firms S1_kindsTold S1_places S1_crowds S1_pipsLeft S1_notHome) (mB hM hne) 0 rfl rfl [0, 1, 2, 3, 4, 5, 6, 7] rfl rfl rfl (Nat.le_of_ble_eq_true rfl) ⟨rfl, rfl⟩ ⟨Nat.le_of_ble_eq_true rfl, Nat.le_of_ble_eq_true rfl⟩ ⟨Nat.zero_le _, Nat.zero_le _⟩ hl.1 (st' := fun u1 => [.int u1]) (fun _ => rfl) (fun u1 H locs huu1 Y => ?_)
  replace hM := mS hM huu1
  refine r_if_eq (pc' := 7) X 10 2 rfl rfl (by decide) (fun c2 => ?_) (fun c2 => ?_)
  · replace hM := mI hM c2
    refine r_iload_n (pc' := 11) X hl 1 rfl rfl 5 rfl rfl ?_
    refine r_callS0 (pc' := 14) (As := [.int i1]) (rest := []) X Y 6 rfl rfl mRX7_212 (c_X7_isFirm l G i1) (mB hM hne) rfl [] rfl rfl rfl (Nat.le_of_ble_eq_true rfl) ⟨rfl, rfl⟩ ⟨Nat.le_of_ble_eq_true rfl, Nat.le_of_ble_eq_true rfl⟩ ⟨Nat.zero_le _, Nat.zero_le _⟩ hl.1 (st' := fun u3 => [.int u3]) (fun _ => rfl) (fun u3 H locs huu3 Y => ?_)
    replace hM := mS hM huu3
    refine r_if_eq (pc' := 17) X 24 7 rfl rfl (by decide) (fun c4 => ?_) (fun c4 => ?_)
    · replace hM := mI hM c4
      refine r_ldc (pc' := 26) X mw324 11 rfl rfl ?_
      exact RT (-1000001 : Int32) _ _ _ _ _ hM (Or.inl ⟨rfl, rfl, _, rfl⟩) (X.d (k := 12) rfl) Y
    · replace hM := mE hM c4
      refine r_iload_n (pc' := 18) X hl 2 rfl rfl 8 rfl rfl ?_
      refine r_callS0 (pc' := 21) (As := [.int i2]) (rest := []) X Y 9 rfl rfl mRX7_239 (c_X7_isChoice l G i2) (mB hM hne) rfl [] rfl rfl rfl (Nat.le_of_ble_eq_true rfl) ⟨rfl, rfl⟩ ⟨Nat.le_of_ble_eq_true rfl, Nat.le_of_ble_eq_true rfl⟩ ⟨Nat.zero_le _, Nat.zero_le _⟩ hl.1 (st' := fun u5 => [.int u5]) (fun _ => rfl) (fun u5 H locs huu5 Y => ?_)
      replace hM := mS hM huu5
      refine r_if_ne (pc' := 24) X 27 10 rfl rfl (by decide) (fun c6 => ?_) (fun c6 => ?_)
      · replace hM := mE hM c6
        refine r_iload_n (pc' := 28) X hl 2 rfl rfl 13 rfl rfl ?_
        refine r_if_ne (pc' := 31) X 43 14 rfl rfl (by decide) (fun c7 => ?_) (fun c7 => ?_)
        · replace hM := mE hM c7
          refine r_aload_n (pc' := 44) X hl 0 rfl rfl 21 rfl rfl ?_
          refine r_get (pc' := 47) (v := .ref h_live) X Y 22 rfl rfl fRX7_26 0 rfl rfl ?_
          refine r_iload_n (pc' := 48) X hl 1 rfl rfl 23 rfl rfl ?_
          refine r_callV0 (pc' := 51) (As := [.int i1]) (rest := []) X Y 24 rfl rfl mRX7_245 (c_X2_lead l G h_live h_live_firms h_live_kindsTold h_live_places h_live_crowds h_live_pipsLeft h_live_notHome S1_points S1_home S1_men S1_turn S1_thrower S1_cube S1_owner S1_firms S1_kindsTold S1_places S1_crowds S1_pipsLeft S1_notHome i1) (mB hM hne) 1 rfl rfl [1, 2, 3, 4, 5, 6, 7] rfl rfl rfl (Nat.le_of_ble_eq_true rfl) ⟨rfl, rfl⟩ ⟨Nat.le_of_ble_eq_true rfl, Nat.le_of_ble_eq_true rfl⟩ ⟨Nat.zero_le _, Nat.zero_le _⟩ hl.1 (st' := fun u8 => [.int u8]) (fun _ => rfl) (fun u8 H locs huu8 Y => ?_)
          replace hM := mS hM huu8
          exact RT u8 _ _ _ _ _ hM (Or.inl ⟨rfl, rfl, _, rfl⟩) (X.d (k := 25) rfl) Y
        · replace hM := mI hM c7
          refine r_aload_n (pc' := 32) X hl 0 rfl rfl 15 rfl rfl ?_
          refine r_get (pc' := 35) (v := .ref h_live) X Y 16 rfl rfl fRX7_26 0 rfl rfl ?_
          refine r_getN (pc' := 38) (v := .ref h_live_pipsLeft) X Y 17 rfl rfl fRX7_242 1 rfl rfl ?_
          refine r_iload_n (pc' := 39) X hl 1 rfl rfl 18 rfl rfl ?_
          obtain ⟨g9, hM⟩ := mG hM hne
          refine r_iald (pc' := 40) X Y 19 rfl rfl 6 rfl (vin g9) ?_
          refine r_goto X 51 20 rfl (by decide) ?_
          exact RT (S1_pipsLeft (i1).toNatClampNeg) _ _ _ _ _ hM (Or.inl ⟨rfl, rfl, _, rfl⟩) (X.d (k := 25) rfl) Y
      · replace hM := mI hM c6
        refine r_ldc (pc' := 26) X mw324 11 rfl rfl ?_
        exact RT (-1000001 : Int32) _ _ _ _ _ hM (Or.inl ⟨rfl, rfl, _, rfl⟩) (X.d (k := 12) rfl) Y
  · replace hM := mE hM c2
    refine r_ldc (pc' := 9) X mw378 3 rfl rfl ?_
    exact RT (-1000002 : Int32) _ _ _ _ _ hM (Or.inl ⟨rfl, rfl, _, rfl⟩) (X.d (k := 4) rfl) Y

def M_X7_best (S0 : TF) (S1 : BD) (S2 : FS) (S3 : BD) (i1 : Int32) (i2 : Int32) (i3 : Int32) : Option (Int32 × FS × BD) :=
  ((M_X7_hasNoTable S0 S1).bind (fun u1 => (if u1 = 0 then ((M_X7_isThrow i1).bind (fun u3 => (if u3 = 0 then (some ((-1000001 : Int32), S2, S3)) else ((M_X7_within i2 (0 : Int32) (2 : Int32)).bind (fun u5 => (if u5 = 0 then (some ((-1000001 : Int32), S2, S3)) else ((M_X7_isChoice i3).bind (fun u7 => (if u7 = 0 then (some ((-1000001 : Int32), S2, S3)) else ((M_X7_isOver S0 S1).bind (fun u9 => (if u9 = 0 then ((M_X3_startFrom S2 S1 S3).bind (fun u11 => ((M_X3_greatestWorth_2 S2 u11 (bd_thrower S1) i1 i2).bind (fun u12 => (if i3 = 0 then (some (u12.2.1, u12.2.1, u12.2.2)) else (some (u12.1, u12.2.1, u12.2.2))))))) else (some ((-1000002 : Int32), S2, S3)))))))))))))) else (some ((-1000002 : Int32), S2, S3)))))
def q_X7_best : Room := { frames := 13, cells := 0, slots := 0, locals := 362 }
set_option maxHeartbeats 4000000 in
set_option maxRecDepth 100000 in
theorem c_X7_best (l : Launch) (G : gT) (h h_rows h_tape h_live h_draft h_images h_acts h_foresight h_asks h_live_firms h_live_kindsTold h_live_places h_live_crowds h_live_pipsLeft h_live_notHome h_foresight_spare h_foresight_told h_foresight_spare_firms h_foresight_spare_kindsTold h_foresight_spare_places h_foresight_spare_crowds h_foresight_spare_pipsLeft h_foresight_spare_notHome : Nat) (S0_latestFault : Int32) (S0_latestFinding : Int32) (S1_points : Int32) (S1_home : Int32) (S1_men : Int32) (S1_turn : Int32) (S1_thrower : Int32) (S1_cube : Int32) (S1_owner : Int32) (S1_firms : Nat → Int32) (S1_kindsTold : Nat → Int32) (S1_places : Nat → Int32) (S1_crowds : Nat → Int32) (S1_pipsLeft : Nat → Int32) (S1_notHome : Nat → Int32) (S2 : Int32) (S3_points : Int32) (S3_home : Int32) (S3_men : Int32) (S3_turn : Int32) (S3_thrower : Int32) (S3_cube : Int32) (S3_owner : Int32) (S3_firms : Nat → Int32) (S3_kindsTold : Nat → Int32) (S3_places : Nat → Int32) (S3_crowds : Nat → Int32) (S3_pipsLeft : Nat → Int32) (S3_notHome : Nat → Int32) (i1 : Int32) (i2 : Int32) (i3 : Int32) : CT l G yX7_best cX7_best 5 (some .int) q_X7_best [.ref h, .int i1, .int i2, .int i3] (wTF G h h_rows h_tape h_live h_draft h_images h_acts h_foresight h_asks S0_latestFault S0_latestFinding ++ wBD G h_live h_live_firms h_live_kindsTold h_live_places h_live_crowds h_live_pipsLeft h_live_notHome S1_points S1_home S1_men S1_turn S1_thrower S1_cube S1_owner S1_firms S1_kindsTold S1_places S1_crowds S1_pipsLeft S1_notHome ++ wFS G h_foresight h_foresight_spare h_foresight_told S2 ++ wBD G h_foresight_spare h_foresight_spare_firms h_foresight_spare_kindsTold h_foresight_spare_places h_foresight_spare_crowds h_foresight_spare_pipsLeft h_foresight_spare_notHome S3_points S3_home S3_men S3_turn S3_thrower S3_cube S3_owner S3_firms S3_kindsTold S3_places S3_crowds S3_pipsLeft S3_notHome) (M_X7_best (S0_latestFault, S0_latestFinding) (S1_points, S1_home, S1_men, S1_turn, S1_thrower, S1_cube, S1_owner, S1_firms, S1_kindsTold, S1_places, S1_crowds, S1_pipsLeft, S1_notHome) S2 (S3_points, S3_home, S3_men, S3_turn, S3_thrower, S3_cube, S3_owner, S3_firms, S3_kindsTold, S3_places, S3_crowds, S3_pipsLeft, S3_notHome) i1 i2 i3) (fun u => some (.int u.1)) (fun u => wTF G h h_rows h_tape h_live h_draft h_images h_acts h_foresight h_asks S0_latestFault S0_latestFinding ++ wBD G h_live h_live_firms h_live_kindsTold h_live_places h_live_crowds h_live_pipsLeft h_live_notHome S1_points S1_home S1_men S1_turn S1_thrower S1_cube S1_owner S1_firms S1_kindsTold S1_places S1_crowds S1_pipsLeft S1_notHome ++ wFS G h_foresight h_foresight_spare h_foresight_told u.2.1 ++ wBD G h_foresight_spare h_foresight_spare_firms h_foresight_spare_kindsTold h_foresight_spare_places h_foresight_spare_crowds h_foresight_spare_pipsLeft h_foresight_spare_notHome u.2.2.1 u.2.2.2.1 u.2.2.2.2.1 u.2.2.2.2.2.1 u.2.2.2.2.2.2.1 u.2.2.2.2.2.2.2.1 u.2.2.2.2.2.2.2.2.1 u.2.2.2.2.2.2.2.2.2.1 u.2.2.2.2.2.2.2.2.2.2.1 u.2.2.2.2.2.2.2.2.2.2.2.1 u.2.2.2.2.2.2.2.2.2.2.2.2.1 u.2.2.2.2.2.2.2.2.2.2.2.2.2.1 u.2.2.2.2.2.2.2.2.2.2.2.2.2.2) := by
  refine CT.of (P := PX7_best) (by decide) dPX7_best (Nat.le_of_ble_eq_true rfl) ?_
  intro p e s m args below meth c A Q ls hne X RT Y hl
  have hl : lv_has ls 5 [(0, .ref h), (1, .int i1), (2, .int i2), (3, .int i3)] := hl
  generalize hM : M_X7_best (S0_latestFault, S0_latestFinding) (S1_points, S1_home, S1_men, S1_turn, S1_thrower, S1_cube, S1_owner, S1_firms, S1_kindsTold, S1_places, S1_crowds, S1_pipsLeft, S1_notHome) S2 (S3_points, S3_home, S3_men, S3_turn, S3_thrower, S3_cube, S3_owner, S3_firms, S3_kindsTold, S3_places, S3_crowds, S3_pipsLeft, S3_notHome) i1 i2 i3 = MM at hne RT
  unfold M_X7_best at hM
  refine r_aload_n (pc' := 1) X hl 0 rfl rfl 0 rfl rfl ?_
  refine r_callV0 (pc' := 4) (As := []) (rest := []) X Y 1 rfl rfl mRX7_142 (c_X7_hasNoTable l G h h_rows h_tape h_live h_draft h_images h_acts h_foresight h_asks h_live_firms h_live_kindsTold h_live_places h_live_crowds h_live_pipsLeft h_live_notHome S0_latestFault S0_latestFinding S1_points S1_home S1_men S1_turn S1_thrower S1_cube S1_owner S1_firms S1_kindsTold S1_places S1_crowds S1_pipsLeft S1_notHome) (mB hM hne) 0 rfl rfl [0, 1, 2, 3, 4, 5, 6, 7] rfl rfl rfl (Nat.le_of_ble_eq_true rfl) ⟨rfl, rfl⟩ ⟨Nat.le_of_ble_eq_true rfl, Nat.le_of_ble_eq_true rfl⟩ ⟨Nat.zero_le _, Nat.zero_le _⟩ hl.1 (st' := fun u1 => [.int u1]) (fun _ => rfl) (fun u1 H locs huu1 Y => ?_)
  replace hM := mS hM huu1
  refine r_if_eq (pc' := 7) X 10 2 rfl rfl (by decide) (fun c2 => ?_) (fun c2 => ?_)
  · replace hM := mI hM c2
    refine r_iload_n (pc' := 11) X hl 1 rfl rfl 5 rfl rfl ?_
    refine r_callS0 (pc' := 14) (As := [.int i1]) (rest := []) X Y 6 rfl rfl mRX7_145 (c_X7_isThrow l G i1) (mB hM hne) rfl [] rfl rfl rfl (Nat.le_of_ble_eq_true rfl) ⟨rfl, rfl⟩ ⟨Nat.le_of_ble_eq_true rfl, Nat.le_of_ble_eq_true rfl⟩ ⟨Nat.zero_le _, Nat.zero_le _⟩ hl.1 (st' := fun u3 => [.int u3]) (fun _ => rfl) (fun u3 H locs huu3 Y => ?_)
    replace hM := mS hM huu3
    refine r_if_eq (pc' := 17) X 33 7 rfl rfl (by decide) (fun c4 => ?_) (fun c4 => ?_)
    · replace hM := mI hM c4
      refine r_ldc (pc' := 35) X mw324 16 rfl rfl ?_
      exact RT ((-1000001 : Int32), S2, (S3_points, S3_home, S3_men, S3_turn, S3_thrower, S3_cube, S3_owner, S3_firms, S3_kindsTold, S3_places, S3_crowds, S3_pipsLeft, S3_notHome)) _ _ _ _ _ hM (Or.inl ⟨rfl, rfl, _, rfl⟩) (X.d (k := 17) rfl) Y
    · replace hM := mE hM c4
      refine r_iload_n (pc' := 18) X hl 2 rfl rfl 8 rfl rfl ?_
      refine r_iconst (pc' := 19) X (0 : Int32) 9 rfl rfl rfl ?_
      refine r_iconst (pc' := 20) X (2 : Int32) 10 rfl rfl rfl ?_
      refine r_callS0 (pc' := 23) (As := [.int i2, .int (0 : Int32), .int (2 : Int32)]) (rest := []) X Y 11 rfl rfl mRX7_62 (c_X7_within l G i2 (0 : Int32) (2 : Int32)) (mB hM hne) rfl [] rfl rfl rfl (Nat.le_of_ble_eq_true rfl) ⟨rfl, rfl⟩ ⟨Nat.le_of_ble_eq_true rfl, Nat.le_of_ble_eq_true rfl⟩ ⟨Nat.zero_le _, Nat.zero_le _⟩ hl.1 (st' := fun u5 => [.int u5]) (fun _ => rfl) (fun u5 H locs huu5 Y => ?_)
      replace hM := mS hM huu5
      refine r_if_eq (pc' := 26) X 33 12 rfl rfl (by decide) (fun c6 => ?_) (fun c6 => ?_)
      · replace hM := mI hM c6
        refine r_ldc (pc' := 35) X mw324 16 rfl rfl ?_
        exact RT ((-1000001 : Int32), S2, (S3_points, S3_home, S3_men, S3_turn, S3_thrower, S3_cube, S3_owner, S3_firms, S3_kindsTold, S3_places, S3_crowds, S3_pipsLeft, S3_notHome)) _ _ _ _ _ hM (Or.inl ⟨rfl, rfl, _, rfl⟩) (X.d (k := 17) rfl) Y
      · replace hM := mE hM c6
        refine r_iload_n (pc' := 27) X hl 3 rfl rfl 13 rfl rfl ?_
        refine r_callS0 (pc' := 30) (As := [.int i3]) (rest := []) X Y 14 rfl rfl mRX7_239 (c_X7_isChoice l G i3) (mB hM hne) rfl [] rfl rfl rfl (Nat.le_of_ble_eq_true rfl) ⟨rfl, rfl⟩ ⟨Nat.le_of_ble_eq_true rfl, Nat.le_of_ble_eq_true rfl⟩ ⟨Nat.zero_le _, Nat.zero_le _⟩ hl.1 (st' := fun u7 => [.int u7]) (fun _ => rfl) (fun u7 H locs huu7 Y => ?_)
        replace hM := mS hM huu7
        refine r_if_ne (pc' := 33) X 36 15 rfl rfl (by decide) (fun c8 => ?_) (fun c8 => ?_)
        · replace hM := mE hM c8
          refine r_aload_n (pc' := 37) X hl 0 rfl rfl 18 rfl rfl ?_
          refine r_callV0 (pc' := 40) (As := []) (rest := []) X Y 19 rfl rfl mRX7_148 (c_X7_isOver l G h h_rows h_tape h_live h_draft h_images h_acts h_foresight h_asks h_live_firms h_live_kindsTold h_live_places h_live_crowds h_live_pipsLeft h_live_notHome S0_latestFault S0_latestFinding S1_points S1_home S1_men S1_turn S1_thrower S1_cube S1_owner S1_firms S1_kindsTold S1_places S1_crowds S1_pipsLeft S1_notHome) (mB hM hne) 0 rfl rfl [0, 1, 2, 3, 4, 5, 6, 7] rfl rfl rfl (Nat.le_of_ble_eq_true rfl) ⟨rfl, rfl⟩ ⟨Nat.le_of_ble_eq_true rfl, Nat.le_of_ble_eq_true rfl⟩ ⟨Nat.zero_le _, Nat.zero_le _⟩ hl.1 (st' := fun u9 => [.int u9]) (fun _ => rfl) (fun u9 H locs huu9 Y => ?_)
          replace hM := mS hM huu9
          refine r_if_eq (pc' := 43) X 46 20 rfl rfl (by decide) (fun c10 => ?_) (fun c10 => ?_)
          · replace hM := mI hM c10
            refine r_aload_n (pc' := 47) X hl 0 rfl rfl 23 rfl rfl ?_
            refine r_get (pc' := 50) (v := .ref h_foresight) X Y 24 rfl rfl fRX7_47 0 rfl rfl ?_
            refine r_aload_n (pc' := 51) X hl 0 rfl rfl 25 rfl rfl ?_
            refine r_get (pc' := 54) (v := .ref h_live) X Y 26 rfl rfl fRX7_26 0 rfl rfl ?_
            refine r_callV (pc' := 57) (As := [.ref h_live]) (rest := []) (wr := (wTF G h h_rows h_tape h_live h_draft h_images h_acts h_foresight h_asks S0_latestFault S0_latestFinding : va_W)) X Y 27 rfl rfl mRX7_248 (c_X3_startFrom l G h_foresight h_live h_foresight_spare h_foresight_told h_live_firms h_live_kindsTold h_live_places h_live_crowds h_live_pipsLeft h_live_notHome h_foresight_spare_firms h_foresight_spare_kindsTold h_foresight_spare_places h_foresight_spare_crowds h_foresight_spare_pipsLeft h_foresight_spare_notHome S2 S1_points S1_home S1_men S1_turn S1_thrower S1_cube S1_owner S1_firms S1_kindsTold S1_places S1_crowds S1_pipsLeft S1_notHome S3_points S3_home S3_men S3_turn S3_thrower S3_cube S3_owner S3_firms S3_kindsTold S3_places S3_crowds S3_pipsLeft S3_notHome) (mB hM hne) 8 rfl rfl [8, 1, 2, 3, 4, 5, 6, 7, 9, 10, 11, 12, 13, 14, 15] [0] [0, 2, 3, 4, 5, 6, 7, 8, 1, 9, 10, 11, 12, 13, 14, 15] rfl rfl ⟨rfl, rfl, rfl⟩ rfl (w2 := fun u11 => wTF G h h_rows h_tape h_live h_draft h_images h_acts h_foresight h_asks S0_latestFault S0_latestFinding ++ wBD G h_live h_live_firms h_live_kindsTold h_live_places h_live_crowds h_live_pipsLeft h_live_notHome S1_points S1_home S1_men S1_turn S1_thrower S1_cube S1_owner S1_firms S1_kindsTold S1_places S1_crowds S1_pipsLeft S1_notHome ++ wFS G h_foresight h_foresight_spare h_foresight_told S2 ++ wBD G h_foresight_spare h_foresight_spare_firms h_foresight_spare_kindsTold h_foresight_spare_places h_foresight_spare_crowds h_foresight_spare_pipsLeft h_foresight_spare_notHome u11.1 u11.2.1 u11.2.2.1 u11.2.2.2.1 u11.2.2.2.2.1 u11.2.2.2.2.2.1 u11.2.2.2.2.2.2.1 u11.2.2.2.2.2.2.2.1 u11.2.2.2.2.2.2.2.2.1 u11.2.2.2.2.2.2.2.2.2.1 u11.2.2.2.2.2.2.2.2.2.2.1 u11.2.2.2.2.2.2.2.2.2.2.2.1 u11.2.2.2.2.2.2.2.2.2.2.2.2) (fun _ => rfl) rfl (Nat.le_of_ble_eq_true rfl) ⟨rfl, rfl⟩ ⟨Nat.le_of_ble_eq_true rfl, Nat.le_of_ble_eq_true rfl⟩ ⟨Nat.zero_le _, Nat.zero_le _⟩ hl.1 (st' := fun u11 => []) (fun _ => rfl) (fun u11 H locs huu11 Y => ?_)
            obtain ⟨u11_points, u11_home, u11_men, u11_turn, u11_thrower, u11_cube, u11_owner, u11_firms, u11_kindsTold, u11_places, u11_crowds, u11_pipsLeft, u11_notHome⟩ := u11
            replace Y : rY G A s (wTF G h h_rows h_tape h_live h_draft h_images h_acts h_foresight h_asks S0_latestFault S0_latestFinding ++ wBD G h_live h_live_firms h_live_kindsTold h_live_places h_live_crowds h_live_pipsLeft h_live_notHome S1_points S1_home S1_men S1_turn S1_thrower S1_cube S1_owner S1_firms S1_kindsTold S1_places S1_crowds S1_pipsLeft S1_notHome ++ wFS G h_foresight h_foresight_spare h_foresight_told S2 ++ wBD G h_foresight_spare h_foresight_spare_firms h_foresight_spare_kindsTold h_foresight_spare_places h_foresight_spare_crowds h_foresight_spare_pipsLeft h_foresight_spare_notHome u11_points u11_home u11_men u11_turn u11_thrower u11_cube u11_owner u11_firms u11_kindsTold u11_places u11_crowds u11_pipsLeft u11_notHome) H locs := Y
            replace hM := mS hM huu11
            show W p l e q_X7_best s m args below meth c H locs 0 0 Q (F0 m 57 ls [])
            refine r_aload_n (pc' := 58) X hl 0 rfl rfl 28 rfl rfl ?_
            refine r_get (pc' := 61) (v := .ref h_foresight) X Y 29 rfl rfl fRX7_47 0 rfl rfl ?_
            refine r_aload_n (pc' := 62) X hl 0 rfl rfl 30 rfl rfl ?_
            refine r_get (pc' := 65) (v := .ref h_live) X Y 31 rfl rfl fRX7_26 0 rfl rfl ?_
            refine r_getN (pc' := 68) (v := .int S1_thrower) X Y 32 rfl rfl fRX7_168 1 rfl rfl ?_
            refine r_iload_n (pc' := 69) X hl 1 rfl rfl 33 rfl rfl ?_
            refine r_iload_n (pc' := 70) X hl 2 rfl rfl 34 rfl rfl ?_
            refine r_callN (pc' := 73) (As := [.int S1_thrower, .int i1, .int i2]) (rest := []) (wr := (wTF G h h_rows h_tape h_live h_draft h_images h_acts h_foresight h_asks S0_latestFault S0_latestFinding ++ wBD G h_live h_live_firms h_live_kindsTold h_live_places h_live_crowds h_live_pipsLeft h_live_notHome S1_points S1_home S1_men S1_turn S1_thrower S1_cube S1_owner S1_firms S1_kindsTold S1_places S1_crowds S1_pipsLeft S1_notHome : va_W)) X Y 35 rfl rfl mRX7_251 (c_X3_greatestWorth_2 l G h_foresight h_foresight_spare h_foresight_told h_foresight_spare_firms h_foresight_spare_kindsTold h_foresight_spare_places h_foresight_spare_crowds h_foresight_spare_pipsLeft h_foresight_spare_notHome S2 u11_points u11_home u11_men u11_turn u11_thrower u11_cube u11_owner u11_firms u11_kindsTold u11_places u11_crowds u11_pipsLeft u11_notHome S1_thrower i1 i2) (mB hM hne) 8 rfl rfl [8, 9, 10, 11, 12, 13, 14, 15] [0, 1, 2, 3, 4, 5, 6, 7] [0, 1, 2, 3, 4, 5, 6, 7, 8, 9, 10, 11, 12, 13, 14, 15] rfl rfl ⟨rfl, rfl, rfl⟩ rfl (w2 := fun u12 => wTF G h h_rows h_tape h_live h_draft h_images h_acts h_foresight h_asks S0_latestFault S0_latestFinding ++ wBD G h_live h_live_firms h_live_kindsTold h_live_places h_live_crowds h_live_pipsLeft h_live_notHome S1_points S1_home S1_men S1_turn S1_thrower S1_cube S1_owner S1_firms S1_kindsTold S1_places S1_crowds S1_pipsLeft S1_notHome ++ wFS G h_foresight h_foresight_spare h_foresight_told u12.2.1 ++ wBD G h_foresight_spare h_foresight_spare_firms h_foresight_spare_kindsTold h_foresight_spare_places h_foresight_spare_crowds h_foresight_spare_pipsLeft h_foresight_spare_notHome u12.2.2.1 u12.2.2.2.1 u12.2.2.2.2.1 u12.2.2.2.2.2.1 u12.2.2.2.2.2.2.1 u12.2.2.2.2.2.2.2.1 u12.2.2.2.2.2.2.2.2.1 u12.2.2.2.2.2.2.2.2.2.1 u12.2.2.2.2.2.2.2.2.2.2.1 u12.2.2.2.2.2.2.2.2.2.2.2.1 u12.2.2.2.2.2.2.2.2.2.2.2.2.1 u12.2.2.2.2.2.2.2.2.2.2.2.2.2.1 u12.2.2.2.2.2.2.2.2.2.2.2.2.2.2) (fun _ => rfl) rfl (Nat.le_of_ble_eq_true rfl) ⟨rfl, rfl⟩ ⟨Nat.le_of_ble_eq_true rfl, Nat.le_of_ble_eq_true rfl⟩ ⟨Nat.zero_le _, Nat.zero_le _⟩ hl.1 (st' := fun u12 => [.int u12.1]) (fun _ => rfl) (fun u12 H locs huu12 Y => ?_)
            obtain ⟨u12_1, u12_2_1, ⟨u12_2_2_points, u12_2_2_home, u12_2_2_men, u12_2_2_turn, u12_2_2_thrower, u12_2_2_cube, u12_2_2_owner, u12_2_2_firms, u12_2_2_kindsTold, u12_2_2_places, u12_2_2_crowds, u12_2_2_pipsLeft, u12_2_2_notHome⟩⟩ := u12
            replace Y : rY G A s (wTF G h h_rows h_tape h_live h_draft h_images h_acts h_foresight h_asks S0_latestFault S0_latestFinding ++ wBD G h_live h_live_firms h_live_kindsTold h_live_places h_live_crowds h_live_pipsLeft h_live_notHome S1_points S1_home S1_men S1_turn S1_thrower S1_cube S1_owner S1_firms S1_kindsTold S1_places S1_crowds S1_pipsLeft S1_notHome ++ wFS G h_foresight h_foresight_spare h_foresight_told u12_2_1 ++ wBD G h_foresight_spare h_foresight_spare_firms h_foresight_spare_kindsTold h_foresight_spare_places h_foresight_spare_crowds h_foresight_spare_pipsLeft h_foresight_spare_notHome u12_2_2_points u12_2_2_home u12_2_2_men u12_2_2_turn u12_2_2_thrower u12_2_2_cube u12_2_2_owner u12_2_2_firms u12_2_2_kindsTold u12_2_2_places u12_2_2_crowds u12_2_2_pipsLeft u12_2_2_notHome) H locs := Y
            replace hM := mS hM huu12
            show W p l e q_X7_best s m args below meth c H locs 0 0 Q (F0 m 73 ls [.int u12_1])
            refine r_istore (pc' := 75) (L' := [(4, .int u12_1), (0, .ref h), (1, .int i1), (2, .int i2), (3, .int i3)]) X hl 36 rfl rfl (by decide) rfl (fun ls hl => ?_)
            refine r_iload_n (pc' := 76) X hl 4 rfl rfl 37 rfl rfl ?_
            refine r_if_ne (pc' := 79) X 89 38 rfl rfl (by decide) (fun c13 => ?_) (fun c13 => ?_)
            · replace hM := mE hM c13
              refine r_iload (pc' := 91) X hl 0 rfl 43 rfl rfl ?_
              exact RT (u12_1, u12_2_1, (u12_2_2_points, u12_2_2_home, u12_2_2_men, u12_2_2_turn, u12_2_2_thrower, u12_2_2_cube, u12_2_2_owner, u12_2_2_firms, u12_2_2_kindsTold, u12_2_2_places, u12_2_2_crowds, u12_2_2_pipsLeft, u12_2_2_notHome)) _ _ _ _ _ hM (Or.inl ⟨rfl, rfl, _, rfl⟩) (X.d (k := 44) rfl) Y
            · replace hM := mI hM c13
              refine r_aload_n (pc' := 80) X hl 1 rfl rfl 39 rfl rfl ?_
              refine r_get (pc' := 83) (v := .ref h_foresight) X Y 40 rfl rfl fRX7_47 0 rfl rfl ?_
              refine r_getN (pc' := 86) (v := .int u12_2_1) X Y 41 rfl rfl fRX7_254 8 rfl rfl ?_
              refine r_goto X 91 42 rfl (by decide) ?_
              exact RT (u12_2_1, u12_2_1, (u12_2_2_points, u12_2_2_home, u12_2_2_men, u12_2_2_turn, u12_2_2_thrower, u12_2_2_cube, u12_2_2_owner, u12_2_2_firms, u12_2_2_kindsTold, u12_2_2_places, u12_2_2_crowds, u12_2_2_pipsLeft, u12_2_2_notHome)) _ _ _ _ _ hM (Or.inl ⟨rfl, rfl, _, rfl⟩) (X.d (k := 44) rfl) Y
          · replace hM := mE hM c10
            refine r_ldc (pc' := 45) X mw378 21 rfl rfl ?_
            exact RT ((-1000002 : Int32), S2, (S3_points, S3_home, S3_men, S3_turn, S3_thrower, S3_cube, S3_owner, S3_firms, S3_kindsTold, S3_places, S3_crowds, S3_pipsLeft, S3_notHome)) _ _ _ _ _ hM (Or.inl ⟨rfl, rfl, _, rfl⟩) (X.d (k := 22) rfl) Y
        · replace hM := mI hM c8
          refine r_ldc (pc' := 35) X mw324 16 rfl rfl ?_
          exact RT ((-1000001 : Int32), S2, (S3_points, S3_home, S3_men, S3_turn, S3_thrower, S3_cube, S3_owner, S3_firms, S3_kindsTold, S3_places, S3_crowds, S3_pipsLeft, S3_notHome)) _ _ _ _ _ hM (Or.inl ⟨rfl, rfl, _, rfl⟩) (X.d (k := 17) rfl) Y
  · replace hM := mE hM c2
    refine r_ldc (pc' := 9) X mw378 3 rfl rfl ?_
    exact RT ((-1000002 : Int32), S2, (S3_points, S3_home, S3_men, S3_turn, S3_thrower, S3_cube, S3_owner, S3_firms, S3_kindsTold, S3_places, S3_crowds, S3_pipsLeft, S3_notHome)) _ _ _ _ _ hM (Or.inl ⟨rfl, rfl, _, rfl⟩) (X.d (k := 4) rfl) Y

def M_X7_race (S0 : TF) (S1 : BD) (S2 : FS) (S3 : BD) (i1 : Int32) : Option (Int32 × BD) :=
  ((M_X7_hasNoTable S0 S1).bind (fun u1 => (if u1 = 0 then ((M_X7_isFirm i1).bind (fun u3 => (if u3 = 0 then (some ((-1000001 : Int32), S3)) else ((M_X2_hasMen S1 i1).bind (fun u5 => (if u5 = 0 then (some ((-1000002 : Int32), S3)) else ((M_X3_turnsAlone S2 S1 S3 i1).bind (fun u7 => (some (u7.1, u7.2)))))))))) else (some ((-1000002 : Int32), S3)))))
def q_X7_race : Room := { frames := 6, cells := 0, slots := 0, locals := 182 }
set_option maxHeartbeats 4000000 in
set_option maxRecDepth 100000 in
theorem c_X7_race (l : Launch) (G : gT) (h h_rows h_tape h_live h_draft h_images h_acts h_foresight h_asks h_live_firms h_live_kindsTold h_live_places h_live_crowds h_live_pipsLeft h_live_notHome h_foresight_spare h_foresight_told h_foresight_spare_firms h_foresight_spare_kindsTold h_foresight_spare_places h_foresight_spare_crowds h_foresight_spare_pipsLeft h_foresight_spare_notHome : Nat) (S0_latestFault : Int32) (S0_latestFinding : Int32) (S1_points : Int32) (S1_home : Int32) (S1_men : Int32) (S1_turn : Int32) (S1_thrower : Int32) (S1_cube : Int32) (S1_owner : Int32) (S1_firms : Nat → Int32) (S1_kindsTold : Nat → Int32) (S1_places : Nat → Int32) (S1_crowds : Nat → Int32) (S1_pipsLeft : Nat → Int32) (S1_notHome : Nat → Int32) (S2 : Int32) (S3_points : Int32) (S3_home : Int32) (S3_men : Int32) (S3_turn : Int32) (S3_thrower : Int32) (S3_cube : Int32) (S3_owner : Int32) (S3_firms : Nat → Int32) (S3_kindsTold : Nat → Int32) (S3_places : Nat → Int32) (S3_crowds : Nat → Int32) (S3_pipsLeft : Nat → Int32) (S3_notHome : Nat → Int32) (i1 : Int32) : CT l G yX7_race cX7_race 2 (some .int) q_X7_race [.ref h, .int i1] (wTF G h h_rows h_tape h_live h_draft h_images h_acts h_foresight h_asks S0_latestFault S0_latestFinding ++ wBD G h_live h_live_firms h_live_kindsTold h_live_places h_live_crowds h_live_pipsLeft h_live_notHome S1_points S1_home S1_men S1_turn S1_thrower S1_cube S1_owner S1_firms S1_kindsTold S1_places S1_crowds S1_pipsLeft S1_notHome ++ wFS G h_foresight h_foresight_spare h_foresight_told S2 ++ wBD G h_foresight_spare h_foresight_spare_firms h_foresight_spare_kindsTold h_foresight_spare_places h_foresight_spare_crowds h_foresight_spare_pipsLeft h_foresight_spare_notHome S3_points S3_home S3_men S3_turn S3_thrower S3_cube S3_owner S3_firms S3_kindsTold S3_places S3_crowds S3_pipsLeft S3_notHome) (M_X7_race (S0_latestFault, S0_latestFinding) (S1_points, S1_home, S1_men, S1_turn, S1_thrower, S1_cube, S1_owner, S1_firms, S1_kindsTold, S1_places, S1_crowds, S1_pipsLeft, S1_notHome) S2 (S3_points, S3_home, S3_men, S3_turn, S3_thrower, S3_cube, S3_owner, S3_firms, S3_kindsTold, S3_places, S3_crowds, S3_pipsLeft, S3_notHome) i1) (fun u => some (.int u.1)) (fun u => wTF G h h_rows h_tape h_live h_draft h_images h_acts h_foresight h_asks S0_latestFault S0_latestFinding ++ wBD G h_live h_live_firms h_live_kindsTold h_live_places h_live_crowds h_live_pipsLeft h_live_notHome S1_points S1_home S1_men S1_turn S1_thrower S1_cube S1_owner S1_firms S1_kindsTold S1_places S1_crowds S1_pipsLeft S1_notHome ++ wFS G h_foresight h_foresight_spare h_foresight_told S2 ++ wBD G h_foresight_spare h_foresight_spare_firms h_foresight_spare_kindsTold h_foresight_spare_places h_foresight_spare_crowds h_foresight_spare_pipsLeft h_foresight_spare_notHome u.2.1 u.2.2.1 u.2.2.2.1 u.2.2.2.2.1 u.2.2.2.2.2.1 u.2.2.2.2.2.2.1 u.2.2.2.2.2.2.2.1 u.2.2.2.2.2.2.2.2.1 u.2.2.2.2.2.2.2.2.2.1 u.2.2.2.2.2.2.2.2.2.2.1 u.2.2.2.2.2.2.2.2.2.2.2.1 u.2.2.2.2.2.2.2.2.2.2.2.2.1 u.2.2.2.2.2.2.2.2.2.2.2.2.2) := by
  refine CT.of (P := PX7_race) (by decide) dPX7_race (Nat.le_of_ble_eq_true rfl) ?_
  intro p e s m args below meth c A Q ls hne X RT Y hl
  have hl : lv_has ls 2 [(0, .ref h), (1, .int i1)] := hl
  generalize hM : M_X7_race (S0_latestFault, S0_latestFinding) (S1_points, S1_home, S1_men, S1_turn, S1_thrower, S1_cube, S1_owner, S1_firms, S1_kindsTold, S1_places, S1_crowds, S1_pipsLeft, S1_notHome) S2 (S3_points, S3_home, S3_men, S3_turn, S3_thrower, S3_cube, S3_owner, S3_firms, S3_kindsTold, S3_places, S3_crowds, S3_pipsLeft, S3_notHome) i1 = MM at hne RT
  unfold M_X7_race at hM
  refine r_aload_n (pc' := 1) X hl 0 rfl rfl 0 rfl rfl ?_
  refine r_callV0 (pc' := 4) (As := []) (rest := []) X Y 1 rfl rfl mRX7_142 (c_X7_hasNoTable l G h h_rows h_tape h_live h_draft h_images h_acts h_foresight h_asks h_live_firms h_live_kindsTold h_live_places h_live_crowds h_live_pipsLeft h_live_notHome S0_latestFault S0_latestFinding S1_points S1_home S1_men S1_turn S1_thrower S1_cube S1_owner S1_firms S1_kindsTold S1_places S1_crowds S1_pipsLeft S1_notHome) (mB hM hne) 0 rfl rfl [0, 1, 2, 3, 4, 5, 6, 7] rfl rfl rfl (Nat.le_of_ble_eq_true rfl) ⟨rfl, rfl⟩ ⟨Nat.le_of_ble_eq_true rfl, Nat.le_of_ble_eq_true rfl⟩ ⟨Nat.zero_le _, Nat.zero_le _⟩ hl.1 (st' := fun u1 => [.int u1]) (fun _ => rfl) (fun u1 H locs huu1 Y => ?_)
  replace hM := mS hM huu1
  refine r_if_eq (pc' := 7) X 10 2 rfl rfl (by decide) (fun c2 => ?_) (fun c2 => ?_)
  · replace hM := mI hM c2
    refine r_iload_n (pc' := 11) X hl 1 rfl rfl 5 rfl rfl ?_
    refine r_callS0 (pc' := 14) (As := [.int i1]) (rest := []) X Y 6 rfl rfl mRX7_212 (c_X7_isFirm l G i1) (mB hM hne) rfl [] rfl rfl rfl (Nat.le_of_ble_eq_true rfl) ⟨rfl, rfl⟩ ⟨Nat.le_of_ble_eq_true rfl, Nat.le_of_ble_eq_true rfl⟩ ⟨Nat.zero_le _, Nat.zero_le _⟩ hl.1 (st' := fun u3 => [.int u3]) (fun _ => rfl) (fun u3 H locs huu3 Y => ?_)
    replace hM := mS hM huu3
    refine r_if_ne (pc' := 17) X 20 7 rfl rfl (by decide) (fun c4 => ?_) (fun c4 => ?_)
    · replace hM := mE hM c4
      refine r_aload_n (pc' := 21) X hl 0 rfl rfl 10 rfl rfl ?_
      refine r_get (pc' := 24) (v := .ref h_live) X Y 11 rfl rfl fRX7_26 0 rfl rfl ?_
      refine r_iload_n (pc' := 25) X hl 1 rfl rfl 12 rfl rfl ?_
      refine r_callV0 (pc' := 28) (As := [.int i1]) (rest := []) X Y 13 rfl rfl mRX7_257 (c_X2_hasMen l G h_live h_live_firms h_live_kindsTold h_live_places h_live_crowds h_live_pipsLeft h_live_notHome S1_points S1_home S1_men S1_turn S1_thrower S1_cube S1_owner S1_firms S1_kindsTold S1_places S1_crowds S1_pipsLeft S1_notHome i1) (mB hM hne) 1 rfl rfl [1, 2, 3, 4, 5, 6, 7] rfl rfl rfl (Nat.le_of_ble_eq_true rfl) ⟨rfl, rfl⟩ ⟨Nat.le_of_ble_eq_true rfl, Nat.le_of_ble_eq_true rfl⟩ ⟨Nat.zero_le _, Nat.zero_le _⟩ hl.1 (st' := fun u5 => [.int u5]) (fun _ => rfl) (fun u5 H locs huu5 Y => ?_)
      replace hM := mS hM huu5
      refine r_if_ne (pc' := 31) X 34 14 rfl rfl (by decide) (fun c6 => ?_) (fun c6 => ?_)
      · replace hM := mE hM c6
        refine r_aload_n (pc' := 35) X hl 0 rfl rfl 17 rfl rfl ?_
        refine r_get (pc' := 38) (v := .ref h_foresight) X Y 18 rfl rfl fRX7_47 0 rfl rfl ?_
        refine r_aload_n (pc' := 39) X hl 0 rfl rfl 19 rfl rfl ?_
        refine r_get (pc' := 42) (v := .ref h_live) X Y 20 rfl rfl fRX7_26 0 rfl rfl ?_
        refine r_iload_n (pc' := 43) X hl 1 rfl rfl 21 rfl rfl ?_
        refine r_callV (pc' := 46) (As := [.ref h_live, .int i1]) (rest := []) (wr := (wTF G h h_rows h_tape h_live h_draft h_images h_acts h_foresight h_asks S0_latestFault S0_latestFinding : va_W)) X Y 22 rfl rfl mRX7_260 (c_X3_turnsAlone l G h_foresight h_live h_foresight_spare h_foresight_told h_live_firms h_live_kindsTold h_live_places h_live_crowds h_live_pipsLeft h_live_notHome h_foresight_spare_firms h_foresight_spare_kindsTold h_foresight_spare_places h_foresight_spare_crowds h_foresight_spare_pipsLeft h_foresight_spare_notHome S2 S1_points S1_home S1_men S1_turn S1_thrower S1_cube S1_owner S1_firms S1_kindsTold S1_places S1_crowds S1_pipsLeft S1_notHome S3_points S3_home S3_men S3_turn S3_thrower S3_cube S3_owner S3_firms S3_kindsTold S3_places S3_crowds S3_pipsLeft S3_notHome i1) (mB hM hne) 8 rfl rfl [8, 1, 2, 3, 4, 5, 6, 7, 9, 10, 11, 12, 13, 14, 15] [0] [0, 2, 3, 4, 5, 6, 7, 8, 1, 9, 10, 11, 12, 13, 14, 15] rfl rfl ⟨rfl, rfl, rfl⟩ rfl (w2 := fun u7 => wTF G h h_rows h_tape h_live h_draft h_images h_acts h_foresight h_asks S0_latestFault S0_latestFinding ++ wBD G h_live h_live_firms h_live_kindsTold h_live_places h_live_crowds h_live_pipsLeft h_live_notHome S1_points S1_home S1_men S1_turn S1_thrower S1_cube S1_owner S1_firms S1_kindsTold S1_places S1_crowds S1_pipsLeft S1_notHome ++ wFS G h_foresight h_foresight_spare h_foresight_told S2 ++ wBD G h_foresight_spare h_foresight_spare_firms h_foresight_spare_kindsTold h_foresight_spare_places h_foresight_spare_crowds h_foresight_spare_pipsLeft h_foresight_spare_notHome u7.2.1 u7.2.2.1 u7.2.2.2.1 u7.2.2.2.2.1 u7.2.2.2.2.2.1 u7.2.2.2.2.2.2.1 u7.2.2.2.2.2.2.2.1 u7.2.2.2.2.2.2.2.2.1 u7.2.2.2.2.2.2.2.2.2.1 u7.2.2.2.2.2.2.2.2.2.2.1 u7.2.2.2.2.2.2.2.2.2.2.2.1 u7.2.2.2.2.2.2.2.2.2.2.2.2.1 u7.2.2.2.2.2.2.2.2.2.2.2.2.2) (fun _ => rfl) rfl (Nat.le_of_ble_eq_true rfl) ⟨rfl, rfl⟩ ⟨Nat.le_of_ble_eq_true rfl, Nat.le_of_ble_eq_true rfl⟩ ⟨Nat.zero_le _, Nat.zero_le _⟩ hl.1 (st' := fun u7 => [.int u7.1]) (fun _ => rfl) (fun u7 H locs huu7 Y => ?_)
        obtain ⟨u7_1, ⟨u7_2_points, u7_2_home, u7_2_men, u7_2_turn, u7_2_thrower, u7_2_cube, u7_2_owner, u7_2_firms, u7_2_kindsTold, u7_2_places, u7_2_crowds, u7_2_pipsLeft, u7_2_notHome⟩⟩ := u7
        replace Y : rY G A s (wTF G h h_rows h_tape h_live h_draft h_images h_acts h_foresight h_asks S0_latestFault S0_latestFinding ++ wBD G h_live h_live_firms h_live_kindsTold h_live_places h_live_crowds h_live_pipsLeft h_live_notHome S1_points S1_home S1_men S1_turn S1_thrower S1_cube S1_owner S1_firms S1_kindsTold S1_places S1_crowds S1_pipsLeft S1_notHome ++ wFS G h_foresight h_foresight_spare h_foresight_told S2 ++ wBD G h_foresight_spare h_foresight_spare_firms h_foresight_spare_kindsTold h_foresight_spare_places h_foresight_spare_crowds h_foresight_spare_pipsLeft h_foresight_spare_notHome u7_2_points u7_2_home u7_2_men u7_2_turn u7_2_thrower u7_2_cube u7_2_owner u7_2_firms u7_2_kindsTold u7_2_places u7_2_crowds u7_2_pipsLeft u7_2_notHome) H locs := Y
        replace hM := mS hM huu7
        show W p l e q_X7_race s m args below meth c H locs 0 0 Q (F0 m 46 ls [.int u7_1])
        exact RT (u7_1, (u7_2_points, u7_2_home, u7_2_men, u7_2_turn, u7_2_thrower, u7_2_cube, u7_2_owner, u7_2_firms, u7_2_kindsTold, u7_2_places, u7_2_crowds, u7_2_pipsLeft, u7_2_notHome)) _ _ _ _ _ hM (Or.inl ⟨rfl, rfl, _, rfl⟩) (X.d (k := 23) rfl) Y
      · replace hM := mI hM c6
        refine r_ldc (pc' := 33) X mw378 15 rfl rfl ?_
        exact RT ((-1000002 : Int32), (S3_points, S3_home, S3_men, S3_turn, S3_thrower, S3_cube, S3_owner, S3_firms, S3_kindsTold, S3_places, S3_crowds, S3_pipsLeft, S3_notHome)) _ _ _ _ _ hM (Or.inl ⟨rfl, rfl, _, rfl⟩) (X.d (k := 16) rfl) Y
    · replace hM := mI hM c4
      refine r_ldc (pc' := 19) X mw324 8 rfl rfl ?_
      exact RT ((-1000001 : Int32), (S3_points, S3_home, S3_men, S3_turn, S3_thrower, S3_cube, S3_owner, S3_firms, S3_kindsTold, S3_places, S3_crowds, S3_pipsLeft, S3_notHome)) _ _ _ _ _ hM (Or.inl ⟨rfl, rfl, _, rfl⟩) (X.d (k := 9) rfl) Y
  · replace hM := mE hM c2
    refine r_ldc (pc' := 9) X mw378 3 rfl rfl ?_
    exact RT ((-1000002 : Int32), (S3_points, S3_home, S3_men, S3_turn, S3_thrower, S3_cube, S3_owner, S3_firms, S3_kindsTold, S3_places, S3_crowds, S3_pipsLeft, S3_notHome)) _ _ _ _ _ hM (Or.inl ⟨rfl, rfl, _, rfl⟩) (X.d (k := 4) rfl) Y

def M_X7_safe (S0 : TF) (S1 : BD) (i1 : Int32) : Option (Int32) :=
  ((M_X7_hasNoTable S0 S1).bind (fun u1 => (if u1 = 0 then ((M_X7_isFirm i1).bind (fun u3 => (if u3 = 0 then (some (-1000001 : Int32)) else ((M_X2_menInCompany S1 i1).bind (fun u5 => (some u5)))))) else (some (-1000002 : Int32)))))
def q_X7_safe : Room := { frames := 3, cells := 0, slots := 0, locals := 106 }
set_option maxHeartbeats 4000000 in
set_option maxRecDepth 100000 in
theorem c_X7_safe (l : Launch) (G : gT) (h h_rows h_tape h_live h_draft h_images h_acts h_foresight h_asks h_live_firms h_live_kindsTold h_live_places h_live_crowds h_live_pipsLeft h_live_notHome : Nat) (S0_latestFault : Int32) (S0_latestFinding : Int32) (S1_points : Int32) (S1_home : Int32) (S1_men : Int32) (S1_turn : Int32) (S1_thrower : Int32) (S1_cube : Int32) (S1_owner : Int32) (S1_firms : Nat → Int32) (S1_kindsTold : Nat → Int32) (S1_places : Nat → Int32) (S1_crowds : Nat → Int32) (S1_pipsLeft : Nat → Int32) (S1_notHome : Nat → Int32) (i1 : Int32) : CT l G yX7_safe cX7_safe 2 (some .int) q_X7_safe [.ref h, .int i1] (wTF G h h_rows h_tape h_live h_draft h_images h_acts h_foresight h_asks S0_latestFault S0_latestFinding ++ wBD G h_live h_live_firms h_live_kindsTold h_live_places h_live_crowds h_live_pipsLeft h_live_notHome S1_points S1_home S1_men S1_turn S1_thrower S1_cube S1_owner S1_firms S1_kindsTold S1_places S1_crowds S1_pipsLeft S1_notHome) (M_X7_safe (S0_latestFault, S0_latestFinding) (S1_points, S1_home, S1_men, S1_turn, S1_thrower, S1_cube, S1_owner, S1_firms, S1_kindsTold, S1_places, S1_crowds, S1_pipsLeft, S1_notHome) i1) (fun u => some (.int u)) (fun u => wTF G h h_rows h_tape h_live h_draft h_images h_acts h_foresight h_asks S0_latestFault S0_latestFinding ++ wBD G h_live h_live_firms h_live_kindsTold h_live_places h_live_crowds h_live_pipsLeft h_live_notHome S1_points S1_home S1_men S1_turn S1_thrower S1_cube S1_owner S1_firms S1_kindsTold S1_places S1_crowds S1_pipsLeft S1_notHome) := by
  refine CT.of (P := PX7_safe) (by decide) dPX7_safe (Nat.le_of_ble_eq_true rfl) ?_
  intro p e s m args below meth c A Q ls hne X RT Y hl
  have hl : lv_has ls 2 [(0, .ref h), (1, .int i1)] := hl
  generalize hM : M_X7_safe (S0_latestFault, S0_latestFinding) (S1_points, S1_home, S1_men, S1_turn, S1_thrower, S1_cube, S1_owner, S1_firms, S1_kindsTold, S1_places, S1_crowds, S1_pipsLeft, S1_notHome) i1 = MM at hne RT
  unfold M_X7_safe at hM
  refine r_aload_n (pc' := 1) X hl 0 rfl rfl 0 rfl rfl ?_
  refine r_callV0 (pc' := 4) (As := []) (rest := []) X Y 1 rfl rfl mRX7_142 (c_X7_hasNoTable l G h h_rows h_tape h_live h_draft h_images h_acts h_foresight h_asks h_live_firms h_live_kindsTold h_live_places h_live_crowds h_live_pipsLeft h_live_notHome S0_latestFault S0_latestFinding S1_points S1_home S1_men S1_turn S1_thrower S1_cube S1_owner S1_firms S1_kindsTold S1_places S1_crowds S1_pipsLeft S1_notHome) (mB hM hne) 0 rfl rfl [0, 1, 2, 3, 4, 5, 6, 7] rfl rfl rfl (Nat.le_of_ble_eq_true rfl) ⟨rfl, rfl⟩ ⟨Nat.le_of_ble_eq_true rfl, Nat.le_of_ble_eq_true rfl⟩ ⟨Nat.zero_le _, Nat.zero_le _⟩ hl.1 (st' := fun u1 => [.int u1]) (fun _ => rfl) (fun u1 H locs huu1 Y => ?_)
  replace hM := mS hM huu1
  refine r_if_eq (pc' := 7) X 10 2 rfl rfl (by decide) (fun c2 => ?_) (fun c2 => ?_)
  · replace hM := mI hM c2
    refine r_iload_n (pc' := 11) X hl 1 rfl rfl 5 rfl rfl ?_
    refine r_callS0 (pc' := 14) (As := [.int i1]) (rest := []) X Y 6 rfl rfl mRX7_212 (c_X7_isFirm l G i1) (mB hM hne) rfl [] rfl rfl rfl (Nat.le_of_ble_eq_true rfl) ⟨rfl, rfl⟩ ⟨Nat.le_of_ble_eq_true rfl, Nat.le_of_ble_eq_true rfl⟩ ⟨Nat.zero_le _, Nat.zero_le _⟩ hl.1 (st' := fun u3 => [.int u3]) (fun _ => rfl) (fun u3 H locs huu3 Y => ?_)
    replace hM := mS hM huu3
    refine r_if_ne (pc' := 17) X 20 7 rfl rfl (by decide) (fun c4 => ?_) (fun c4 => ?_)
    · replace hM := mE hM c4
      refine r_aload_n (pc' := 21) X hl 0 rfl rfl 10 rfl rfl ?_
      refine r_get (pc' := 24) (v := .ref h_live) X Y 11 rfl rfl fRX7_26 0 rfl rfl ?_
      refine r_iload_n (pc' := 25) X hl 1 rfl rfl 12 rfl rfl ?_
      refine r_callV0 (pc' := 28) (As := [.int i1]) (rest := []) X Y 13 rfl rfl mRX7_264 (c_X2_menInCompany l G h_live h_live_firms h_live_kindsTold h_live_places h_live_crowds h_live_pipsLeft h_live_notHome S1_points S1_home S1_men S1_turn S1_thrower S1_cube S1_owner S1_firms S1_kindsTold S1_places S1_crowds S1_pipsLeft S1_notHome i1) (mB hM hne) 1 rfl rfl [1, 2, 3, 4, 5, 6, 7] rfl rfl rfl (Nat.le_of_ble_eq_true rfl) ⟨rfl, rfl⟩ ⟨Nat.le_of_ble_eq_true rfl, Nat.le_of_ble_eq_true rfl⟩ ⟨Nat.zero_le _, Nat.zero_le _⟩ hl.1 (st' := fun u5 => [.int u5]) (fun _ => rfl) (fun u5 H locs huu5 Y => ?_)
      replace hM := mS hM huu5
      exact RT u5 _ _ _ _ _ hM (Or.inl ⟨rfl, rfl, _, rfl⟩) (X.d (k := 14) rfl) Y
    · replace hM := mI hM c4
      refine r_ldc (pc' := 19) X mw324 8 rfl rfl ?_
      exact RT (-1000001 : Int32) _ _ _ _ _ hM (Or.inl ⟨rfl, rfl, _, rfl⟩) (X.d (k := 9) rfl) Y
  · replace hM := mE hM c2
    refine r_ldc (pc' := 9) X mw378 3 rfl rfl ?_
    exact RT (-1000002 : Int32) _ _ _ _ _ hM (Or.inl ⟨rfl, rfl, _, rfl⟩) (X.d (k := 4) rfl) Y

def M_X7_cast (S0 : TF) (S1 : BD) (S2 : RW) (S3 : FS) (S4 : IA) (S5 : BD) (i1 : Int32) (i2 : Int32) : Option (Int32 × TF × IA × BD) :=
  ((M_X7_hasNoTable S0 S1).bind (fun u1 => (if u1 = 0 then ((M_X7_isRow i1).bind (fun u3 => (if u3 = 0 then (some ((-1000001 : Int32), S0, S4, S5)) else ((M_X7_isOver S0 S1).bind (fun u5 => (if u5 = 0 then ((M_X5_findingFrom S2 i1 i2 (bd_men S1)).bind (fun u7 => (if u7 = 0 then ((M_X5_read 8 S2 S4 i1 i2 (bd_men S1)).bind (fun u9 => ((M_X3_throwsSo S3 S1 S5 u9).bind (fun u10 => ((M_X7_unfound S0 u10.1).bind (fun u11 => (some (u11.1, u11.2, u9, u10.2)))))))) else ((M_X7_found S0 u7).bind (fun u12 => (some (u12.1, u12.2, S4, S5))))))) else (some ((-1000002 : Int32), S0, S4, S5)))))))) else (some ((-1000002 : Int32), S0, S4, S5)))))
def q_X7_cast : Room := { frames := 7, cells := 0, slots := 0, locals := 203 }
set_option maxHeartbeats 4000000 in
set_option maxRecDepth 100000 in
theorem c_X7_cast (l : Launch) (G : gT) (h h_rows h_tape h_live h_draft h_images h_acts h_foresight h_asks h_live_firms h_live_kindsTold h_live_places h_live_crowds h_live_pipsLeft h_live_notHome h_rows_lanes h_rows_sizes h_rows_items h_foresight_spare h_foresight_told h_foresight_spare_firms h_foresight_spare_kindsTold h_foresight_spare_places h_foresight_spare_crowds h_foresight_spare_pipsLeft h_foresight_spare_notHome : Nat) (S0_latestFault : Int32) (S0_latestFinding : Int32) (S1_points : Int32) (S1_home : Int32) (S1_men : Int32) (S1_turn : Int32) (S1_thrower : Int32) (S1_cube : Int32) (S1_owner : Int32) (S1_firms : Nat → Int32) (S1_kindsTold : Nat → Int32) (S1_places : Nat → Int32) (S1_crowds : Nat → Int32) (S1_pipsLeft : Nat → Int32) (S1_notHome : Nat → Int32) (S2_lanes : Nat → Int32) (S2_sizes : Nat → Int32) (S2_items : Nat → Int32) (S3 : Int32) (S4 : Nat → Int32) (S5_points : Int32) (S5_home : Int32) (S5_men : Int32) (S5_turn : Int32) (S5_thrower : Int32) (S5_cube : Int32) (S5_owner : Int32) (S5_firms : Nat → Int32) (S5_kindsTold : Nat → Int32) (S5_places : Nat → Int32) (S5_crowds : Nat → Int32) (S5_pipsLeft : Nat → Int32) (S5_notHome : Nat → Int32) (i1 : Int32) (i2 : Int32) : CT l G yX7_cast cX7_cast 4 (some .int) q_X7_cast [.ref h, .int i1, .int i2] (wTF G h h_rows h_tape h_live h_draft h_images h_acts h_foresight h_asks S0_latestFault S0_latestFinding ++ wBD G h_live h_live_firms h_live_kindsTold h_live_places h_live_crowds h_live_pipsLeft h_live_notHome S1_points S1_home S1_men S1_turn S1_thrower S1_cube S1_owner S1_firms S1_kindsTold S1_places S1_crowds S1_pipsLeft S1_notHome ++ wRW G h_rows h_rows_lanes h_rows_sizes h_rows_items S2_lanes S2_sizes S2_items ++ wFS G h_foresight h_foresight_spare h_foresight_told S3 ++ wIA G h_foresight_told 8 S4 ++ wBD G h_foresight_spare h_foresight_spare_firms h_foresight_spare_kindsTold h_foresight_spare_places h_foresight_spare_crowds h_foresight_spare_pipsLeft h_foresight_spare_notHome S5_points S5_home S5_men S5_turn S5_thrower S5_cube S5_owner S5_firms S5_kindsTold S5_places S5_crowds S5_pipsLeft S5_notHome) (M_X7_cast (S0_latestFault, S0_latestFinding) (S1_points, S1_home, S1_men, S1_turn, S1_thrower, S1_cube, S1_owner, S1_firms, S1_kindsTold, S1_places, S1_crowds, S1_pipsLeft, S1_notHome) (S2_lanes, S2_sizes, S2_items) S3 S4 (S5_points, S5_home, S5_men, S5_turn, S5_thrower, S5_cube, S5_owner, S5_firms, S5_kindsTold, S5_places, S5_crowds, S5_pipsLeft, S5_notHome) i1 i2) (fun u => some (.int u.1)) (fun u => wTF G h h_rows h_tape h_live h_draft h_images h_acts h_foresight h_asks u.2.1.1 u.2.1.2 ++ wBD G h_live h_live_firms h_live_kindsTold h_live_places h_live_crowds h_live_pipsLeft h_live_notHome S1_points S1_home S1_men S1_turn S1_thrower S1_cube S1_owner S1_firms S1_kindsTold S1_places S1_crowds S1_pipsLeft S1_notHome ++ wRW G h_rows h_rows_lanes h_rows_sizes h_rows_items S2_lanes S2_sizes S2_items ++ wFS G h_foresight h_foresight_spare h_foresight_told S3 ++ wIA G h_foresight_told 8 u.2.2.1 ++ wBD G h_foresight_spare h_foresight_spare_firms h_foresight_spare_kindsTold h_foresight_spare_places h_foresight_spare_crowds h_foresight_spare_pipsLeft h_foresight_spare_notHome u.2.2.2.1 u.2.2.2.2.1 u.2.2.2.2.2.1 u.2.2.2.2.2.2.1 u.2.2.2.2.2.2.2.1 u.2.2.2.2.2.2.2.2.1 u.2.2.2.2.2.2.2.2.2.1 u.2.2.2.2.2.2.2.2.2.2.1 u.2.2.2.2.2.2.2.2.2.2.2.1 u.2.2.2.2.2.2.2.2.2.2.2.2.1 u.2.2.2.2.2.2.2.2.2.2.2.2.2.1 u.2.2.2.2.2.2.2.2.2.2.2.2.2.2.1 u.2.2.2.2.2.2.2.2.2.2.2.2.2.2.2) := by
  refine CT.of (P := PX7_cast) (by decide) dPX7_cast (Nat.le_of_ble_eq_true rfl) ?_
  intro p e s m args below meth c A Q ls hne X RT Y hl
  have hl : lv_has ls 4 [(0, .ref h), (1, .int i1), (2, .int i2)] := hl
  generalize hM : M_X7_cast (S0_latestFault, S0_latestFinding) (S1_points, S1_home, S1_men, S1_turn, S1_thrower, S1_cube, S1_owner, S1_firms, S1_kindsTold, S1_places, S1_crowds, S1_pipsLeft, S1_notHome) (S2_lanes, S2_sizes, S2_items) S3 S4 (S5_points, S5_home, S5_men, S5_turn, S5_thrower, S5_cube, S5_owner, S5_firms, S5_kindsTold, S5_places, S5_crowds, S5_pipsLeft, S5_notHome) i1 i2 = MM at hne RT
  unfold M_X7_cast at hM
  refine r_aload_n (pc' := 1) X hl 0 rfl rfl 0 rfl rfl ?_
  refine r_callV0 (pc' := 4) (As := []) (rest := []) X Y 1 rfl rfl mRX7_142 (c_X7_hasNoTable l G h h_rows h_tape h_live h_draft h_images h_acts h_foresight h_asks h_live_firms h_live_kindsTold h_live_places h_live_crowds h_live_pipsLeft h_live_notHome S0_latestFault S0_latestFinding S1_points S1_home S1_men S1_turn S1_thrower S1_cube S1_owner S1_firms S1_kindsTold S1_places S1_crowds S1_pipsLeft S1_notHome) (mB hM hne) 0 rfl rfl [0, 1, 2, 3, 4, 5, 6, 7] rfl rfl rfl (Nat.le_of_ble_eq_true rfl) ⟨rfl, rfl⟩ ⟨Nat.le_of_ble_eq_true rfl, Nat.le_of_ble_eq_true rfl⟩ ⟨Nat.zero_le _, Nat.zero_le _⟩ hl.1 (st' := fun u1 => [.int u1]) (fun _ => rfl) (fun u1 H locs huu1 Y => ?_)
  replace hM := mS hM huu1
  refine r_if_eq (pc' := 7) X 10 2 rfl rfl (by decide) (fun c2 => ?_) (fun c2 => ?_)
  · replace hM := mI hM c2
    refine r_iload_n (pc' := 11) X hl 1 rfl rfl 5 rfl rfl ?_
    refine r_callS0 (pc' := 14) (As := [.int i1]) (rest := []) X Y 6 rfl rfl mRX7_58 (c_X7_isRow l G i1) (mB hM hne) rfl [] rfl rfl rfl (Nat.le_of_ble_eq_true rfl) ⟨rfl, rfl⟩ ⟨Nat.le_of_ble_eq_true rfl, Nat.le_of_ble_eq_true rfl⟩ ⟨Nat.zero_le _, Nat.zero_le _⟩ hl.1 (st' := fun u3 => [.int u3]) (fun _ => rfl) (fun u3 H locs huu3 Y => ?_)
    replace hM := mS hM huu3
    refine r_if_ne (pc' := 17) X 20 7 rfl rfl (by decide) (fun c4 => ?_) (fun c4 => ?_)
    · replace hM := mE hM c4
      refine r_aload_n (pc' := 21) X hl 0 rfl rfl 10 rfl rfl ?_
      refine r_callV0 (pc' := 24) (As := []) (rest := []) X Y 11 rfl rfl mRX7_148 (c_X7_isOver l G h h_rows h_tape h_live h_draft h_images h_acts h_foresight h_asks h_live_firms h_live_kindsTold h_live_places h_live_crowds h_live_pipsLeft h_live_notHome S0_latestFault S0_latestFinding S1_points S1_home S1_men S1_turn S1_thrower S1_cube S1_owner S1_firms S1_kindsTold S1_places S1_crowds S1_pipsLeft S1_notHome) (mB hM hne) 0 rfl rfl [0, 1, 2, 3, 4, 5, 6, 7] rfl rfl rfl (Nat.le_of_ble_eq_true rfl) ⟨rfl, rfl⟩ ⟨Nat.le_of_ble_eq_true rfl, Nat.le_of_ble_eq_true rfl⟩ ⟨Nat.zero_le _, Nat.zero_le _⟩ hl.1 (st' := fun u5 => [.int u5]) (fun _ => rfl) (fun u5 H locs huu5 Y => ?_)
      replace hM := mS hM huu5
      refine r_if_eq (pc' := 27) X 30 12 rfl rfl (by decide) (fun c6 => ?_) (fun c6 => ?_)
      · replace hM := mI hM c6
        refine r_aload_n (pc' := 31) X hl 0 rfl rfl 15 rfl rfl ?_
        refine r_get (pc' := 34) (v := .ref h_rows) X Y 16 rfl rfl fRX7_12 0 rfl rfl ?_
        refine r_iload_n (pc' := 35) X hl 1 rfl rfl 17 rfl rfl ?_
        refine r_iload_n (pc' := 36) X hl 2 rfl rfl 18 rfl rfl ?_
        refine r_aload_n (pc' := 37) X hl 0 rfl rfl 19 rfl rfl ?_
        refine r_get (pc' := 40) (v := .ref h_live) X Y 20 rfl rfl fRX7_26 0 rfl rfl ?_
        refine r_getN (pc' := 43) (v := .int S1_men) X Y 21 rfl rfl fRX7_132 1 rfl rfl ?_
        refine r_callV0 (pc' := 46) (As := [.int i1, .int i2, .int S1_men]) (rest := []) X Y 22 rfl rfl mRX7_78 (c_X5_findingFrom l G h_rows h_rows_lanes h_rows_sizes h_rows_items S2_lanes S2_sizes S2_items i1 i2 S1_men) (mB hM hne) 8 rfl rfl [8, 9, 10, 11] rfl rfl rfl (Nat.le_of_ble_eq_true rfl) ⟨rfl, rfl⟩ ⟨Nat.le_of_ble_eq_true rfl, Nat.le_of_ble_eq_true rfl⟩ ⟨Nat.zero_le _, Nat.zero_le _⟩ hl.1 (st' := fun u7 => [.int u7]) (fun _ => rfl) (fun u7 H locs huu7 Y => ?_)
        replace hM := mS hM huu7
        refine r_istore_n (pc' := 47) (L' := [(3, .int u7), (0, .ref h), (1, .int i1), (2, .int i2)]) X hl rfl 23 rfl rfl (by decide) rfl (fun ls hl => ?_)
        refine r_iload_n (pc' := 48) X hl 0 rfl rfl 24 rfl rfl ?_
        refine r_if_eq (pc' := 51) X 57 25 rfl rfl (by decide) (fun c8 => ?_) (fun c8 => ?_)
        · replace hM := mI hM c8
          refine r_aload_n (pc' := 58) X hl 1 rfl rfl 30 rfl rfl ?_
          refine r_get (pc' := 61) (v := .ref h_rows) X Y 31 rfl rfl fRX7_12 0 rfl rfl ?_
          refine r_iload_n (pc' := 62) X hl 2 rfl rfl 32 rfl rfl ?_
          refine r_iload_n (pc' := 63) X hl 3 rfl rfl 33 rfl rfl ?_
          refine r_aload_n (pc' := 64) X hl 1 rfl rfl 34 rfl rfl ?_
          refine r_get (pc' := 67) (v := .ref h_live) X Y 35 rfl rfl fRX7_26 0 rfl rfl ?_
          refine r_getN (pc' := 70) (v := .int S1_men) X Y 36 rfl rfl fRX7_132 1 rfl rfl ?_
          refine r_aload_n (pc' := 71) X hl 1 rfl rfl 37 rfl rfl ?_
          refine r_get (pc' := 74) (v := .ref h_foresight) X Y 38 rfl rfl fRX7_47 0 rfl rfl ?_
          refine r_getN (pc' := 77) (v := .ref h_foresight_told) X Y 39 rfl rfl fRX7_267 12 rfl rfl ?_
          refine r_callV (pc' := 80) (As := [.int i1, .int i2, .int S1_men, .ref h_foresight_told]) (rest := []) (wr := (wTF G h h_rows h_tape h_live h_draft h_images h_acts h_foresight h_asks S0_latestFault S0_latestFinding ++ wBD G h_live h_live_firms h_live_kindsTold h_live_places h_live_crowds h_live_pipsLeft h_live_notHome S1_points S1_home S1_men S1_turn S1_thrower S1_cube S1_owner S1_firms S1_kindsTold S1_places S1_crowds S1_pipsLeft S1_notHome ++ wFS G h_foresight h_foresight_spare h_foresight_told S3 ++ wBD G h_foresight_spare h_foresight_spare_firms h_foresight_spare_kindsTold h_foresight_spare_places h_foresight_spare_crowds h_foresight_spare_pipsLeft h_foresight_spare_notHome S5_points S5_home S5_men S5_turn S5_thrower S5_cube S5_owner S5_firms S5_kindsTold S5_places S5_crowds S5_pipsLeft S5_notHome : va_W)) X Y 40 rfl rfl mRX7_270 (c_X5_read l G h_rows h_foresight_told h_rows_lanes h_rows_sizes h_rows_items 8 S2_lanes S2_sizes S2_items S4 i1 i2 S1_men) (mB hM hne) 8 rfl rfl [8, 9, 10, 11, 13] [0, 1, 2, 3, 4, 5, 6, 7, 12, 14, 15, 16, 17, 18, 19, 20] [0, 1, 2, 3, 4, 5, 6, 7, 16, 17, 18, 19, 8, 20, 9, 10, 11, 12, 13, 14, 15] rfl rfl ⟨rfl, rfl, rfl⟩ rfl (w2 := fun u9 => wTF G h h_rows h_tape h_live h_draft h_images h_acts h_foresight h_asks S0_latestFault S0_latestFinding ++ wBD G h_live h_live_firms h_live_kindsTold h_live_places h_live_crowds h_live_pipsLeft h_live_notHome S1_points S1_home S1_men S1_turn S1_thrower S1_cube S1_owner S1_firms S1_kindsTold S1_places S1_crowds S1_pipsLeft S1_notHome ++ wRW G h_rows h_rows_lanes h_rows_sizes h_rows_items S2_lanes S2_sizes S2_items ++ wFS G h_foresight h_foresight_spare h_foresight_told S3 ++ wIA G h_foresight_told 8 u9 ++ wBD G h_foresight_spare h_foresight_spare_firms h_foresight_spare_kindsTold h_foresight_spare_places h_foresight_spare_crowds h_foresight_spare_pipsLeft h_foresight_spare_notHome S5_points S5_home S5_men S5_turn S5_thrower S5_cube S5_owner S5_firms S5_kindsTold S5_places S5_crowds S5_pipsLeft S5_notHome) (fun _ => rfl) rfl (Nat.le_of_ble_eq_true rfl) ⟨rfl, rfl⟩ ⟨Nat.le_of_ble_eq_true rfl, Nat.le_of_ble_eq_true rfl⟩ ⟨Nat.zero_le _, Nat.zero_le _⟩ hl.1 (st' := fun u9 => []) (fun _ => rfl) (fun u9 H locs huu9 Y => ?_)
          replace hM := mS hM huu9
          refine r_aload_n (pc' := 81) X hl 1 rfl rfl 41 rfl rfl ?_
          refine r_aload_n (pc' := 82) X hl 1 rfl rfl 42 rfl rfl ?_
          refine r_get (pc' := 85) (v := .ref h_foresight) X Y 43 rfl rfl fRX7_47 0 rfl rfl ?_
          refine r_aload_n (pc' := 86) X hl 1 rfl rfl 44 rfl rfl ?_
          refine r_get (pc' := 89) (v := .ref h_live) X Y 45 rfl rfl fRX7_26 0 rfl rfl ?_
          refine r_callV (pc' := 92) (As := [.ref h_live]) (rest := [.ref h]) (wr := (wTF G h h_rows h_tape h_live h_draft h_images h_acts h_foresight h_asks S0_latestFault S0_latestFinding ++ wRW G h_rows h_rows_lanes h_rows_sizes h_rows_items S2_lanes S2_sizes S2_items : va_W)) X Y 46 rfl rfl mRX7_274 (c_X3_throwsSo l G h_foresight h_live h_foresight_spare h_foresight_told h_live_firms h_live_kindsTold h_live_places h_live_crowds h_live_pipsLeft h_live_notHome h_foresight_spare_firms h_foresight_spare_kindsTold h_foresight_spare_places h_foresight_spare_crowds h_foresight_spare_pipsLeft h_foresight_spare_notHome S3 S1_points S1_home S1_men S1_turn S1_thrower S1_cube S1_owner S1_firms S1_kindsTold S1_places S1_crowds S1_pipsLeft S1_notHome S5_points S5_home S5_men S5_turn S5_thrower S5_cube S5_owner S5_firms S5_kindsTold S5_places S5_crowds S5_pipsLeft S5_notHome u9) (mB hM hne) 12 rfl rfl [12, 1, 2, 3, 4, 5, 6, 7, 14, 15, 16, 17, 18, 19, 20, 13] [0, 8, 9, 10, 11] [0, 6, 7, 8, 9, 10, 11, 12, 1, 2, 3, 4, 5, 20, 13, 14, 15, 16, 17, 18, 19] rfl rfl ⟨rfl, rfl, rfl⟩ rfl (w2 := fun u10 => wTF G h h_rows h_tape h_live h_draft h_images h_acts h_foresight h_asks S0_latestFault S0_latestFinding ++ wBD G h_live h_live_firms h_live_kindsTold h_live_places h_live_crowds h_live_pipsLeft h_live_notHome S1_points S1_home S1_men S1_turn S1_thrower S1_cube S1_owner S1_firms S1_kindsTold S1_places S1_crowds S1_pipsLeft S1_notHome ++ wRW G h_rows h_rows_lanes h_rows_sizes h_rows_items S2_lanes S2_sizes S2_items ++ wFS G h_foresight h_foresight_spare h_foresight_told S3 ++ wIA G h_foresight_told 8 u9 ++ wBD G h_foresight_spare h_foresight_spare_firms h_foresight_spare_kindsTold h_foresight_spare_places h_foresight_spare_crowds h_foresight_spare_pipsLeft h_foresight_spare_notHome u10.2.1 u10.2.2.1 u10.2.2.2.1 u10.2.2.2.2.1 u10.2.2.2.2.2.1 u10.2.2.2.2.2.2.1 u10.2.2.2.2.2.2.2.1 u10.2.2.2.2.2.2.2.2.1 u10.2.2.2.2.2.2.2.2.2.1 u10.2.2.2.2.2.2.2.2.2.2.1 u10.2.2.2.2.2.2.2.2.2.2.2.1 u10.2.2.2.2.2.2.2.2.2.2.2.2.1 u10.2.2.2.2.2.2.2.2.2.2.2.2.2) (fun _ => rfl) rfl (Nat.le_of_ble_eq_true rfl) ⟨rfl, rfl⟩ ⟨Nat.le_of_ble_eq_true rfl, Nat.le_of_ble_eq_true rfl⟩ ⟨Nat.zero_le _, Nat.zero_le _⟩ hl.1 (st' := fun u10 => [.int u10.1, .ref h]) (fun _ => rfl) (fun u10 H locs huu10 Y => ?_)
          obtain ⟨u10_1, ⟨u10_2_points, u10_2_home, u10_2_men, u10_2_turn, u10_2_thrower, u10_2_cube, u10_2_owner, u10_2_firms, u10_2_kindsTold, u10_2_places, u10_2_crowds, u10_2_pipsLeft, u10_2_notHome⟩⟩ := u10
          replace Y : rY G A s (wTF G h h_rows h_tape h_live h_draft h_images h_acts h_foresight h_asks S0_latestFault S0_latestFinding ++ wBD G h_live h_live_firms h_live_kindsTold h_live_places h_live_crowds h_live_pipsLeft h_live_notHome S1_points S1_home S1_men S1_turn S1_thrower S1_cube S1_owner S1_firms S1_kindsTold S1_places S1_crowds S1_pipsLeft S1_notHome ++ wRW G h_rows h_rows_lanes h_rows_sizes h_rows_items S2_lanes S2_sizes S2_items ++ wFS G h_foresight h_foresight_spare h_foresight_told S3 ++ wIA G h_foresight_told 8 u9 ++ wBD G h_foresight_spare h_foresight_spare_firms h_foresight_spare_kindsTold h_foresight_spare_places h_foresight_spare_crowds h_foresight_spare_pipsLeft h_foresight_spare_notHome u10_2_points u10_2_home u10_2_men u10_2_turn u10_2_thrower u10_2_cube u10_2_owner u10_2_firms u10_2_kindsTold u10_2_places u10_2_crowds u10_2_pipsLeft u10_2_notHome) H locs := Y
          replace hM := mS hM huu10
          show W p l e q_X7_cast s m args below meth c H locs 0 0 Q (F0 m 92 ls [.int u10_1, .ref h])
          refine r_callV (pc' := 95) (As := [.int u10_1]) (rest := []) (wr := (wBD G h_live h_live_firms h_live_kindsTold h_live_places h_live_crowds h_live_pipsLeft h_live_notHome S1_points S1_home S1_men S1_turn S1_thrower S1_cube S1_owner S1_firms S1_kindsTold S1_places S1_crowds S1_pipsLeft S1_notHome ++ wRW G h_rows h_rows_lanes h_rows_sizes h_rows_items S2_lanes S2_sizes S2_items ++ wFS G h_foresight h_foresight_spare h_foresight_told S3 ++ wIA G h_foresight_told 8 u9 ++ wBD G h_foresight_spare h_foresight_spare_firms h_foresight_spare_kindsTold h_foresight_spare_places h_foresight_spare_crowds h_foresight_spare_pipsLeft h_foresight_spare_notHome u10_2_points u10_2_home u10_2_men u10_2_turn u10_2_thrower u10_2_cube u10_2_owner u10_2_firms u10_2_kindsTold u10_2_places u10_2_crowds u10_2_pipsLeft u10_2_notHome : va_W)) X Y 47 rfl rfl mRX7_75 (c_X7_unfound l G h h_rows h_tape h_live h_draft h_images h_acts h_foresight h_asks S0_latestFault S0_latestFinding u10_1) (mB hM hne) 0 rfl rfl [0] [1, 2, 3, 4, 5, 6, 7, 8, 9, 10, 11, 12, 13, 14, 15, 16, 17, 18, 19, 20] [20, 0, 1, 2, 3, 4, 5, 6, 7, 8, 9, 10, 11, 12, 13, 14, 15, 16, 17, 18, 19] rfl rfl ⟨rfl, rfl, rfl⟩ rfl (w2 := fun u11 => wTF G h h_rows h_tape h_live h_draft h_images h_acts h_foresight h_asks u11.2.1 u11.2.2 ++ wBD G h_live h_live_firms h_live_kindsTold h_live_places h_live_crowds h_live_pipsLeft h_live_notHome S1_points S1_home S1_men S1_turn S1_thrower S1_cube S1_owner S1_firms S1_kindsTold S1_places S1_crowds S1_pipsLeft S1_notHome ++ wRW G h_rows h_rows_lanes h_rows_sizes h_rows_items S2_lanes S2_sizes S2_items ++ wFS G h_foresight h_foresight_spare h_foresight_told S3 ++ wIA G h_foresight_told 8 u9 ++ wBD G h_foresight_spare h_foresight_spare_firms h_foresight_spare_kindsTold h_foresight_spare_places h_foresight_spare_crowds h_foresight_spare_pipsLeft h_foresight_spare_notHome u10_2_points u10_2_home u10_2_men u10_2_turn u10_2_thrower u10_2_cube u10_2_owner u10_2_firms u10_2_kindsTold u10_2_places u10_2_crowds u10_2_pipsLeft u10_2_notHome) (fun _ => rfl) rfl (Nat.le_of_ble_eq_true rfl) ⟨rfl, rfl⟩ ⟨Nat.le_of_ble_eq_true rfl, Nat.le_of_ble_eq_true rfl⟩ ⟨Nat.zero_le _, Nat.zero_le _⟩ hl.1 (st' := fun u11 => [.int u11.1]) (fun _ => rfl) (fun u11 H locs huu11 Y => ?_)
          obtain ⟨u11_1, ⟨u11_2_latestFault, u11_2_latestFinding⟩⟩ := u11
          replace Y : rY G A s (wTF G h h_rows h_tape h_live h_draft h_images h_acts h_foresight h_asks u11_2_latestFault u11_2_latestFinding ++ wBD G h_live h_live_firms h_live_kindsTold h_live_places h_live_crowds h_live_pipsLeft h_live_notHome S1_points S1_home S1_men S1_turn S1_thrower S1_cube S1_owner S1_firms S1_kindsTold S1_places S1_crowds S1_pipsLeft S1_notHome ++ wRW G h_rows h_rows_lanes h_rows_sizes h_rows_items S2_lanes S2_sizes S2_items ++ wFS G h_foresight h_foresight_spare h_foresight_told S3 ++ wIA G h_foresight_told 8 u9 ++ wBD G h_foresight_spare h_foresight_spare_firms h_foresight_spare_kindsTold h_foresight_spare_places h_foresight_spare_crowds h_foresight_spare_pipsLeft h_foresight_spare_notHome u10_2_points u10_2_home u10_2_men u10_2_turn u10_2_thrower u10_2_cube u10_2_owner u10_2_firms u10_2_kindsTold u10_2_places u10_2_crowds u10_2_pipsLeft u10_2_notHome) H locs := Y
          replace hM := mS hM huu11
          show W p l e q_X7_cast s m args below meth c H locs 0 0 Q (F0 m 95 ls [.int u11_1])
          exact RT (u11_1, (u11_2_latestFault, u11_2_latestFinding), u9, (u10_2_points, u10_2_home, u10_2_men, u10_2_turn, u10_2_thrower, u10_2_cube, u10_2_owner, u10_2_firms, u10_2_kindsTold, u10_2_places, u10_2_crowds, u10_2_pipsLeft, u10_2_notHome)) _ _ _ _ _ hM (Or.inl ⟨rfl, rfl, _, rfl⟩) (X.d (k := 48) rfl) Y
        · replace hM := mE hM c8
          refine r_aload_n (pc' := 52) X hl 1 rfl rfl 26 rfl rfl ?_
          refine r_iload_n (pc' := 53) X hl 0 rfl rfl 27 rfl rfl ?_
          refine r_callV (pc' := 56) (As := [.int u7]) (rest := []) (wr := (wBD G h_live h_live_firms h_live_kindsTold h_live_places h_live_crowds h_live_pipsLeft h_live_notHome S1_points S1_home S1_men S1_turn S1_thrower S1_cube S1_owner S1_firms S1_kindsTold S1_places S1_crowds S1_pipsLeft S1_notHome ++ wRW G h_rows h_rows_lanes h_rows_sizes h_rows_items S2_lanes S2_sizes S2_items ++ wFS G h_foresight h_foresight_spare h_foresight_told S3 ++ wIA G h_foresight_told 8 S4 ++ wBD G h_foresight_spare h_foresight_spare_firms h_foresight_spare_kindsTold h_foresight_spare_places h_foresight_spare_crowds h_foresight_spare_pipsLeft h_foresight_spare_notHome S5_points S5_home S5_men S5_turn S5_thrower S5_cube S5_owner S5_firms S5_kindsTold S5_places S5_crowds S5_pipsLeft S5_notHome : va_W)) X Y 28 rfl rfl mRX7_67 (c_X7_found l G h h_rows h_tape h_live h_draft h_images h_acts h_foresight h_asks S0_latestFault S0_latestFinding u7) (mB hM hne) 0 rfl rfl [0] [1, 2, 3, 4, 5, 6, 7, 8, 9, 10, 11, 12, 13, 14, 15, 16, 17, 18, 19, 20] [20, 0, 1, 2, 3, 4, 5, 6, 7, 8, 9, 10, 11, 12, 13, 14, 15, 16, 17, 18, 19] rfl rfl ⟨rfl, rfl, rfl⟩ rfl (w2 := fun u12 => wTF G h h_rows h_tape h_live h_draft h_images h_acts h_foresight h_asks u12.2.1 u12.2.2 ++ wBD G h_live h_live_firms h_live_kindsTold h_live_places h_live_crowds h_live_pipsLeft h_live_notHome S1_points S1_home S1_men S1_turn S1_thrower S1_cube S1_owner S1_firms S1_kindsTold S1_places S1_crowds S1_pipsLeft S1_notHome ++ wRW G h_rows h_rows_lanes h_rows_sizes h_rows_items S2_lanes S2_sizes S2_items ++ wFS G h_foresight h_foresight_spare h_foresight_told S3 ++ wIA G h_foresight_told 8 S4 ++ wBD G h_foresight_spare h_foresight_spare_firms h_foresight_spare_kindsTold h_foresight_spare_places h_foresight_spare_crowds h_foresight_spare_pipsLeft h_foresight_spare_notHome S5_points S5_home S5_men S5_turn S5_thrower S5_cube S5_owner S5_firms S5_kindsTold S5_places S5_crowds S5_pipsLeft S5_notHome) (fun _ => rfl) rfl (Nat.le_of_ble_eq_true rfl) ⟨rfl, rfl⟩ ⟨Nat.le_of_ble_eq_true rfl, Nat.le_of_ble_eq_true rfl⟩ ⟨Nat.zero_le _, Nat.zero_le _⟩ hl.1 (st' := fun u12 => [.int u12.1]) (fun _ => rfl) (fun u12 H locs huu12 Y => ?_)
          obtain ⟨u12_1, ⟨u12_2_latestFault, u12_2_latestFinding⟩⟩ := u12
          replace Y : rY G A s (wTF G h h_rows h_tape h_live h_draft h_images h_acts h_foresight h_asks u12_2_latestFault u12_2_latestFinding ++ wBD G h_live h_live_firms h_live_kindsTold h_live_places h_live_crowds h_live_pipsLeft h_live_notHome S1_points S1_home S1_men S1_turn S1_thrower S1_cube S1_owner S1_firms S1_kindsTold S1_places S1_crowds S1_pipsLeft S1_notHome ++ wRW G h_rows h_rows_lanes h_rows_sizes h_rows_items S2_lanes S2_sizes S2_items ++ wFS G h_foresight h_foresight_spare h_foresight_told S3 ++ wIA G h_foresight_told 8 S4 ++ wBD G h_foresight_spare h_foresight_spare_firms h_foresight_spare_kindsTold h_foresight_spare_places h_foresight_spare_crowds h_foresight_spare_pipsLeft h_foresight_spare_notHome S5_points S5_home S5_men S5_turn S5_thrower S5_cube S5_owner S5_firms S5_kindsTold S5_places S5_crowds S5_pipsLeft S5_notHome) H locs := Y
          replace hM := mS hM huu12
          show W p l e q_X7_cast s m args below meth c H locs 0 0 Q (F0 m 56 ls [.int u12_1])
          exact RT (u12_1, (u12_2_latestFault, u12_2_latestFinding), S4, (S5_points, S5_home, S5_men, S5_turn, S5_thrower, S5_cube, S5_owner, S5_firms, S5_kindsTold, S5_places, S5_crowds, S5_pipsLeft, S5_notHome)) _ _ _ _ _ hM (Or.inl ⟨rfl, rfl, _, rfl⟩) (X.d (k := 29) rfl) Y
      · replace hM := mE hM c6
        refine r_ldc (pc' := 29) X mw378 13 rfl rfl ?_
        exact RT ((-1000002 : Int32), (S0_latestFault, S0_latestFinding), S4, (S5_points, S5_home, S5_men, S5_turn, S5_thrower, S5_cube, S5_owner, S5_firms, S5_kindsTold, S5_places, S5_crowds, S5_pipsLeft, S5_notHome)) _ _ _ _ _ hM (Or.inl ⟨rfl, rfl, _, rfl⟩) (X.d (k := 14) rfl) Y
    · replace hM := mI hM c4
      refine r_ldc (pc' := 19) X mw324 8 rfl rfl ?_
      exact RT ((-1000001 : Int32), (S0_latestFault, S0_latestFinding), S4, (S5_points, S5_home, S5_men, S5_turn, S5_thrower, S5_cube, S5_owner, S5_firms, S5_kindsTold, S5_places, S5_crowds, S5_pipsLeft, S5_notHome)) _ _ _ _ _ hM (Or.inl ⟨rfl, rfl, _, rfl⟩) (X.d (k := 9) rfl) Y
  · replace hM := mE hM c2
    refine r_ldc (pc' := 9) X mw378 3 rfl rfl ?_
    exact RT ((-1000002 : Int32), (S0_latestFault, S0_latestFinding), S4, (S5_points, S5_home, S5_men, S5_turn, S5_thrower, S5_cube, S5_owner, S5_firms, S5_kindsTold, S5_places, S5_crowds, S5_pipsLeft, S5_notHome)) _ _ _ _ _ hM (Or.inl ⟨rfl, rfl, _, rfl⟩) (X.d (k := 4) rfl) Y

def M_X7_played (S0 : TF) (S1 : BD) (S2 : RW) (S3 : FS) (S4 : IA) (S5 : BD) (i1 : Int32) (i2 : Int32) (i3 : Int32) : Option (Int32 × TF × IA × BD) :=
  ((M_X7_hasNoTable S0 S1).bind (fun u1 => (if u1 = 0 then ((M_X7_isThrow i1).bind (fun u3 => (if u3 = 0 then (some ((-1000001 : Int32), S0, S4, S5)) else ((M_X7_isRow i2).bind (fun u5 => (if u5 = 0 then (some ((-1000001 : Int32), S0, S4, S5)) else ((M_X7_isOver S0 S1).bind (fun u7 => (if u7 = 0 then ((M_X5_findingFrom S2 i2 i3 (bd_men S1)).bind (fun u9 => (if u9 = 0 then ((M_X5_read 8 S2 S4 i2 i3 (bd_men S1)).bind (fun u11 => ((M_X3_menSo S1 S3 S5 u11 i1).bind (fun u12 => ((M_X7_unfound S0 u12.1).bind (fun u13 => (some (u13.1, u13.2, u11, u12.2)))))))) else ((M_X7_found S0 u9).bind (fun u14 => (some (u14.1, u14.2, S4, S5))))))) else (some ((-1000002 : Int32), S0, S4, S5))))))))))) else (some ((-1000002 : Int32), S0, S4, S5)))))
def q_X7_played : Room := { frames := 6, cells := 0, slots := 0, locals := 182 }
set_option maxHeartbeats 4000000 in
set_option maxRecDepth 100000 in
theorem c_X7_played (l : Launch) (G : gT) (h h_rows h_tape h_live h_draft h_images h_acts h_foresight h_asks h_live_firms h_live_kindsTold h_live_places h_live_crowds h_live_pipsLeft h_live_notHome h_rows_lanes h_rows_sizes h_rows_items h_foresight_spare h_foresight_told h_foresight_spare_firms h_foresight_spare_kindsTold h_foresight_spare_places h_foresight_spare_crowds h_foresight_spare_pipsLeft h_foresight_spare_notHome : Nat) (S0_latestFault : Int32) (S0_latestFinding : Int32) (S1_points : Int32) (S1_home : Int32) (S1_men : Int32) (S1_turn : Int32) (S1_thrower : Int32) (S1_cube : Int32) (S1_owner : Int32) (S1_firms : Nat → Int32) (S1_kindsTold : Nat → Int32) (S1_places : Nat → Int32) (S1_crowds : Nat → Int32) (S1_pipsLeft : Nat → Int32) (S1_notHome : Nat → Int32) (S2_lanes : Nat → Int32) (S2_sizes : Nat → Int32) (S2_items : Nat → Int32) (S3 : Int32) (S4 : Nat → Int32) (S5_points : Int32) (S5_home : Int32) (S5_men : Int32) (S5_turn : Int32) (S5_thrower : Int32) (S5_cube : Int32) (S5_owner : Int32) (S5_firms : Nat → Int32) (S5_kindsTold : Nat → Int32) (S5_places : Nat → Int32) (S5_crowds : Nat → Int32) (S5_pipsLeft : Nat → Int32) (S5_notHome : Nat → Int32) (i1 : Int32) (i2 : Int32) (i3 : Int32) : CT l G yX7_played cX7_played 5 (some .int) q_X7_played [.ref h, .int i1, .int i2, .int i3] (wTF G h h_rows h_tape h_live h_draft h_images h_acts h_foresight h_asks S0_latestFault S0_latestFinding ++ wBD G h_live h_live_firms h_live_kindsTold h_live_places h_live_crowds h_live_pipsLeft h_live_notHome S1_points S1_home S1_men S1_turn S1_thrower S1_cube S1_owner S1_firms S1_kindsTold S1_places S1_crowds S1_pipsLeft S1_notHome ++ wRW G h_rows h_rows_lanes h_rows_sizes h_rows_items S2_lanes S2_sizes S2_items ++ wFS G h_foresight h_foresight_spare h_foresight_told S3 ++ wIA G h_foresight_told 8 S4 ++ wBD G h_foresight_spare h_foresight_spare_firms h_foresight_spare_kindsTold h_foresight_spare_places h_foresight_spare_crowds h_foresight_spare_pipsLeft h_foresight_spare_notHome S5_points S5_home S5_men S5_turn S5_thrower S5_cube S5_owner S5_firms S5_kindsTold S5_places S5_crowds S5_pipsLeft S5_notHome) (M_X7_played (S0_latestFault, S0_latestFinding) (S1_points, S1_home, S1_men, S1_turn, S1_thrower, S1_cube, S1_owner, S1_firms, S1_kindsTold, S1_places, S1_crowds, S1_pipsLeft, S1_notHome) (S2_lanes, S2_sizes, S2_items) S3 S4 (S5_points, S5_home, S5_men, S5_turn, S5_thrower, S5_cube, S5_owner, S5_firms, S5_kindsTold, S5_places, S5_crowds, S5_pipsLeft, S5_notHome) i1 i2 i3) (fun u => some (.int u.1)) (fun u => wTF G h h_rows h_tape h_live h_draft h_images h_acts h_foresight h_asks u.2.1.1 u.2.1.2 ++ wBD G h_live h_live_firms h_live_kindsTold h_live_places h_live_crowds h_live_pipsLeft h_live_notHome S1_points S1_home S1_men S1_turn S1_thrower S1_cube S1_owner S1_firms S1_kindsTold S1_places S1_crowds S1_pipsLeft S1_notHome ++ wRW G h_rows h_rows_lanes h_rows_sizes h_rows_items S2_lanes S2_sizes S2_items ++ wFS G h_foresight h_foresight_spare h_foresight_told S3 ++ wIA G h_foresight_told 8 u.2.2.1 ++ wBD G h_foresight_spare h_foresight_spare_firms h_foresight_spare_kindsTold h_foresight_spare_places h_foresight_spare_crowds h_foresight_spare_pipsLeft h_foresight_spare_notHome u.2.2.2.1 u.2.2.2.2.1 u.2.2.2.2.2.1 u.2.2.2.2.2.2.1 u.2.2.2.2.2.2.2.1 u.2.2.2.2.2.2.2.2.1 u.2.2.2.2.2.2.2.2.2.1 u.2.2.2.2.2.2.2.2.2.2.1 u.2.2.2.2.2.2.2.2.2.2.2.1 u.2.2.2.2.2.2.2.2.2.2.2.2.1 u.2.2.2.2.2.2.2.2.2.2.2.2.2.1 u.2.2.2.2.2.2.2.2.2.2.2.2.2.2.1 u.2.2.2.2.2.2.2.2.2.2.2.2.2.2.2) := by
  refine CT.of (P := PX7_played) (by decide) dPX7_played (Nat.le_of_ble_eq_true rfl) ?_
  intro p e s m args below meth c A Q ls hne X RT Y hl
  have hl : lv_has ls 5 [(0, .ref h), (1, .int i1), (2, .int i2), (3, .int i3)] := hl
  generalize hM : M_X7_played (S0_latestFault, S0_latestFinding) (S1_points, S1_home, S1_men, S1_turn, S1_thrower, S1_cube, S1_owner, S1_firms, S1_kindsTold, S1_places, S1_crowds, S1_pipsLeft, S1_notHome) (S2_lanes, S2_sizes, S2_items) S3 S4 (S5_points, S5_home, S5_men, S5_turn, S5_thrower, S5_cube, S5_owner, S5_firms, S5_kindsTold, S5_places, S5_crowds, S5_pipsLeft, S5_notHome) i1 i2 i3 = MM at hne RT
  unfold M_X7_played at hM
  refine r_aload_n (pc' := 1) X hl 0 rfl rfl 0 rfl rfl ?_
  refine r_callV0 (pc' := 4) (As := []) (rest := []) X Y 1 rfl rfl mRX7_142 (c_X7_hasNoTable l G h h_rows h_tape h_live h_draft h_images h_acts h_foresight h_asks h_live_firms h_live_kindsTold h_live_places h_live_crowds h_live_pipsLeft h_live_notHome S0_latestFault S0_latestFinding S1_points S1_home S1_men S1_turn S1_thrower S1_cube S1_owner S1_firms S1_kindsTold S1_places S1_crowds S1_pipsLeft S1_notHome) (mB hM hne) 0 rfl rfl [0, 1, 2, 3, 4, 5, 6, 7] rfl rfl rfl (Nat.le_of_ble_eq_true rfl) ⟨rfl, rfl⟩ ⟨Nat.le_of_ble_eq_true rfl, Nat.le_of_ble_eq_true rfl⟩ ⟨Nat.zero_le _, Nat.zero_le _⟩ hl.1 (st' := fun u1 => [.int u1]) (fun _ => rfl) (fun u1 H locs huu1 Y => ?_)
  replace hM := mS hM huu1
  refine r_if_eq (pc' := 7) X 10 2 rfl rfl (by decide) (fun c2 => ?_) (fun c2 => ?_)
  · replace hM := mI hM c2
    refine r_iload_n (pc' := 11) X hl 1 rfl rfl 5 rfl rfl ?_
    refine r_callS0 (pc' := 14) (As := [.int i1]) (rest := []) X Y 6 rfl rfl mRX7_145 (c_X7_isThrow l G i1) (mB hM hne) rfl [] rfl rfl rfl (Nat.le_of_ble_eq_true rfl) ⟨rfl, rfl⟩ ⟨Nat.le_of_ble_eq_true rfl, Nat.le_of_ble_eq_true rfl⟩ ⟨Nat.zero_le _, Nat.zero_le _⟩ hl.1 (st' := fun u3 => [.int u3]) (fun _ => rfl) (fun u3 H locs huu3 Y => ?_)
    replace hM := mS hM huu3
    refine r_if_eq (pc' := 17) X 24 7 rfl rfl (by decide) (fun c4 => ?_) (fun c4 => ?_)
    · replace hM := mI hM c4
      refine r_ldc (pc' := 26) X mw324 11 rfl rfl ?_
      exact RT ((-1000001 : Int32), (S0_latestFault, S0_latestFinding), S4, (S5_points, S5_home, S5_men, S5_turn, S5_thrower, S5_cube, S5_owner, S5_firms, S5_kindsTold, S5_places, S5_crowds, S5_pipsLeft, S5_notHome)) _ _ _ _ _ hM (Or.inl ⟨rfl, rfl, _, rfl⟩) (X.d (k := 12) rfl) Y
    · replace hM := mE hM c4
      refine r_iload_n (pc' := 18) X hl 2 rfl rfl 8 rfl rfl ?_
      refine r_callS0 (pc' := 21) (As := [.int i2]) (rest := []) X Y 9 rfl rfl mRX7_58 (c_X7_isRow l G i2) (mB hM hne) rfl [] rfl rfl rfl (Nat.le_of_ble_eq_true rfl) ⟨rfl, rfl⟩ ⟨Nat.le_of_ble_eq_true rfl, Nat.le_of_ble_eq_true rfl⟩ ⟨Nat.zero_le _, Nat.zero_le _⟩ hl.1 (st' := fun u5 => [.int u5]) (fun _ => rfl) (fun u5 H locs huu5 Y => ?_)
      replace hM := mS hM huu5
      refine r_if_ne (pc' := 24) X 27 10 rfl rfl (by decide) (fun c6 => ?_) (fun c6 => ?_)
      · replace hM := mE hM c6
        refine r_aload_n (pc' := 28) X hl 0 rfl rfl 13 rfl rfl ?_
        refine r_callV0 (pc' := 31) (As := []) (rest := []) X Y 14 rfl rfl mRX7_148 (c_X7_isOver l G h h_rows h_tape h_live h_draft h_images h_acts h_foresight h_asks h_live_firms h_live_kindsTold h_live_places h_live_crowds h_live_pipsLeft h_live_notHome S0_latestFault S0_latestFinding S1_points S1_home S1_men S1_turn S1_thrower S1_cube S1_owner S1_firms S1_kindsTold S1_places S1_crowds S1_pipsLeft S1_notHome) (mB hM hne) 0 rfl rfl [0, 1, 2, 3, 4, 5, 6, 7] rfl rfl rfl (Nat.le_of_ble_eq_true rfl) ⟨rfl, rfl⟩ ⟨Nat.le_of_ble_eq_true rfl, Nat.le_of_ble_eq_true rfl⟩ ⟨Nat.zero_le _, Nat.zero_le _⟩ hl.1 (st' := fun u7 => [.int u7]) (fun _ => rfl) (fun u7 H locs huu7 Y => ?_)
        replace hM := mS hM huu7
        refine r_if_eq (pc' := 34) X 37 15 rfl rfl (by decide) (fun c8 => ?_) (fun c8 => ?_)
        · replace hM := mI hM c8
          refine r_aload_n (pc' := 38) X hl 0 rfl rfl 18 rfl rfl ?_
          refine r_get (pc' := 41) (v := .ref h_rows) X Y 19 rfl rfl fRX7_12 0 rfl rfl ?_
          refine r_iload_n (pc' := 42) X hl 2 rfl rfl 20 rfl rfl ?_
          refine r_iload_n (pc' := 43) X hl 3 rfl rfl 21 rfl rfl ?_
          refine r_aload_n (pc' := 44) X hl 0 rfl rfl 22 rfl rfl ?_
          refine r_get (pc' := 47) (v := .ref h_live) X Y 23 rfl rfl fRX7_26 0 rfl rfl ?_
          refine r_getN (pc' := 50) (v := .int S1_men) X Y 24 rfl rfl fRX7_132 1 rfl rfl ?_
          refine r_callV0 (pc' := 53) (As := [.int i2, .int i3, .int S1_men]) (rest := []) X Y 25 rfl rfl mRX7_78 (c_X5_findingFrom l G h_rows h_rows_lanes h_rows_sizes h_rows_items S2_lanes S2_sizes S2_items i2 i3 S1_men) (mB hM hne) 8 rfl rfl [8, 9, 10, 11] rfl rfl rfl (Nat.le_of_ble_eq_true rfl) ⟨rfl, rfl⟩ ⟨Nat.le_of_ble_eq_true rfl, Nat.le_of_ble_eq_true rfl⟩ ⟨Nat.zero_le _, Nat.zero_le _⟩ hl.1 (st' := fun u9 => [.int u9]) (fun _ => rfl) (fun u9 H locs huu9 Y => ?_)
          replace hM := mS hM huu9
          refine r_istore (pc' := 55) (L' := [(4, .int u9), (0, .ref h), (1, .int i1), (2, .int i2), (3, .int i3)]) X hl 26 rfl rfl (by decide) rfl (fun ls hl => ?_)
          refine r_iload (pc' := 57) X hl 0 rfl 27 rfl rfl ?_
          refine r_if_eq (pc' := 60) X 67 28 rfl rfl (by decide) (fun c10 => ?_) (fun c10 => ?_)
          · replace hM := mI hM c10
            refine r_aload_n (pc' := 68) X hl 1 rfl rfl 33 rfl rfl ?_
            refine r_get (pc' := 71) (v := .ref h_rows) X Y 34 rfl rfl fRX7_12 0 rfl rfl ?_
            refine r_iload_n (pc' := 72) X hl 3 rfl rfl 35 rfl rfl ?_
            refine r_iload_n (pc' := 73) X hl 4 rfl rfl 36 rfl rfl ?_
            refine r_aload_n (pc' := 74) X hl 1 rfl rfl 37 rfl rfl ?_
            refine r_get (pc' := 77) (v := .ref h_live) X Y 38 rfl rfl fRX7_26 0 rfl rfl ?_
            refine r_getN (pc' := 80) (v := .int S1_men) X Y 39 rfl rfl fRX7_132 1 rfl rfl ?_
            refine r_aload_n (pc' := 81) X hl 1 rfl rfl 40 rfl rfl ?_
            refine r_get (pc' := 84) (v := .ref h_foresight) X Y 41 rfl rfl fRX7_47 0 rfl rfl ?_
            refine r_getN (pc' := 87) (v := .ref h_foresight_told) X Y 42 rfl rfl fRX7_267 12 rfl rfl ?_
            refine r_callV (pc' := 90) (As := [.int i2, .int i3, .int S1_men, .ref h_foresight_told]) (rest := []) (wr := (wTF G h h_rows h_tape h_live h_draft h_images h_acts h_foresight h_asks S0_latestFault S0_latestFinding ++ wBD G h_live h_live_firms h_live_kindsTold h_live_places h_live_crowds h_live_pipsLeft h_live_notHome S1_points S1_home S1_men S1_turn S1_thrower S1_cube S1_owner S1_firms S1_kindsTold S1_places S1_crowds S1_pipsLeft S1_notHome ++ wFS G h_foresight h_foresight_spare h_foresight_told S3 ++ wBD G h_foresight_spare h_foresight_spare_firms h_foresight_spare_kindsTold h_foresight_spare_places h_foresight_spare_crowds h_foresight_spare_pipsLeft h_foresight_spare_notHome S5_points S5_home S5_men S5_turn S5_thrower S5_cube S5_owner S5_firms S5_kindsTold S5_places S5_crowds S5_pipsLeft S5_notHome : va_W)) X Y 43 rfl rfl mRX7_270 (c_X5_read l G h_rows h_foresight_told h_rows_lanes h_rows_sizes h_rows_items 8 S2_lanes S2_sizes S2_items S4 i2 i3 S1_men) (mB hM hne) 8 rfl rfl [8, 9, 10, 11, 13] [0, 1, 2, 3, 4, 5, 6, 7, 12, 14, 15, 16, 17, 18, 19, 20] [0, 1, 2, 3, 4, 5, 6, 7, 16, 17, 18, 19, 8, 20, 9, 10, 11, 12, 13, 14, 15] rfl rfl ⟨rfl, rfl, rfl⟩ rfl (w2 := fun u11 => wTF G h h_rows h_tape h_live h_draft h_images h_acts h_foresight h_asks S0_latestFault S0_latestFinding ++ wBD G h_live h_live_firms h_live_kindsTold h_live_places h_live_crowds h_live_pipsLeft h_live_notHome S1_points S1_home S1_men S1_turn S1_thrower S1_cube S1_owner S1_firms S1_kindsTold S1_places S1_crowds S1_pipsLeft S1_notHome ++ wRW G h_rows h_rows_lanes h_rows_sizes h_rows_items S2_lanes S2_sizes S2_items ++ wFS G h_foresight h_foresight_spare h_foresight_told S3 ++ wIA G h_foresight_told 8 u11 ++ wBD G h_foresight_spare h_foresight_spare_firms h_foresight_spare_kindsTold h_foresight_spare_places h_foresight_spare_crowds h_foresight_spare_pipsLeft h_foresight_spare_notHome S5_points S5_home S5_men S5_turn S5_thrower S5_cube S5_owner S5_firms S5_kindsTold S5_places S5_crowds S5_pipsLeft S5_notHome) (fun _ => rfl) rfl (Nat.le_of_ble_eq_true rfl) ⟨rfl, rfl⟩ ⟨Nat.le_of_ble_eq_true rfl, Nat.le_of_ble_eq_true rfl⟩ ⟨Nat.zero_le _, Nat.zero_le _⟩ hl.1 (st' := fun u11 => []) (fun _ => rfl) (fun u11 H locs huu11 Y => ?_)
            replace hM := mS hM huu11
            refine r_aload_n (pc' := 91) X hl 1 rfl rfl 44 rfl rfl ?_
            refine r_aload_n (pc' := 92) X hl 1 rfl rfl 45 rfl rfl ?_
            refine r_get (pc' := 95) (v := .ref h_foresight) X Y 46 rfl rfl fRX7_47 0 rfl rfl ?_
            refine r_aload_n (pc' := 96) X hl 1 rfl rfl 47 rfl rfl ?_
            refine r_get (pc' := 99) (v := .ref h_live) X Y 48 rfl rfl fRX7_26 0 rfl rfl ?_
            refine r_iload_n (pc' := 100) X hl 2 rfl rfl 49 rfl rfl ?_
            refine r_callV (pc' := 103) (As := [.ref h_live, .int i1]) (rest := [.ref h]) (wr := (wTF G h h_rows h_tape h_live h_draft h_images h_acts h_foresight h_asks S0_latestFault S0_latestFinding ++ wRW G h_rows h_rows_lanes h_rows_sizes h_rows_items S2_lanes S2_sizes S2_items : va_W)) X Y 50 rfl rfl mRX7_278 (c_X3_menSo l G h_foresight h_live h_live_firms h_live_kindsTold h_live_places h_live_crowds h_live_pipsLeft h_live_notHome h_foresight_spare h_foresight_told h_foresight_spare_firms h_foresight_spare_kindsTold h_foresight_spare_places h_foresight_spare_crowds h_foresight_spare_pipsLeft h_foresight_spare_notHome S1_points S1_home S1_men S1_turn S1_thrower S1_cube S1_owner S1_firms S1_kindsTold S1_places S1_crowds S1_pipsLeft S1_notHome S3 S5_points S5_home S5_men S5_turn S5_thrower S5_cube S5_owner S5_firms S5_kindsTold S5_places S5_crowds S5_pipsLeft S5_notHome u11 i1) (mB hM hne) 12 rfl rfl [1, 2, 3, 4, 5, 6, 7, 12, 14, 15, 16, 17, 18, 19, 20, 13] [0, 8, 9, 10, 11] [0, 5, 6, 7, 8, 9, 10, 11, 1, 2, 3, 4, 12, 20, 13, 14, 15, 16, 17, 18, 19] rfl rfl ⟨rfl, rfl, rfl⟩ rfl (w2 := fun u12 => wTF G h h_rows h_tape h_live h_draft h_images h_acts h_foresight h_asks S0_latestFault S0_latestFinding ++ wBD G h_live h_live_firms h_live_kindsTold h_live_places h_live_crowds h_live_pipsLeft h_live_notHome S1_points S1_home S1_men S1_turn S1_thrower S1_cube S1_owner S1_firms S1_kindsTold S1_places S1_crowds S1_pipsLeft S1_notHome ++ wRW G h_rows h_rows_lanes h_rows_sizes h_rows_items S2_lanes S2_sizes S2_items ++ wFS G h_foresight h_foresight_spare h_foresight_told S3 ++ wIA G h_foresight_told 8 u11 ++ wBD G h_foresight_spare h_foresight_spare_firms h_foresight_spare_kindsTold h_foresight_spare_places h_foresight_spare_crowds h_foresight_spare_pipsLeft h_foresight_spare_notHome u12.2.1 u12.2.2.1 u12.2.2.2.1 u12.2.2.2.2.1 u12.2.2.2.2.2.1 u12.2.2.2.2.2.2.1 u12.2.2.2.2.2.2.2.1 u12.2.2.2.2.2.2.2.2.1 u12.2.2.2.2.2.2.2.2.2.1 u12.2.2.2.2.2.2.2.2.2.2.1 u12.2.2.2.2.2.2.2.2.2.2.2.1 u12.2.2.2.2.2.2.2.2.2.2.2.2.1 u12.2.2.2.2.2.2.2.2.2.2.2.2.2) (fun _ => rfl) rfl (Nat.le_of_ble_eq_true rfl) ⟨rfl, rfl⟩ ⟨Nat.le_of_ble_eq_true rfl, Nat.le_of_ble_eq_true rfl⟩ ⟨Nat.zero_le _, Nat.zero_le _⟩ hl.1 (st' := fun u12 => [.int u12.1, .ref h]) (fun _ => rfl) (fun u12 H locs huu12 Y => ?_)
            obtain ⟨u12_1, ⟨u12_2_points, u12_2_home, u12_2_men, u12_2_turn, u12_2_thrower, u12_2_cube, u12_2_owner, u12_2_firms, u12_2_kindsTold, u12_2_places, u12_2_crowds, u12_2_pipsLeft, u12_2_notHome⟩⟩ := u12
            replace Y : rY G A s (wTF G h h_rows h_tape h_live h_draft h_images h_acts h_foresight h_asks S0_latestFault S0_latestFinding ++ wBD G h_live h_live_firms h_live_kindsTold h_live_places h_live_crowds h_live_pipsLeft h_live_notHome S1_points S1_home S1_men S1_turn S1_thrower S1_cube S1_owner S1_firms S1_kindsTold S1_places S1_crowds S1_pipsLeft S1_notHome ++ wRW G h_rows h_rows_lanes h_rows_sizes h_rows_items S2_lanes S2_sizes S2_items ++ wFS G h_foresight h_foresight_spare h_foresight_told S3 ++ wIA G h_foresight_told 8 u11 ++ wBD G h_foresight_spare h_foresight_spare_firms h_foresight_spare_kindsTold h_foresight_spare_places h_foresight_spare_crowds h_foresight_spare_pipsLeft h_foresight_spare_notHome u12_2_points u12_2_home u12_2_men u12_2_turn u12_2_thrower u12_2_cube u12_2_owner u12_2_firms u12_2_kindsTold u12_2_places u12_2_crowds u12_2_pipsLeft u12_2_notHome) H locs := Y
            replace hM := mS hM huu12
            show W p l e q_X7_played s m args below meth c H locs 0 0 Q (F0 m 103 ls [.int u12_1, .ref h])
            refine r_callV (pc' := 106) (As := [.int u12_1]) (rest := []) (wr := (wBD G h_live h_live_firms h_live_kindsTold h_live_places h_live_crowds h_live_pipsLeft h_live_notHome S1_points S1_home S1_men S1_turn S1_thrower S1_cube S1_owner S1_firms S1_kindsTold S1_places S1_crowds S1_pipsLeft S1_notHome ++ wRW G h_rows h_rows_lanes h_rows_sizes h_rows_items S2_lanes S2_sizes S2_items ++ wFS G h_foresight h_foresight_spare h_foresight_told S3 ++ wIA G h_foresight_told 8 u11 ++ wBD G h_foresight_spare h_foresight_spare_firms h_foresight_spare_kindsTold h_foresight_spare_places h_foresight_spare_crowds h_foresight_spare_pipsLeft h_foresight_spare_notHome u12_2_points u12_2_home u12_2_men u12_2_turn u12_2_thrower u12_2_cube u12_2_owner u12_2_firms u12_2_kindsTold u12_2_places u12_2_crowds u12_2_pipsLeft u12_2_notHome : va_W)) X Y 51 rfl rfl mRX7_75 (c_X7_unfound l G h h_rows h_tape h_live h_draft h_images h_acts h_foresight h_asks S0_latestFault S0_latestFinding u12_1) (mB hM hne) 0 rfl rfl [0] [1, 2, 3, 4, 5, 6, 7, 8, 9, 10, 11, 12, 13, 14, 15, 16, 17, 18, 19, 20] [20, 0, 1, 2, 3, 4, 5, 6, 7, 8, 9, 10, 11, 12, 13, 14, 15, 16, 17, 18, 19] rfl rfl ⟨rfl, rfl, rfl⟩ rfl (w2 := fun u13 => wTF G h h_rows h_tape h_live h_draft h_images h_acts h_foresight h_asks u13.2.1 u13.2.2 ++ wBD G h_live h_live_firms h_live_kindsTold h_live_places h_live_crowds h_live_pipsLeft h_live_notHome S1_points S1_home S1_men S1_turn S1_thrower S1_cube S1_owner S1_firms S1_kindsTold S1_places S1_crowds S1_pipsLeft S1_notHome ++ wRW G h_rows h_rows_lanes h_rows_sizes h_rows_items S2_lanes S2_sizes S2_items ++ wFS G h_foresight h_foresight_spare h_foresight_told S3 ++ wIA G h_foresight_told 8 u11 ++ wBD G h_foresight_spare h_foresight_spare_firms h_foresight_spare_kindsTold h_foresight_spare_places h_foresight_spare_crowds h_foresight_spare_pipsLeft h_foresight_spare_notHome u12_2_points u12_2_home u12_2_men u12_2_turn u12_2_thrower u12_2_cube u12_2_owner u12_2_firms u12_2_kindsTold u12_2_places u12_2_crowds u12_2_pipsLeft u12_2_notHome) (fun _ => rfl) rfl (Nat.le_of_ble_eq_true rfl) ⟨rfl, rfl⟩ ⟨Nat.le_of_ble_eq_true rfl, Nat.le_of_ble_eq_true rfl⟩ ⟨Nat.zero_le _, Nat.zero_le _⟩ hl.1 (st' := fun u13 => [.int u13.1]) (fun _ => rfl) (fun u13 H locs huu13 Y => ?_)
            obtain ⟨u13_1, ⟨u13_2_latestFault, u13_2_latestFinding⟩⟩ := u13
            replace Y : rY G A s (wTF G h h_rows h_tape h_live h_draft h_images h_acts h_foresight h_asks u13_2_latestFault u13_2_latestFinding ++ wBD G h_live h_live_firms h_live_kindsTold h_live_places h_live_crowds h_live_pipsLeft h_live_notHome S1_points S1_home S1_men S1_turn S1_thrower S1_cube S1_owner S1_firms S1_kindsTold S1_places S1_crowds S1_pipsLeft S1_notHome ++ wRW G h_rows h_rows_lanes h_rows_sizes h_rows_items S2_lanes S2_sizes S2_items ++ wFS G h_foresight h_foresight_spare h_foresight_told S3 ++ wIA G h_foresight_told 8 u11 ++ wBD G h_foresight_spare h_foresight_spare_firms h_foresight_spare_kindsTold h_foresight_spare_places h_foresight_spare_crowds h_foresight_spare_pipsLeft h_foresight_spare_notHome u12_2_points u12_2_home u12_2_men u12_2_turn u12_2_thrower u12_2_cube u12_2_owner u12_2_firms u12_2_kindsTold u12_2_places u12_2_crowds u12_2_pipsLeft u12_2_notHome) H locs := Y
            replace hM := mS hM huu13
            show W p l e q_X7_played s m args below meth c H locs 0 0 Q (F0 m 106 ls [.int u13_1])
            exact RT (u13_1, (u13_2_latestFault, u13_2_latestFinding), u11, (u12_2_points, u12_2_home, u12_2_men, u12_2_turn, u12_2_thrower, u12_2_cube, u12_2_owner, u12_2_firms, u12_2_kindsTold, u12_2_places, u12_2_crowds, u12_2_pipsLeft, u12_2_notHome)) _ _ _ _ _ hM (Or.inl ⟨rfl, rfl, _, rfl⟩) (X.d (k := 52) rfl) Y
          · replace hM := mE hM c10
            refine r_aload_n (pc' := 61) X hl 1 rfl rfl 29 rfl rfl ?_
            refine r_iload (pc' := 63) X hl 0 rfl 30 rfl rfl ?_
            refine r_callV (pc' := 66) (As := [.int u9]) (rest := []) (wr := (wBD G h_live h_live_firms h_live_kindsTold h_live_places h_live_crowds h_live_pipsLeft h_live_notHome S1_points S1_home S1_men S1_turn S1_thrower S1_cube S1_owner S1_firms S1_kindsTold S1_places S1_crowds S1_pipsLeft S1_notHome ++ wRW G h_rows h_rows_lanes h_rows_sizes h_rows_items S2_lanes S2_sizes S2_items ++ wFS G h_foresight h_foresight_spare h_foresight_told S3 ++ wIA G h_foresight_told 8 S4 ++ wBD G h_foresight_spare h_foresight_spare_firms h_foresight_spare_kindsTold h_foresight_spare_places h_foresight_spare_crowds h_foresight_spare_pipsLeft h_foresight_spare_notHome S5_points S5_home S5_men S5_turn S5_thrower S5_cube S5_owner S5_firms S5_kindsTold S5_places S5_crowds S5_pipsLeft S5_notHome : va_W)) X Y 31 rfl rfl mRX7_67 (c_X7_found l G h h_rows h_tape h_live h_draft h_images h_acts h_foresight h_asks S0_latestFault S0_latestFinding u9) (mB hM hne) 0 rfl rfl [0] [1, 2, 3, 4, 5, 6, 7, 8, 9, 10, 11, 12, 13, 14, 15, 16, 17, 18, 19, 20] [20, 0, 1, 2, 3, 4, 5, 6, 7, 8, 9, 10, 11, 12, 13, 14, 15, 16, 17, 18, 19] rfl rfl ⟨rfl, rfl, rfl⟩ rfl (w2 := fun u14 => wTF G h h_rows h_tape h_live h_draft h_images h_acts h_foresight h_asks u14.2.1 u14.2.2 ++ wBD G h_live h_live_firms h_live_kindsTold h_live_places h_live_crowds h_live_pipsLeft h_live_notHome S1_points S1_home S1_men S1_turn S1_thrower S1_cube S1_owner S1_firms S1_kindsTold S1_places S1_crowds S1_pipsLeft S1_notHome ++ wRW G h_rows h_rows_lanes h_rows_sizes h_rows_items S2_lanes S2_sizes S2_items ++ wFS G h_foresight h_foresight_spare h_foresight_told S3 ++ wIA G h_foresight_told 8 S4 ++ wBD G h_foresight_spare h_foresight_spare_firms h_foresight_spare_kindsTold h_foresight_spare_places h_foresight_spare_crowds h_foresight_spare_pipsLeft h_foresight_spare_notHome S5_points S5_home S5_men S5_turn S5_thrower S5_cube S5_owner S5_firms S5_kindsTold S5_places S5_crowds S5_pipsLeft S5_notHome) (fun _ => rfl) rfl (Nat.le_of_ble_eq_true rfl) ⟨rfl, rfl⟩ ⟨Nat.le_of_ble_eq_true rfl, Nat.le_of_ble_eq_true rfl⟩ ⟨Nat.zero_le _, Nat.zero_le _⟩ hl.1 (st' := fun u14 => [.int u14.1]) (fun _ => rfl) (fun u14 H locs huu14 Y => ?_)
            obtain ⟨u14_1, ⟨u14_2_latestFault, u14_2_latestFinding⟩⟩ := u14
            replace Y : rY G A s (wTF G h h_rows h_tape h_live h_draft h_images h_acts h_foresight h_asks u14_2_latestFault u14_2_latestFinding ++ wBD G h_live h_live_firms h_live_kindsTold h_live_places h_live_crowds h_live_pipsLeft h_live_notHome S1_points S1_home S1_men S1_turn S1_thrower S1_cube S1_owner S1_firms S1_kindsTold S1_places S1_crowds S1_pipsLeft S1_notHome ++ wRW G h_rows h_rows_lanes h_rows_sizes h_rows_items S2_lanes S2_sizes S2_items ++ wFS G h_foresight h_foresight_spare h_foresight_told S3 ++ wIA G h_foresight_told 8 S4 ++ wBD G h_foresight_spare h_foresight_spare_firms h_foresight_spare_kindsTold h_foresight_spare_places h_foresight_spare_crowds h_foresight_spare_pipsLeft h_foresight_spare_notHome S5_points S5_home S5_men S5_turn S5_thrower S5_cube S5_owner S5_firms S5_kindsTold S5_places S5_crowds S5_pipsLeft S5_notHome) H locs := Y
            replace hM := mS hM huu14
            show W p l e q_X7_played s m args below meth c H locs 0 0 Q (F0 m 66 ls [.int u14_1])
            exact RT (u14_1, (u14_2_latestFault, u14_2_latestFinding), S4, (S5_points, S5_home, S5_men, S5_turn, S5_thrower, S5_cube, S5_owner, S5_firms, S5_kindsTold, S5_places, S5_crowds, S5_pipsLeft, S5_notHome)) _ _ _ _ _ hM (Or.inl ⟨rfl, rfl, _, rfl⟩) (X.d (k := 32) rfl) Y
        · replace hM := mE hM c8
          refine r_ldc (pc' := 36) X mw378 16 rfl rfl ?_
          exact RT ((-1000002 : Int32), (S0_latestFault, S0_latestFinding), S4, (S5_points, S5_home, S5_men, S5_turn, S5_thrower, S5_cube, S5_owner, S5_firms, S5_kindsTold, S5_places, S5_crowds, S5_pipsLeft, S5_notHome)) _ _ _ _ _ hM (Or.inl ⟨rfl, rfl, _, rfl⟩) (X.d (k := 17) rfl) Y
      · replace hM := mI hM c6
        refine r_ldc (pc' := 26) X mw324 11 rfl rfl ?_
        exact RT ((-1000001 : Int32), (S0_latestFault, S0_latestFinding), S4, (S5_points, S5_home, S5_men, S5_turn, S5_thrower, S5_cube, S5_owner, S5_firms, S5_kindsTold, S5_places, S5_crowds, S5_pipsLeft, S5_notHome)) _ _ _ _ _ hM (Or.inl ⟨rfl, rfl, _, rfl⟩) (X.d (k := 12) rfl) Y
  · replace hM := mE hM c2
    refine r_ldc (pc' := 9) X mw378 3 rfl rfl ?_
    exact RT ((-1000002 : Int32), (S0_latestFault, S0_latestFinding), S4, (S5_points, S5_home, S5_men, S5_turn, S5_thrower, S5_cube, S5_owner, S5_firms, S5_kindsTold, S5_places, S5_crowds, S5_pipsLeft, S5_notHome)) _ _ _ _ _ hM (Or.inl ⟨rfl, rfl, _, rfl⟩) (X.d (k := 4) rfl) Y

def M_X7_kinds (S0 : TF) (S1 : BD) (S2 : RW) (S3 : FS) (S4 : IA) (S5 : BD) (i1 : Int32) (i2 : Int32) (i3 : Int32) (i4 : Int32) : Option (Int32 × TF × IA × BD) :=
  ((M_X7_isMan S0 S1 i1).bind (fun u1 => (if u1 = 0 then (some ((-1000001 : Int32), S0, S4, S5)) else ((M_X7_isThrow i2).bind (fun u3 => (if u3 = 0 then (some ((-1000001 : Int32), S0, S4, S5)) else ((M_X7_isRow i3).bind (fun u5 => (if u5 = 0 then (some ((-1000001 : Int32), S0, S4, S5)) else ((M_X7_isOver S0 S1).bind (fun u7 => (if u7 = 0 then ((M_X5_findingFrom S2 i3 i4 (bd_men S1)).bind (fun u9 => (if u9 = 0 then ((M_X5_read 8 S2 S4 i3 i4 (bd_men S1)).bind (fun u11 => ((M_X3_kindsSo S3 S1 S5 u11 i1 i2).bind (fun u12 => ((M_X7_unfound S0 u12.1).bind (fun u13 => (some (u13.1, u13.2, u11, u12.2)))))))) else ((M_X7_found S0 u9).bind (fun u14 => (some (u14.1, u14.2, S4, S5))))))) else (some ((-1000002 : Int32), S0, S4, S5))))))))))))))
def q_X7_kinds : Room := { frames := 7, cells := 0, slots := 0, locals := 205 }
set_option maxHeartbeats 4000000 in
set_option maxRecDepth 100000 in
theorem c_X7_kinds (l : Launch) (G : gT) (h h_rows h_tape h_live h_draft h_images h_acts h_foresight h_asks h_live_firms h_live_kindsTold h_live_places h_live_crowds h_live_pipsLeft h_live_notHome h_rows_lanes h_rows_sizes h_rows_items h_foresight_spare h_foresight_told h_foresight_spare_firms h_foresight_spare_kindsTold h_foresight_spare_places h_foresight_spare_crowds h_foresight_spare_pipsLeft h_foresight_spare_notHome : Nat) (S0_latestFault : Int32) (S0_latestFinding : Int32) (S1_points : Int32) (S1_home : Int32) (S1_men : Int32) (S1_turn : Int32) (S1_thrower : Int32) (S1_cube : Int32) (S1_owner : Int32) (S1_firms : Nat → Int32) (S1_kindsTold : Nat → Int32) (S1_places : Nat → Int32) (S1_crowds : Nat → Int32) (S1_pipsLeft : Nat → Int32) (S1_notHome : Nat → Int32) (S2_lanes : Nat → Int32) (S2_sizes : Nat → Int32) (S2_items : Nat → Int32) (S3 : Int32) (S4 : Nat → Int32) (S5_points : Int32) (S5_home : Int32) (S5_men : Int32) (S5_turn : Int32) (S5_thrower : Int32) (S5_cube : Int32) (S5_owner : Int32) (S5_firms : Nat → Int32) (S5_kindsTold : Nat → Int32) (S5_places : Nat → Int32) (S5_crowds : Nat → Int32) (S5_pipsLeft : Nat → Int32) (S5_notHome : Nat → Int32) (i1 : Int32) (i2 : Int32) (i3 : Int32) (i4 : Int32) : CT l G yX7_kinds cX7_kinds 6 (some .int) q_X7_kinds [.ref h, .int i1, .int i2, .int i3, .int i4] (wTF G h h_rows h_tape h_live h_draft h_images h_acts h_foresight h_asks S0_latestFault S0_latestFinding ++ wBD G h_live h_live_firms h_live_kindsTold h_live_places h_live_crowds h_live_pipsLeft h_live_notHome S1_points S1_home S1_men S1_turn S1_thrower S1_cube S1_owner S1_firms S1_kindsTold S1_places S1_crowds S1_pipsLeft S1_notHome ++ wRW G h_rows h_rows_lanes h_rows_sizes h_rows_items S2_lanes S2_sizes S2_items ++ wFS G h_foresight h_foresight_spare h_foresight_told S3 ++ wIA G h_foresight_told 8 S4 ++ wBD G h_foresight_spare h_foresight_spare_firms h_foresight_spare_kindsTold h_foresight_spare_places h_foresight_spare_crowds h_foresight_spare_pipsLeft h_foresight_spare_notHome S5_points S5_home S5_men S5_turn S5_thrower S5_cube S5_owner S5_firms S5_kindsTold S5_places S5_crowds S5_pipsLeft S5_notHome) (M_X7_kinds (S0_latestFault, S0_latestFinding) (S1_points, S1_home, S1_men, S1_turn, S1_thrower, S1_cube, S1_owner, S1_firms, S1_kindsTold, S1_places, S1_crowds, S1_pipsLeft, S1_notHome) (S2_lanes, S2_sizes, S2_items) S3 S4 (S5_points, S5_home, S5_men, S5_turn, S5_thrower, S5_cube, S5_owner, S5_firms, S5_kindsTold, S5_places, S5_crowds, S5_pipsLeft, S5_notHome) i1 i2 i3 i4) (fun u => some (.int u.1)) (fun u => wTF G h h_rows h_tape h_live h_draft h_images h_acts h_foresight h_asks u.2.1.1 u.2.1.2 ++ wBD G h_live h_live_firms h_live_kindsTold h_live_places h_live_crowds h_live_pipsLeft h_live_notHome S1_points S1_home S1_men S1_turn S1_thrower S1_cube S1_owner S1_firms S1_kindsTold S1_places S1_crowds S1_pipsLeft S1_notHome ++ wRW G h_rows h_rows_lanes h_rows_sizes h_rows_items S2_lanes S2_sizes S2_items ++ wFS G h_foresight h_foresight_spare h_foresight_told S3 ++ wIA G h_foresight_told 8 u.2.2.1 ++ wBD G h_foresight_spare h_foresight_spare_firms h_foresight_spare_kindsTold h_foresight_spare_places h_foresight_spare_crowds h_foresight_spare_pipsLeft h_foresight_spare_notHome u.2.2.2.1 u.2.2.2.2.1 u.2.2.2.2.2.1 u.2.2.2.2.2.2.1 u.2.2.2.2.2.2.2.1 u.2.2.2.2.2.2.2.2.1 u.2.2.2.2.2.2.2.2.2.1 u.2.2.2.2.2.2.2.2.2.2.1 u.2.2.2.2.2.2.2.2.2.2.2.1 u.2.2.2.2.2.2.2.2.2.2.2.2.1 u.2.2.2.2.2.2.2.2.2.2.2.2.2.1 u.2.2.2.2.2.2.2.2.2.2.2.2.2.2.1 u.2.2.2.2.2.2.2.2.2.2.2.2.2.2.2) := by
  refine CT.of (P := PX7_kinds) (by decide) dPX7_kinds (Nat.le_of_ble_eq_true rfl) ?_
  intro p e s m args below meth c A Q ls hne X RT Y hl
  have hl : lv_has ls 6 [(0, .ref h), (1, .int i1), (2, .int i2), (3, .int i3), (4, .int i4)] := hl
  generalize hM : M_X7_kinds (S0_latestFault, S0_latestFinding) (S1_points, S1_home, S1_men, S1_turn, S1_thrower, S1_cube, S1_owner, S1_firms, S1_kindsTold, S1_places, S1_crowds, S1_pipsLeft, S1_notHome) (S2_lanes, S2_sizes, S2_items) S3 S4 (S5_points, S5_home, S5_men, S5_turn, S5_thrower, S5_cube, S5_owner, S5_firms, S5_kindsTold, S5_places, S5_crowds, S5_pipsLeft, S5_notHome) i1 i2 i3 i4 = MM at hne RT
  unfold M_X7_kinds at hM
  refine r_aload_n (pc' := 1) X hl 0 rfl rfl 0 rfl rfl ?_
  refine r_iload_n (pc' := 2) X hl 1 rfl rfl 1 rfl rfl ?_
  refine r_callV0 (pc' := 5) (As := [.int i1]) (rest := []) X Y 2 rfl rfl mRX7_161 (c_X7_isMan l G h h_rows h_tape h_live h_draft h_images h_acts h_foresight h_asks h_live_firms h_live_kindsTold h_live_places h_live_crowds h_live_pipsLeft h_live_notHome S0_latestFault S0_latestFinding S1_points S1_home S1_men S1_turn S1_thrower S1_cube S1_owner S1_firms S1_kindsTold S1_places S1_crowds S1_pipsLeft S1_notHome i1) (mB hM hne) 0 rfl rfl [0, 1, 2, 3, 4, 5, 6, 7] rfl rfl rfl (Nat.le_of_ble_eq_true rfl) ⟨rfl, rfl⟩ ⟨Nat.le_of_ble_eq_true rfl, Nat.le_of_ble_eq_true rfl⟩ ⟨Nat.zero_le _, Nat.zero_le _⟩ hl.1 (st' := fun u1 => [.int u1]) (fun _ => rfl) (fun u1 H locs huu1 Y => ?_)
  replace hM := mS hM huu1
  refine r_if_eq (pc' := 8) X 22 3 rfl rfl (by decide) (fun c2 => ?_) (fun c2 => ?_)
  · replace hM := mI hM c2
    refine r_ldc (pc' := 24) X mw324 10 rfl rfl ?_
    exact RT ((-1000001 : Int32), (S0_latestFault, S0_latestFinding), S4, (S5_points, S5_home, S5_men, S5_turn, S5_thrower, S5_cube, S5_owner, S5_firms, S5_kindsTold, S5_places, S5_crowds, S5_pipsLeft, S5_notHome)) _ _ _ _ _ hM (Or.inl ⟨rfl, rfl, _, rfl⟩) (X.d (k := 11) rfl) Y
  · replace hM := mE hM c2
    refine r_iload_n (pc' := 9) X hl 2 rfl rfl 4 rfl rfl ?_
    refine r_callS0 (pc' := 12) (As := [.int i2]) (rest := []) X Y 5 rfl rfl mRX7_145 (c_X7_isThrow l G i2) (mB hM hne) rfl [] rfl rfl rfl (Nat.le_of_ble_eq_true rfl) ⟨rfl, rfl⟩ ⟨Nat.le_of_ble_eq_true rfl, Nat.le_of_ble_eq_true rfl⟩ ⟨Nat.zero_le _, Nat.zero_le _⟩ hl.1 (st' := fun u3 => [.int u3]) (fun _ => rfl) (fun u3 H locs huu3 Y => ?_)
    replace hM := mS hM huu3
    refine r_if_eq (pc' := 15) X 22 6 rfl rfl (by decide) (fun c4 => ?_) (fun c4 => ?_)
    · replace hM := mI hM c4
      refine r_ldc (pc' := 24) X mw324 10 rfl rfl ?_
      exact RT ((-1000001 : Int32), (S0_latestFault, S0_latestFinding), S4, (S5_points, S5_home, S5_men, S5_turn, S5_thrower, S5_cube, S5_owner, S5_firms, S5_kindsTold, S5_places, S5_crowds, S5_pipsLeft, S5_notHome)) _ _ _ _ _ hM (Or.inl ⟨rfl, rfl, _, rfl⟩) (X.d (k := 11) rfl) Y
    · replace hM := mE hM c4
      refine r_iload_n (pc' := 16) X hl 3 rfl rfl 7 rfl rfl ?_
      refine r_callS0 (pc' := 19) (As := [.int i3]) (rest := []) X Y 8 rfl rfl mRX7_58 (c_X7_isRow l G i3) (mB hM hne) rfl [] rfl rfl rfl (Nat.le_of_ble_eq_true rfl) ⟨rfl, rfl⟩ ⟨Nat.le_of_ble_eq_true rfl, Nat.le_of_ble_eq_true rfl⟩ ⟨Nat.zero_le _, Nat.zero_le _⟩ hl.1 (st' := fun u5 => [.int u5]) (fun _ => rfl) (fun u5 H locs huu5 Y => ?_)
      replace hM := mS hM huu5
      refine r_if_ne (pc' := 22) X 25 9 rfl rfl (by decide) (fun c6 => ?_) (fun c6 => ?_)
      · replace hM := mE hM c6
        refine r_aload_n (pc' := 26) X hl 0 rfl rfl 12 rfl rfl ?_
        refine r_callV0 (pc' := 29) (As := []) (rest := []) X Y 13 rfl rfl mRX7_148 (c_X7_isOver l G h h_rows h_tape h_live h_draft h_images h_acts h_foresight h_asks h_live_firms h_live_kindsTold h_live_places h_live_crowds h_live_pipsLeft h_live_notHome S0_latestFault S0_latestFinding S1_points S1_home S1_men S1_turn S1_thrower S1_cube S1_owner S1_firms S1_kindsTold S1_places S1_crowds S1_pipsLeft S1_notHome) (mB hM hne) 0 rfl rfl [0, 1, 2, 3, 4, 5, 6, 7] rfl rfl rfl (Nat.le_of_ble_eq_true rfl) ⟨rfl, rfl⟩ ⟨Nat.le_of_ble_eq_true rfl, Nat.le_of_ble_eq_true rfl⟩ ⟨Nat.zero_le _, Nat.zero_le _⟩ hl.1 (st' := fun u7 => [.int u7]) (fun _ => rfl) (fun u7 H locs huu7 Y => ?_)
        replace hM := mS hM huu7
        refine r_if_eq (pc' := 32) X 35 14 rfl rfl (by decide) (fun c8 => ?_) (fun c8 => ?_)
        · replace hM := mI hM c8
          refine r_aload_n (pc' := 36) X hl 0 rfl rfl 17 rfl rfl ?_
          refine r_get (pc' := 39) (v := .ref h_rows) X Y 18 rfl rfl fRX7_12 0 rfl rfl ?_
          refine r_iload_n (pc' := 40) X hl 3 rfl rfl 19 rfl rfl ?_
          refine r_iload (pc' := 42) X hl 4 rfl 20 rfl rfl ?_
          refine r_aload_n (pc' := 43) X hl 0 rfl rfl 21 rfl rfl ?_
          refine r_get (pc' := 46) (v := .ref h_live) X Y 22 rfl rfl fRX7_26 0 rfl rfl ?_
          refine r_getN (pc' := 49) (v := .int S1_men) X Y 23 rfl rfl fRX7_132 1 rfl rfl ?_
          refine r_callV0 (pc' := 52) (As := [.int i3, .int i4, .int S1_men]) (rest := []) X Y 24 rfl rfl mRX7_78 (c_X5_findingFrom l G h_rows h_rows_lanes h_rows_sizes h_rows_items S2_lanes S2_sizes S2_items i3 i4 S1_men) (mB hM hne) 8 rfl rfl [8, 9, 10, 11] rfl rfl rfl (Nat.le_of_ble_eq_true rfl) ⟨rfl, rfl⟩ ⟨Nat.le_of_ble_eq_true rfl, Nat.le_of_ble_eq_true rfl⟩ ⟨Nat.zero_le _, Nat.zero_le _⟩ hl.1 (st' := fun u9 => [.int u9]) (fun _ => rfl) (fun u9 H locs huu9 Y => ?_)
          replace hM := mS hM huu9
          refine r_istore (pc' := 54) (L' := [(5, .int u9), (0, .ref h), (1, .int i1), (2, .int i2), (3, .int i3), (4, .int i4)]) X hl 25 rfl rfl (by decide) rfl (fun ls hl => ?_)
          refine r_iload (pc' := 56) X hl 0 rfl 26 rfl rfl ?_
          refine r_if_eq (pc' := 59) X 66 27 rfl rfl (by decide) (fun c10 => ?_) (fun c10 => ?_)
          · replace hM := mI hM c10
            refine r_aload_n (pc' := 67) X hl 1 rfl rfl 32 rfl rfl ?_
            refine r_get (pc' := 70) (v := .ref h_rows) X Y 33 rfl rfl fRX7_12 0 rfl rfl ?_
            refine r_iload_n (pc' := 71) X hl 4 rfl rfl 34 rfl rfl ?_
            refine r_iload (pc' := 73) X hl 5 rfl 35 rfl rfl ?_
            refine r_aload_n (pc' := 74) X hl 1 rfl rfl 36 rfl rfl ?_
            refine r_get (pc' := 77) (v := .ref h_live) X Y 37 rfl rfl fRX7_26 0 rfl rfl ?_
            refine r_getN (pc' := 80) (v := .int S1_men) X Y 38 rfl rfl fRX7_132 1 rfl rfl ?_
            refine r_aload_n (pc' := 81) X hl 1 rfl rfl 39 rfl rfl ?_
            refine r_get (pc' := 84) (v := .ref h_foresight) X Y 40 rfl rfl fRX7_47 0 rfl rfl ?_
            refine r_getN (pc' := 87) (v := .ref h_foresight_told) X Y 41 rfl rfl fRX7_267 12 rfl rfl ?_
            refine r_callV (pc' := 90) (As := [.int i3, .int i4, .int S1_men, .ref h_foresight_told]) (rest := []) (wr := (wTF G h h_rows h_tape h_live h_draft h_images h_acts h_foresight h_asks S0_latestFault S0_latestFinding ++ wBD G h_live h_live_firms h_live_kindsTold h_live_places h_live_crowds h_live_pipsLeft h_live_notHome S1_points S1_home S1_men S1_turn S1_thrower S1_cube S1_owner S1_firms S1_kindsTold S1_places S1_crowds S1_pipsLeft S1_notHome ++ wFS G h_foresight h_foresight_spare h_foresight_told S3 ++ wBD G h_foresight_spare h_foresight_spare_firms h_foresight_spare_kindsTold h_foresight_spare_places h_foresight_spare_crowds h_foresight_spare_pipsLeft h_foresight_spare_notHome S5_points S5_home S5_men S5_turn S5_thrower S5_cube S5_owner S5_firms S5_kindsTold S5_places S5_crowds S5_pipsLeft S5_notHome : va_W)) X Y 42 rfl rfl mRX7_270 (c_X5_read l G h_rows h_foresight_told h_rows_lanes h_rows_sizes h_rows_items 8 S2_lanes S2_sizes S2_items S4 i3 i4 S1_men) (mB hM hne) 8 rfl rfl [8, 9, 10, 11, 13] [0, 1, 2, 3, 4, 5, 6, 7, 12, 14, 15, 16, 17, 18, 19, 20] [0, 1, 2, 3, 4, 5, 6, 7, 16, 17, 18, 19, 8, 20, 9, 10, 11, 12, 13, 14, 15] rfl rfl ⟨rfl, rfl, rfl⟩ rfl (w2 := fun u11 => wTF G h h_rows h_tape h_live h_draft h_images h_acts h_foresight h_asks S0_latestFault S0_latestFinding ++ wBD G h_live h_live_firms h_live_kindsTold h_live_places h_live_crowds h_live_pipsLeft h_live_notHome S1_points S1_home S1_men S1_turn S1_thrower S1_cube S1_owner S1_firms S1_kindsTold S1_places S1_crowds S1_pipsLeft S1_notHome ++ wRW G h_rows h_rows_lanes h_rows_sizes h_rows_items S2_lanes S2_sizes S2_items ++ wFS G h_foresight h_foresight_spare h_foresight_told S3 ++ wIA G h_foresight_told 8 u11 ++ wBD G h_foresight_spare h_foresight_spare_firms h_foresight_spare_kindsTold h_foresight_spare_places h_foresight_spare_crowds h_foresight_spare_pipsLeft h_foresight_spare_notHome S5_points S5_home S5_men S5_turn S5_thrower S5_cube S5_owner S5_firms S5_kindsTold S5_places S5_crowds S5_pipsLeft S5_notHome) (fun _ => rfl) rfl (Nat.le_of_ble_eq_true rfl) ⟨rfl, rfl⟩ ⟨Nat.le_of_ble_eq_true rfl, Nat.le_of_ble_eq_true rfl⟩ ⟨Nat.zero_le _, Nat.zero_le _⟩ hl.1 (st' := fun u11 => []) (fun _ => rfl) (fun u11 H locs huu11 Y => ?_)
            replace hM := mS hM huu11
            refine r_aload_n (pc' := 91) X hl 1 rfl rfl 43 rfl rfl ?_
            refine r_aload_n (pc' := 92) X hl 1 rfl rfl 44 rfl rfl ?_
            refine r_get (pc' := 95) (v := .ref h_foresight) X Y 45 rfl rfl fRX7_47 0 rfl rfl ?_
            refine r_aload_n (pc' := 96) X hl 1 rfl rfl 46 rfl rfl ?_
            refine r_get (pc' := 99) (v := .ref h_live) X Y 47 rfl rfl fRX7_26 0 rfl rfl ?_
            refine r_iload_n (pc' := 100) X hl 2 rfl rfl 48 rfl rfl ?_
            refine r_iload_n (pc' := 101) X hl 3 rfl rfl 49 rfl rfl ?_
            refine r_callV (pc' := 104) (As := [.ref h_live, .int i1, .int i2]) (rest := [.ref h]) (wr := (wTF G h h_rows h_tape h_live h_draft h_images h_acts h_foresight h_asks S0_latestFault S0_latestFinding ++ wRW G h_rows h_rows_lanes h_rows_sizes h_rows_items S2_lanes S2_sizes S2_items : va_W)) X Y 50 rfl rfl mRX7_281 (c_X3_kindsSo l G h_foresight h_live h_foresight_spare h_foresight_told h_live_firms h_live_kindsTold h_live_places h_live_crowds h_live_pipsLeft h_live_notHome h_foresight_spare_firms h_foresight_spare_kindsTold h_foresight_spare_places h_foresight_spare_crowds h_foresight_spare_pipsLeft h_foresight_spare_notHome S3 S1_points S1_home S1_men S1_turn S1_thrower S1_cube S1_owner S1_firms S1_kindsTold S1_places S1_crowds S1_pipsLeft S1_notHome S5_points S5_home S5_men S5_turn S5_thrower S5_cube S5_owner S5_firms S5_kindsTold S5_places S5_crowds S5_pipsLeft S5_notHome u11 i1 i2) (mB hM hne) 12 rfl rfl [12, 1, 2, 3, 4, 5, 6, 7, 14, 15, 16, 17, 18, 19, 20, 13] [0, 8, 9, 10, 11] [0, 6, 7, 8, 9, 10, 11, 12, 1, 2, 3, 4, 5, 20, 13, 14, 15, 16, 17, 18, 19] rfl rfl ⟨rfl, rfl, rfl⟩ rfl (w2 := fun u12 => wTF G h h_rows h_tape h_live h_draft h_images h_acts h_foresight h_asks S0_latestFault S0_latestFinding ++ wBD G h_live h_live_firms h_live_kindsTold h_live_places h_live_crowds h_live_pipsLeft h_live_notHome S1_points S1_home S1_men S1_turn S1_thrower S1_cube S1_owner S1_firms S1_kindsTold S1_places S1_crowds S1_pipsLeft S1_notHome ++ wRW G h_rows h_rows_lanes h_rows_sizes h_rows_items S2_lanes S2_sizes S2_items ++ wFS G h_foresight h_foresight_spare h_foresight_told S3 ++ wIA G h_foresight_told 8 u11 ++ wBD G h_foresight_spare h_foresight_spare_firms h_foresight_spare_kindsTold h_foresight_spare_places h_foresight_spare_crowds h_foresight_spare_pipsLeft h_foresight_spare_notHome u12.2.1 u12.2.2.1 u12.2.2.2.1 u12.2.2.2.2.1 u12.2.2.2.2.2.1 u12.2.2.2.2.2.2.1 u12.2.2.2.2.2.2.2.1 u12.2.2.2.2.2.2.2.2.1 u12.2.2.2.2.2.2.2.2.2.1 u12.2.2.2.2.2.2.2.2.2.2.1 u12.2.2.2.2.2.2.2.2.2.2.2.1 u12.2.2.2.2.2.2.2.2.2.2.2.2.1 u12.2.2.2.2.2.2.2.2.2.2.2.2.2) (fun _ => rfl) rfl (Nat.le_of_ble_eq_true rfl) ⟨rfl, rfl⟩ ⟨Nat.le_of_ble_eq_true rfl, Nat.le_of_ble_eq_true rfl⟩ ⟨Nat.zero_le _, Nat.zero_le _⟩ hl.1 (st' := fun u12 => [.int u12.1, .ref h]) (fun _ => rfl) (fun u12 H locs huu12 Y => ?_)
            obtain ⟨u12_1, ⟨u12_2_points, u12_2_home, u12_2_men, u12_2_turn, u12_2_thrower, u12_2_cube, u12_2_owner, u12_2_firms, u12_2_kindsTold, u12_2_places, u12_2_crowds, u12_2_pipsLeft, u12_2_notHome⟩⟩ := u12
            replace Y : rY G A s (wTF G h h_rows h_tape h_live h_draft h_images h_acts h_foresight h_asks S0_latestFault S0_latestFinding ++ wBD G h_live h_live_firms h_live_kindsTold h_live_places h_live_crowds h_live_pipsLeft h_live_notHome S1_points S1_home S1_men S1_turn S1_thrower S1_cube S1_owner S1_firms S1_kindsTold S1_places S1_crowds S1_pipsLeft S1_notHome ++ wRW G h_rows h_rows_lanes h_rows_sizes h_rows_items S2_lanes S2_sizes S2_items ++ wFS G h_foresight h_foresight_spare h_foresight_told S3 ++ wIA G h_foresight_told 8 u11 ++ wBD G h_foresight_spare h_foresight_spare_firms h_foresight_spare_kindsTold h_foresight_spare_places h_foresight_spare_crowds h_foresight_spare_pipsLeft h_foresight_spare_notHome u12_2_points u12_2_home u12_2_men u12_2_turn u12_2_thrower u12_2_cube u12_2_owner u12_2_firms u12_2_kindsTold u12_2_places u12_2_crowds u12_2_pipsLeft u12_2_notHome) H locs := Y
            replace hM := mS hM huu12
            show W p l e q_X7_kinds s m args below meth c H locs 0 0 Q (F0 m 104 ls [.int u12_1, .ref h])
            refine r_callV (pc' := 107) (As := [.int u12_1]) (rest := []) (wr := (wBD G h_live h_live_firms h_live_kindsTold h_live_places h_live_crowds h_live_pipsLeft h_live_notHome S1_points S1_home S1_men S1_turn S1_thrower S1_cube S1_owner S1_firms S1_kindsTold S1_places S1_crowds S1_pipsLeft S1_notHome ++ wRW G h_rows h_rows_lanes h_rows_sizes h_rows_items S2_lanes S2_sizes S2_items ++ wFS G h_foresight h_foresight_spare h_foresight_told S3 ++ wIA G h_foresight_told 8 u11 ++ wBD G h_foresight_spare h_foresight_spare_firms h_foresight_spare_kindsTold h_foresight_spare_places h_foresight_spare_crowds h_foresight_spare_pipsLeft h_foresight_spare_notHome u12_2_points u12_2_home u12_2_men u12_2_turn u12_2_thrower u12_2_cube u12_2_owner u12_2_firms u12_2_kindsTold u12_2_places u12_2_crowds u12_2_pipsLeft u12_2_notHome : va_W)) X Y 51 rfl rfl mRX7_75 (c_X7_unfound l G h h_rows h_tape h_live h_draft h_images h_acts h_foresight h_asks S0_latestFault S0_latestFinding u12_1) (mB hM hne) 0 rfl rfl [0] [1, 2, 3, 4, 5, 6, 7, 8, 9, 10, 11, 12, 13, 14, 15, 16, 17, 18, 19, 20] [20, 0, 1, 2, 3, 4, 5, 6, 7, 8, 9, 10, 11, 12, 13, 14, 15, 16, 17, 18, 19] rfl rfl ⟨rfl, rfl, rfl⟩ rfl (w2 := fun u13 => wTF G h h_rows h_tape h_live h_draft h_images h_acts h_foresight h_asks u13.2.1 u13.2.2 ++ wBD G h_live h_live_firms h_live_kindsTold h_live_places h_live_crowds h_live_pipsLeft h_live_notHome S1_points S1_home S1_men S1_turn S1_thrower S1_cube S1_owner S1_firms S1_kindsTold S1_places S1_crowds S1_pipsLeft S1_notHome ++ wRW G h_rows h_rows_lanes h_rows_sizes h_rows_items S2_lanes S2_sizes S2_items ++ wFS G h_foresight h_foresight_spare h_foresight_told S3 ++ wIA G h_foresight_told 8 u11 ++ wBD G h_foresight_spare h_foresight_spare_firms h_foresight_spare_kindsTold h_foresight_spare_places h_foresight_spare_crowds h_foresight_spare_pipsLeft h_foresight_spare_notHome u12_2_points u12_2_home u12_2_men u12_2_turn u12_2_thrower u12_2_cube u12_2_owner u12_2_firms u12_2_kindsTold u12_2_places u12_2_crowds u12_2_pipsLeft u12_2_notHome) (fun _ => rfl) rfl (Nat.le_of_ble_eq_true rfl) ⟨rfl, rfl⟩ ⟨Nat.le_of_ble_eq_true rfl, Nat.le_of_ble_eq_true rfl⟩ ⟨Nat.zero_le _, Nat.zero_le _⟩ hl.1 (st' := fun u13 => [.int u13.1]) (fun _ => rfl) (fun u13 H locs huu13 Y => ?_)
            obtain ⟨u13_1, ⟨u13_2_latestFault, u13_2_latestFinding⟩⟩ := u13
            replace Y : rY G A s (wTF G h h_rows h_tape h_live h_draft h_images h_acts h_foresight h_asks u13_2_latestFault u13_2_latestFinding ++ wBD G h_live h_live_firms h_live_kindsTold h_live_places h_live_crowds h_live_pipsLeft h_live_notHome S1_points S1_home S1_men S1_turn S1_thrower S1_cube S1_owner S1_firms S1_kindsTold S1_places S1_crowds S1_pipsLeft S1_notHome ++ wRW G h_rows h_rows_lanes h_rows_sizes h_rows_items S2_lanes S2_sizes S2_items ++ wFS G h_foresight h_foresight_spare h_foresight_told S3 ++ wIA G h_foresight_told 8 u11 ++ wBD G h_foresight_spare h_foresight_spare_firms h_foresight_spare_kindsTold h_foresight_spare_places h_foresight_spare_crowds h_foresight_spare_pipsLeft h_foresight_spare_notHome u12_2_points u12_2_home u12_2_men u12_2_turn u12_2_thrower u12_2_cube u12_2_owner u12_2_firms u12_2_kindsTold u12_2_places u12_2_crowds u12_2_pipsLeft u12_2_notHome) H locs := Y
            replace hM := mS hM huu13
            show W p l e q_X7_kinds s m args below meth c H locs 0 0 Q (F0 m 107 ls [.int u13_1])
            exact RT (u13_1, (u13_2_latestFault, u13_2_latestFinding), u11, (u12_2_points, u12_2_home, u12_2_men, u12_2_turn, u12_2_thrower, u12_2_cube, u12_2_owner, u12_2_firms, u12_2_kindsTold, u12_2_places, u12_2_crowds, u12_2_pipsLeft, u12_2_notHome)) _ _ _ _ _ hM (Or.inl ⟨rfl, rfl, _, rfl⟩) (X.d (k := 52) rfl) Y
          · replace hM := mE hM c10
            refine r_aload_n (pc' := 60) X hl 1 rfl rfl 28 rfl rfl ?_
            refine r_iload (pc' := 62) X hl 0 rfl 29 rfl rfl ?_
            refine r_callV (pc' := 65) (As := [.int u9]) (rest := []) (wr := (wBD G h_live h_live_firms h_live_kindsTold h_live_places h_live_crowds h_live_pipsLeft h_live_notHome S1_points S1_home S1_men S1_turn S1_thrower S1_cube S1_owner S1_firms S1_kindsTold S1_places S1_crowds S1_pipsLeft S1_notHome ++ wRW G h_rows h_rows_lanes h_rows_sizes h_rows_items S2_lanes S2_sizes S2_items ++ wFS G h_foresight h_foresight_spare h_foresight_told S3 ++ wIA G h_foresight_told 8 S4 ++ wBD G h_foresight_spare h_foresight_spare_firms h_foresight_spare_kindsTold h_foresight_spare_places h_foresight_spare_crowds h_foresight_spare_pipsLeft h_foresight_spare_notHome S5_points S5_home S5_men S5_turn S5_thrower S5_cube S5_owner S5_firms S5_kindsTold S5_places S5_crowds S5_pipsLeft S5_notHome : va_W)) X Y 30 rfl rfl mRX7_67 (c_X7_found l G h h_rows h_tape h_live h_draft h_images h_acts h_foresight h_asks S0_latestFault S0_latestFinding u9) (mB hM hne) 0 rfl rfl [0] [1, 2, 3, 4, 5, 6, 7, 8, 9, 10, 11, 12, 13, 14, 15, 16, 17, 18, 19, 20] [20, 0, 1, 2, 3, 4, 5, 6, 7, 8, 9, 10, 11, 12, 13, 14, 15, 16, 17, 18, 19] rfl rfl ⟨rfl, rfl, rfl⟩ rfl (w2 := fun u14 => wTF G h h_rows h_tape h_live h_draft h_images h_acts h_foresight h_asks u14.2.1 u14.2.2 ++ wBD G h_live h_live_firms h_live_kindsTold h_live_places h_live_crowds h_live_pipsLeft h_live_notHome S1_points S1_home S1_men S1_turn S1_thrower S1_cube S1_owner S1_firms S1_kindsTold S1_places S1_crowds S1_pipsLeft S1_notHome ++ wRW G h_rows h_rows_lanes h_rows_sizes h_rows_items S2_lanes S2_sizes S2_items ++ wFS G h_foresight h_foresight_spare h_foresight_told S3 ++ wIA G h_foresight_told 8 S4 ++ wBD G h_foresight_spare h_foresight_spare_firms h_foresight_spare_kindsTold h_foresight_spare_places h_foresight_spare_crowds h_foresight_spare_pipsLeft h_foresight_spare_notHome S5_points S5_home S5_men S5_turn S5_thrower S5_cube S5_owner S5_firms S5_kindsTold S5_places S5_crowds S5_pipsLeft S5_notHome) (fun _ => rfl) rfl (Nat.le_of_ble_eq_true rfl) ⟨rfl, rfl⟩ ⟨Nat.le_of_ble_eq_true rfl, Nat.le_of_ble_eq_true rfl⟩ ⟨Nat.zero_le _, Nat.zero_le _⟩ hl.1 (st' := fun u14 => [.int u14.1]) (fun _ => rfl) (fun u14 H locs huu14 Y => ?_)
            obtain ⟨u14_1, ⟨u14_2_latestFault, u14_2_latestFinding⟩⟩ := u14
            replace Y : rY G A s (wTF G h h_rows h_tape h_live h_draft h_images h_acts h_foresight h_asks u14_2_latestFault u14_2_latestFinding ++ wBD G h_live h_live_firms h_live_kindsTold h_live_places h_live_crowds h_live_pipsLeft h_live_notHome S1_points S1_home S1_men S1_turn S1_thrower S1_cube S1_owner S1_firms S1_kindsTold S1_places S1_crowds S1_pipsLeft S1_notHome ++ wRW G h_rows h_rows_lanes h_rows_sizes h_rows_items S2_lanes S2_sizes S2_items ++ wFS G h_foresight h_foresight_spare h_foresight_told S3 ++ wIA G h_foresight_told 8 S4 ++ wBD G h_foresight_spare h_foresight_spare_firms h_foresight_spare_kindsTold h_foresight_spare_places h_foresight_spare_crowds h_foresight_spare_pipsLeft h_foresight_spare_notHome S5_points S5_home S5_men S5_turn S5_thrower S5_cube S5_owner S5_firms S5_kindsTold S5_places S5_crowds S5_pipsLeft S5_notHome) H locs := Y
            replace hM := mS hM huu14
            show W p l e q_X7_kinds s m args below meth c H locs 0 0 Q (F0 m 65 ls [.int u14_1])
            exact RT (u14_1, (u14_2_latestFault, u14_2_latestFinding), S4, (S5_points, S5_home, S5_men, S5_turn, S5_thrower, S5_cube, S5_owner, S5_firms, S5_kindsTold, S5_places, S5_crowds, S5_pipsLeft, S5_notHome)) _ _ _ _ _ hM (Or.inl ⟨rfl, rfl, _, rfl⟩) (X.d (k := 31) rfl) Y
        · replace hM := mE hM c8
          refine r_ldc (pc' := 34) X mw378 15 rfl rfl ?_
          exact RT ((-1000002 : Int32), (S0_latestFault, S0_latestFinding), S4, (S5_points, S5_home, S5_men, S5_turn, S5_thrower, S5_cube, S5_owner, S5_firms, S5_kindsTold, S5_places, S5_crowds, S5_pipsLeft, S5_notHome)) _ _ _ _ _ hM (Or.inl ⟨rfl, rfl, _, rfl⟩) (X.d (k := 16) rfl) Y
      · replace hM := mI hM c6
        refine r_ldc (pc' := 24) X mw324 10 rfl rfl ?_
        exact RT ((-1000001 : Int32), (S0_latestFault, S0_latestFinding), S4, (S5_points, S5_home, S5_men, S5_turn, S5_thrower, S5_cube, S5_owner, S5_firms, S5_kindsTold, S5_places, S5_crowds, S5_pipsLeft, S5_notHome)) _ _ _ _ _ hM (Or.inl ⟨rfl, rfl, _, rfl⟩) (X.d (k := 11) rfl) Y

def M_X7_commonDivisor (i0 : Int64) (i2 : Int64) : Option (Int64) :=
  ((lp (σ := Int64 × Int64 × Int32) (β := Int64) (fun rec1 st1 => (if (100 : Int32) ≤ st1.2.2 then (some st1.1) else (if (lg_cmp st1.2.1 (0 : Int64)) = 0 then (some st1.1) else (if ¬ st1.2.1 = 0 then (rec1 (st1.2.1, (st1.1 - st1.1 / st1.2.1 * st1.2.1), (st1.2.2 + (1 : Int32)))) else none)))) 1000000 (i0, i2, (0 : Int32))).bind (fun b1 => (some (if b1 < (1 : Int64) then (1 : Int64) else b1))))
def q_X7_commonDivisor : Room := { frames := 1, cells := 0, slots := 0, locals := 60 }
set_option maxHeartbeats 4000000 in
set_option maxRecDepth 100000 in
theorem c_X7_commonDivisor (l : Launch) (G : gT) (i0 : Int64) (i2 : Int64) : CT l G yX7_commonDivisor cX7_commonDivisor 11 (some .long) q_X7_commonDivisor [.long i0, .long i2] ([]) (M_X7_commonDivisor i0 i2) (fun u => some (.long u)) (fun u => []) := by
  refine CT.of (P := PX7_commonDivisor) (by decide) dPX7_commonDivisor (Nat.le_of_ble_eq_true rfl) ?_
  intro p e s m args below meth c A Q ls hne X RT Y hl
  have hl : lv_has ls 11 [(0, .long i0), (2, .long i2)] := hl
  generalize hM : M_X7_commonDivisor i0 i2 = MM at hne RT
  unfold M_X7_commonDivisor at hM
  refine r_lload_n (pc' := 1) X hl 0 rfl rfl 0 rfl rfl ?_
  refine r_lstore (pc' := 3) (L' := [(4, .long i0), (0, .long i0), (2, .long i2)]) X hl 1 rfl rfl (by decide) rfl (fun ls hl => ?_)
  refine r_lload_n (pc' := 4) X hl 2 rfl rfl 2 rfl rfl ?_
  refine r_lstore (pc' := 6) (L' := [(6, .long i2), (4, .long i0), (0, .long i0), (2, .long i2)]) X hl 3 rfl rfl (by decide) rfl (fun ls hl => ?_)
  refine r_iconst (pc' := 7) X (0 : Int32) 4 rfl rfl rfl ?_
  refine r_istore (pc' := 9) (L' := [(8, .int (0 : Int32)), (6, .long i2), (4, .long i0), (0, .long i0), (2, .long i2)]) X hl 5 rfl rfl (by decide) rfl (fun ls hl => ?_)
  obtain ⟨LL1, hL1, hne1, hX1⟩ := mL hM hne
  have KX1 : ∀ (b1 : Int64) (H : Heap) (locs : List Loc) (ls : Array Slot), some b1 = LL1 → rY G A s ([]) H locs → lv_has ls 11 [(4, .long b1)] → W p l e q_X7_commonDivisor s m args below meth c H locs 0 0 Q (F0 m 44 ls []) := by
    intro b1 H locs ls hM Y hl
    replace hM := hX1 _ hM
    refine r_lconst (pc' := 45) X (1 : Int64) 23 rfl rfl rfl ?_
    refine r_lload (pc' := 47) X hl 0 rfl 24 rfl rfl ?_
    refine r_maxl (pc' := 50) X 25 rfl rfl ⟨mw477, mw478, mw16, mw479⟩ hl.1 ⟨Nat.le_of_ble_eq_true rfl, Nat.le_of_ble_eq_true rfl, Nat.zero_le _, Nat.zero_le _⟩ ?_
    exact RT (if b1 < (1 : Int64) then (1 : Int64) else b1) _ _ _ _ _ hM (Or.inr (Or.inr (Or.inl ⟨rfl, rfl, _, rfl⟩))) (X.d (k := 26) rfl) Y
  refine lp_rule (I := fun (st1 : Int64 × Int64 × Int32) => ∀ (H : Heap) (locs : List Loc) (ls : Array Slot), rY G A s ([]) H locs → lv_has ls 11 [(4, .long st1.1), (6, .long st1.2.1), (8, .int st1.2.2)] → W p l e q_X7_commonDivisor s m args below meth c H locs 0 0 Q (F0 m 9 ls [])) hne1 (fun rec1 st1 IH1 hM => ?_) _ _ hL1 _ _ _ Y (lv_sub hl [2, 1, 0] rfl)
  intro H locs ls Y hl
  obtain ⟨st1_1, st1_2_1, st1_2_2⟩ := st1
  replace Y : rY G A s ([]) H locs := Y
  replace hl : lv_has ls 11 [(4, .long st1_1), (6, .long st1_2_1), (8, .int st1_2_2)] := hl
  refine r_iload (pc' := 11) X hl 2 rfl 6 rfl rfl ?_
  refine r_bipush (pc' := 13) X (100 : Int32) 7 rfl rfl rfl ?_
  refine r_icmp_ge (pc' := 16) X 44 8 rfl rfl (by decide) (fun c2 => ?_) (fun c2 => ?_)
  · replace hM := mI hM c2
    exact KX1 st1_1 _ _ _ hM Y (lv_sub hl [0] rfl)
  · replace hM := mE hM c2
    refine r_lload (pc' := 18) X hl 1 rfl 9 rfl rfl ?_
    refine r_lconst (pc' := 19) X (0 : Int64) 10 rfl rfl rfl ?_
    refine r_lcmp (pc' := 20) X 11 rfl rfl ?_
    refine r_if_eq (pc' := 23) X 44 12 rfl rfl (by decide) (fun c3 => ?_) (fun c3 => ?_)
    · replace hM := mI hM c3
      exact KX1 st1_1 _ _ _ hM Y (lv_sub hl [0] rfl)
    · replace hM := mE hM c3
      refine r_lload (pc' := 25) X hl 0 rfl 13 rfl rfl ?_
      refine r_lload (pc' := 27) X hl 1 rfl 14 rfl rfl ?_
      obtain ⟨g4, hM⟩ := mG hM hne1
      refine r_lrem (pc' := 28) X 15 rfl rfl g4 ?_
      refine r_lstore (pc' := 30) (L' := [(9, .long (st1_1 - st1_1 / st1_2_1 * st1_2_1)), (4, .long st1_1), (6, .long st1_2_1), (8, .int st1_2_2)]) X hl 16 rfl rfl (by decide) rfl (fun ls hl => ?_)
      refine r_lload (pc' := 32) X hl 2 rfl 17 rfl rfl ?_
      refine r_lstore (pc' := 34) (L' := [(4, .long st1_2_1), (9, .long (st1_1 - st1_1 / st1_2_1 * st1_2_1)), (6, .long st1_2_1), (8, .int st1_2_2)]) X hl 18 rfl rfl (by decide) rfl (fun ls hl => ?_)
      refine r_lload (pc' := 36) X hl 1 rfl 19 rfl rfl ?_
      refine r_lstore (pc' := 38) (L' := [(6, .long (st1_1 - st1_1 / st1_2_1 * st1_2_1)), (4, .long st1_2_1), (9, .long (st1_1 - st1_1 / st1_2_1 * st1_2_1)), (8, .int st1_2_2)]) X hl 20 rfl rfl (by decide) rfl (fun ls hl => ?_)
      refine r_iinc (pc' := 41) (L' := [(8, .int (st1_2_2 + (1 : Int32))), (6, .long (st1_1 - st1_1 / st1_2_1 * st1_2_1)), (4, .long st1_2_1), (9, .long (st1_1 - st1_1 / st1_2_1 * st1_2_1))]) X (st1_2_2 + (1 : Int32)) hl 3 rfl rfl 21 rfl rfl (by decide) rfl (fun ls hl => ?_)
      refine r_goto X 9 22 rfl (by decide) ?_
      exact IH1 _ hM _ _ _ Y (lv_sub hl [2, 1, 0] rfl)

def M_X7_chance (S0 : TF) (S1 : BD) (S2 : FS) (S3 : BD) (i1 : Int32) (i2 : Int32) (i3 : Int32) : Option (Int64 × BD) :=
  ((M_X7_hasNoTable S0 S1).bind (fun u1 => (if u1 = 0 then ((M_X7_isFirm i1).bind (fun u3 => (if u3 = 0 then (some ((-1000001 : Int64), S3)) else ((M_X7_within i2 (0 : Int32) (3 : Int32)).bind (fun u5 => (if u5 = 0 then (some ((-1000001 : Int64), S3)) else ((M_X7_isChoice i3).bind (fun u7 => (if u7 = 0 then (some ((-1000001 : Int64), S3)) else ((M_X2_hasMen S1 i1).bind (fun u9 => (if u9 = 0 then (some ((-1000002 : Int64), S3)) else ((M_X7_power (6 : Int64) i2).bind (fun u11 => ((M_X3_waysToWin S2 S1 S3 i1 i2).bind (fun u12 => (jn (σ := Int64) (fun v13 => ((M_X7_commonDivisor u12.1 u11).bind (fun u14 => (if ¬ u14 = 0 then (some ((v13 / u14), u12.2)) else none)))) (fun J13 => (if i3 = 0 then (J13 u12.1) else (J13 u11)))))))))))))))))))) else (some ((-1000002 : Int64), S3)))))
def q_X7_chance : Room := { frames := 10, cells := 0, slots := 0, locals := 289 }
set_option maxHeartbeats 4000000 in
set_option maxRecDepth 100000 in
theorem c_X7_chance (l : Launch) (G : gT) (h h_rows h_tape h_live h_draft h_images h_acts h_foresight h_asks h_live_firms h_live_kindsTold h_live_places h_live_crowds h_live_pipsLeft h_live_notHome h_foresight_spare h_foresight_told h_foresight_spare_firms h_foresight_spare_kindsTold h_foresight_spare_places h_foresight_spare_crowds h_foresight_spare_pipsLeft h_foresight_spare_notHome : Nat) (S0_latestFault : Int32) (S0_latestFinding : Int32) (S1_points : Int32) (S1_home : Int32) (S1_men : Int32) (S1_turn : Int32) (S1_thrower : Int32) (S1_cube : Int32) (S1_owner : Int32) (S1_firms : Nat → Int32) (S1_kindsTold : Nat → Int32) (S1_places : Nat → Int32) (S1_crowds : Nat → Int32) (S1_pipsLeft : Nat → Int32) (S1_notHome : Nat → Int32) (S2 : Int32) (S3_points : Int32) (S3_home : Int32) (S3_men : Int32) (S3_turn : Int32) (S3_thrower : Int32) (S3_cube : Int32) (S3_owner : Int32) (S3_firms : Nat → Int32) (S3_kindsTold : Nat → Int32) (S3_places : Nat → Int32) (S3_crowds : Nat → Int32) (S3_pipsLeft : Nat → Int32) (S3_notHome : Nat → Int32) (i1 : Int32) (i2 : Int32) (i3 : Int32) : CT l G yX7_chance cX7_chance 8 (some .long) q_X7_chance [.ref h, .int i1, .int i2, .int i3] (wTF G h h_rows h_tape h_live h_draft h_images h_acts h_foresight h_asks S0_latestFault S0_latestFinding ++ wBD G h_live h_live_firms h_live_kindsTold h_live_places h_live_crowds h_live_pipsLeft h_live_notHome S1_points S1_home S1_men S1_turn S1_thrower S1_cube S1_owner S1_firms S1_kindsTold S1_places S1_crowds S1_pipsLeft S1_notHome ++ wFS G h_foresight h_foresight_spare h_foresight_told S2 ++ wBD G h_foresight_spare h_foresight_spare_firms h_foresight_spare_kindsTold h_foresight_spare_places h_foresight_spare_crowds h_foresight_spare_pipsLeft h_foresight_spare_notHome S3_points S3_home S3_men S3_turn S3_thrower S3_cube S3_owner S3_firms S3_kindsTold S3_places S3_crowds S3_pipsLeft S3_notHome) (M_X7_chance (S0_latestFault, S0_latestFinding) (S1_points, S1_home, S1_men, S1_turn, S1_thrower, S1_cube, S1_owner, S1_firms, S1_kindsTold, S1_places, S1_crowds, S1_pipsLeft, S1_notHome) S2 (S3_points, S3_home, S3_men, S3_turn, S3_thrower, S3_cube, S3_owner, S3_firms, S3_kindsTold, S3_places, S3_crowds, S3_pipsLeft, S3_notHome) i1 i2 i3) (fun u => some (.long u.1)) (fun u => wTF G h h_rows h_tape h_live h_draft h_images h_acts h_foresight h_asks S0_latestFault S0_latestFinding ++ wBD G h_live h_live_firms h_live_kindsTold h_live_places h_live_crowds h_live_pipsLeft h_live_notHome S1_points S1_home S1_men S1_turn S1_thrower S1_cube S1_owner S1_firms S1_kindsTold S1_places S1_crowds S1_pipsLeft S1_notHome ++ wFS G h_foresight h_foresight_spare h_foresight_told S2 ++ wBD G h_foresight_spare h_foresight_spare_firms h_foresight_spare_kindsTold h_foresight_spare_places h_foresight_spare_crowds h_foresight_spare_pipsLeft h_foresight_spare_notHome u.2.1 u.2.2.1 u.2.2.2.1 u.2.2.2.2.1 u.2.2.2.2.2.1 u.2.2.2.2.2.2.1 u.2.2.2.2.2.2.2.1 u.2.2.2.2.2.2.2.2.1 u.2.2.2.2.2.2.2.2.2.1 u.2.2.2.2.2.2.2.2.2.2.1 u.2.2.2.2.2.2.2.2.2.2.2.1 u.2.2.2.2.2.2.2.2.2.2.2.2.1 u.2.2.2.2.2.2.2.2.2.2.2.2.2) := by
  refine CT.of (P := PX7_chance) (by decide) dPX7_chance (Nat.le_of_ble_eq_true rfl) ?_
  intro p e s m args below meth c A Q ls hne X RT Y hl
  have hl : lv_has ls 8 [(0, .ref h), (1, .int i1), (2, .int i2), (3, .int i3)] := hl
  generalize hM : M_X7_chance (S0_latestFault, S0_latestFinding) (S1_points, S1_home, S1_men, S1_turn, S1_thrower, S1_cube, S1_owner, S1_firms, S1_kindsTold, S1_places, S1_crowds, S1_pipsLeft, S1_notHome) S2 (S3_points, S3_home, S3_men, S3_turn, S3_thrower, S3_cube, S3_owner, S3_firms, S3_kindsTold, S3_places, S3_crowds, S3_pipsLeft, S3_notHome) i1 i2 i3 = MM at hne RT
  unfold M_X7_chance at hM
  refine r_aload_n (pc' := 1) X hl 0 rfl rfl 0 rfl rfl ?_
  refine r_callV0 (pc' := 4) (As := []) (rest := []) X Y 1 rfl rfl mRX7_142 (c_X7_hasNoTable l G h h_rows h_tape h_live h_draft h_images h_acts h_foresight h_asks h_live_firms h_live_kindsTold h_live_places h_live_crowds h_live_pipsLeft h_live_notHome S0_latestFault S0_latestFinding S1_points S1_home S1_men S1_turn S1_thrower S1_cube S1_owner S1_firms S1_kindsTold S1_places S1_crowds S1_pipsLeft S1_notHome) (mB hM hne) 0 rfl rfl [0, 1, 2, 3, 4, 5, 6, 7] rfl rfl rfl (Nat.le_of_ble_eq_true rfl) ⟨rfl, rfl⟩ ⟨Nat.le_of_ble_eq_true rfl, Nat.le_of_ble_eq_true rfl⟩ ⟨Nat.zero_le _, Nat.zero_le _⟩ hl.1 (st' := fun u1 => [.int u1]) (fun _ => rfl) (fun u1 H locs huu1 Y => ?_)
  replace hM := mS hM huu1
  refine r_if_eq (pc' := 7) X 11 2 rfl rfl (by decide) (fun c2 => ?_) (fun c2 => ?_)
  · replace hM := mI hM c2
    refine r_iload_n (pc' := 12) X hl 1 rfl rfl 5 rfl rfl ?_
    refine r_callS0 (pc' := 15) (As := [.int i1]) (rest := []) X Y 6 rfl rfl mRX7_212 (c_X7_isFirm l G i1) (mB hM hne) rfl [] rfl rfl rfl (Nat.le_of_ble_eq_true rfl) ⟨rfl, rfl⟩ ⟨Nat.le_of_ble_eq_true rfl, Nat.le_of_ble_eq_true rfl⟩ ⟨Nat.zero_le _, Nat.zero_le _⟩ hl.1 (st' := fun u3 => [.int u3]) (fun _ => rfl) (fun u3 H locs huu3 Y => ?_)
    replace hM := mS hM huu3
    refine r_if_eq (pc' := 18) X 34 7 rfl rfl (by decide) (fun c4 => ?_) (fun c4 => ?_)
    · replace hM := mI hM c4
      refine r_ldc2 (pc' := 37) X mw481 16 rfl rfl ?_
      exact RT ((-1000001 : Int64), (S3_points, S3_home, S3_men, S3_turn, S3_thrower, S3_cube, S3_owner, S3_firms, S3_kindsTold, S3_places, S3_crowds, S3_pipsLeft, S3_notHome)) _ _ _ _ _ hM (Or.inr (Or.inr (Or.inl ⟨rfl, rfl, _, rfl⟩))) (X.d (k := 17) rfl) Y
    · replace hM := mE hM c4
      refine r_iload_n (pc' := 19) X hl 2 rfl rfl 8 rfl rfl ?_
      refine r_iconst (pc' := 20) X (0 : Int32) 9 rfl rfl rfl ?_
      refine r_iconst (pc' := 21) X (3 : Int32) 10 rfl rfl rfl ?_
      refine r_callS0 (pc' := 24) (As := [.int i2, .int (0 : Int32), .int (3 : Int32)]) (rest := []) X Y 11 rfl rfl mRX7_62 (c_X7_within l G i2 (0 : Int32) (3 : Int32)) (mB hM hne) rfl [] rfl rfl rfl (Nat.le_of_ble_eq_true rfl) ⟨rfl, rfl⟩ ⟨Nat.le_of_ble_eq_true rfl, Nat.le_of_ble_eq_true rfl⟩ ⟨Nat.zero_le _, Nat.zero_le _⟩ hl.1 (st' := fun u5 => [.int u5]) (fun _ => rfl) (fun u5 H locs huu5 Y => ?_)
      replace hM := mS hM huu5
      refine r_if_eq (pc' := 27) X 34 12 rfl rfl (by decide) (fun c6 => ?_) (fun c6 => ?_)
      · replace hM := mI hM c6
        refine r_ldc2 (pc' := 37) X mw481 16 rfl rfl ?_
        exact RT ((-1000001 : Int64), (S3_points, S3_home, S3_men, S3_turn, S3_thrower, S3_cube, S3_owner, S3_firms, S3_kindsTold, S3_places, S3_crowds, S3_pipsLeft, S3_notHome)) _ _ _ _ _ hM (Or.inr (Or.inr (Or.inl ⟨rfl, rfl, _, rfl⟩))) (X.d (k := 17) rfl) Y
      · replace hM := mE hM c6
        refine r_iload_n (pc' := 28) X hl 3 rfl rfl 13 rfl rfl ?_
        refine r_callS0 (pc' := 31) (As := [.int i3]) (rest := []) X Y 14 rfl rfl mRX7_239 (c_X7_isChoice l G i3) (mB hM hne) rfl [] rfl rfl rfl (Nat.le_of_ble_eq_true rfl) ⟨rfl, rfl⟩ ⟨Nat.le_of_ble_eq_true rfl, Nat.le_of_ble_eq_true rfl⟩ ⟨Nat.zero_le _, Nat.zero_le _⟩ hl.1 (st' := fun u7 => [.int u7]) (fun _ => rfl) (fun u7 H locs huu7 Y => ?_)
        replace hM := mS hM huu7
        refine r_if_ne (pc' := 34) X 38 15 rfl rfl (by decide) (fun c8 => ?_) (fun c8 => ?_)
        · replace hM := mE hM c8
          refine r_aload_n (pc' := 39) X hl 0 rfl rfl 18 rfl rfl ?_
          refine r_get (pc' := 42) (v := .ref h_live) X Y 19 rfl rfl fRX7_26 0 rfl rfl ?_
          refine r_iload_n (pc' := 43) X hl 1 rfl rfl 20 rfl rfl ?_
          refine r_callV0 (pc' := 46) (As := [.int i1]) (rest := []) X Y 21 rfl rfl mRX7_257 (c_X2_hasMen l G h_live h_live_firms h_live_kindsTold h_live_places h_live_crowds h_live_pipsLeft h_live_notHome S1_points S1_home S1_men S1_turn S1_thrower S1_cube S1_owner S1_firms S1_kindsTold S1_places S1_crowds S1_pipsLeft S1_notHome i1) (mB hM hne) 1 rfl rfl [1, 2, 3, 4, 5, 6, 7] rfl rfl rfl (Nat.le_of_ble_eq_true rfl) ⟨rfl, rfl⟩ ⟨Nat.le_of_ble_eq_true rfl, Nat.le_of_ble_eq_true rfl⟩ ⟨Nat.zero_le _, Nat.zero_le _⟩ hl.1 (st' := fun u9 => [.int u9]) (fun _ => rfl) (fun u9 H locs huu9 Y => ?_)
          replace hM := mS hM huu9
          refine r_if_ne (pc' := 49) X 53 22 rfl rfl (by decide) (fun c10 => ?_) (fun c10 => ?_)
          · replace hM := mE hM c10
            refine r_ldc2 (pc' := 56) X mw482 25 rfl rfl ?_
            refine r_iload_n (pc' := 57) X hl 2 rfl rfl 26 rfl rfl ?_
            refine r_callS0 (pc' := 60) (As := [.long (6 : Int64), .int i2]) (rest := []) X Y 27 rfl rfl mRX7_291 (c_X7_power l G (6 : Int64) i2) (mB hM hne) rfl [] rfl rfl rfl (Nat.le_of_ble_eq_true rfl) ⟨rfl, rfl⟩ ⟨Nat.le_of_ble_eq_true rfl, Nat.le_of_ble_eq_true rfl⟩ ⟨Nat.zero_le _, Nat.zero_le _⟩ hl.1 (st' := fun u11 => [.long u11]) (fun _ => rfl) (fun u11 H locs huu11 Y => ?_)
            replace hM := mS hM huu11
            refine r_lstore (pc' := 62) (L' := [(4, .long u11), (0, .ref h), (1, .int i1), (2, .int i2), (3, .int i3)]) X hl 28 rfl rfl (by decide) rfl (fun ls hl => ?_)
            refine r_aload_n (pc' := 63) X hl 1 rfl rfl 29 rfl rfl ?_
            refine r_get (pc' := 66) (v := .ref h_foresight) X Y 30 rfl rfl fRX7_47 0 rfl rfl ?_
            refine r_aload_n (pc' := 67) X hl 1 rfl rfl 31 rfl rfl ?_
            refine r_get (pc' := 70) (v := .ref h_live) X Y 32 rfl rfl fRX7_26 0 rfl rfl ?_
            refine r_iload_n (pc' := 71) X hl 2 rfl rfl 33 rfl rfl ?_
            refine r_iload_n (pc' := 72) X hl 3 rfl rfl 34 rfl rfl ?_
            refine r_callV (pc' := 75) (As := [.ref h_live, .int i1, .int i2]) (rest := []) (wr := (wTF G h h_rows h_tape h_live h_draft h_images h_acts h_foresight h_asks S0_latestFault S0_latestFinding : va_W)) X Y 35 rfl rfl mRX7_295 (c_X3_waysToWin l G h_foresight h_live h_foresight_spare h_foresight_told h_live_firms h_live_kindsTold h_live_places h_live_crowds h_live_pipsLeft h_live_notHome h_foresight_spare_firms h_foresight_spare_kindsTold h_foresight_spare_places h_foresight_spare_crowds h_foresight_spare_pipsLeft h_foresight_spare_notHome S2 S1_points S1_home S1_men S1_turn S1_thrower S1_cube S1_owner S1_firms S1_kindsTold S1_places S1_crowds S1_pipsLeft S1_notHome S3_points S3_home S3_men S3_turn S3_thrower S3_cube S3_owner S3_firms S3_kindsTold S3_places S3_crowds S3_pipsLeft S3_notHome i1 i2) (mB hM hne) 8 rfl rfl [8, 1, 2, 3, 4, 5, 6, 7, 9, 10, 11, 12, 13, 14, 15] [0] [0, 2, 3, 4, 5, 6, 7, 8, 1, 9, 10, 11, 12, 13, 14, 15] rfl rfl ⟨rfl, rfl, rfl⟩ rfl (w2 := fun u12 => wTF G h h_rows h_tape h_live h_draft h_images h_acts h_foresight h_asks S0_latestFault S0_latestFinding ++ wBD G h_live h_live_firms h_live_kindsTold h_live_places h_live_crowds h_live_pipsLeft h_live_notHome S1_points S1_home S1_men S1_turn S1_thrower S1_cube S1_owner S1_firms S1_kindsTold S1_places S1_crowds S1_pipsLeft S1_notHome ++ wFS G h_foresight h_foresight_spare h_foresight_told S2 ++ wBD G h_foresight_spare h_foresight_spare_firms h_foresight_spare_kindsTold h_foresight_spare_places h_foresight_spare_crowds h_foresight_spare_pipsLeft h_foresight_spare_notHome u12.2.1 u12.2.2.1 u12.2.2.2.1 u12.2.2.2.2.1 u12.2.2.2.2.2.1 u12.2.2.2.2.2.2.1 u12.2.2.2.2.2.2.2.1 u12.2.2.2.2.2.2.2.2.1 u12.2.2.2.2.2.2.2.2.2.1 u12.2.2.2.2.2.2.2.2.2.2.1 u12.2.2.2.2.2.2.2.2.2.2.2.1 u12.2.2.2.2.2.2.2.2.2.2.2.2.1 u12.2.2.2.2.2.2.2.2.2.2.2.2.2) (fun _ => rfl) rfl (Nat.le_of_ble_eq_true rfl) ⟨rfl, rfl⟩ ⟨Nat.le_of_ble_eq_true rfl, Nat.le_of_ble_eq_true rfl⟩ ⟨Nat.zero_le _, Nat.zero_le _⟩ hl.1 (st' := fun u12 => [.long u12.1]) (fun _ => rfl) (fun u12 H locs huu12 Y => ?_)
            obtain ⟨u12_1, ⟨u12_2_points, u12_2_home, u12_2_men, u12_2_turn, u12_2_thrower, u12_2_cube, u12_2_owner, u12_2_firms, u12_2_kindsTold, u12_2_places, u12_2_crowds, u12_2_pipsLeft, u12_2_notHome⟩⟩ := u12
            replace Y : rY G A s (wTF G h h_rows h_tape h_live h_draft h_images h_acts h_foresight h_asks S0_latestFault S0_latestFinding ++ wBD G h_live h_live_firms h_live_kindsTold h_live_places h_live_crowds h_live_pipsLeft h_live_notHome S1_points S1_home S1_men S1_turn S1_thrower S1_cube S1_owner S1_firms S1_kindsTold S1_places S1_crowds S1_pipsLeft S1_notHome ++ wFS G h_foresight h_foresight_spare h_foresight_told S2 ++ wBD G h_foresight_spare h_foresight_spare_firms h_foresight_spare_kindsTold h_foresight_spare_places h_foresight_spare_crowds h_foresight_spare_pipsLeft h_foresight_spare_notHome u12_2_points u12_2_home u12_2_men u12_2_turn u12_2_thrower u12_2_cube u12_2_owner u12_2_firms u12_2_kindsTold u12_2_places u12_2_crowds u12_2_pipsLeft u12_2_notHome) H locs := Y
            replace hM := mS hM huu12
            show W p l e q_X7_chance s m args below meth c H locs 0 0 Q (F0 m 75 ls [.long u12_1])
            refine r_lstore (pc' := 77) (L' := [(6, .long u12_1), (4, .long u11), (0, .ref h), (1, .int i1), (2, .int i2), (3, .int i3)]) X hl 36 rfl rfl (by decide) rfl (fun ls hl => ?_)
            refine r_iload_n (pc' := 78) X hl 5 rfl rfl 37 rfl rfl ?_
            obtain ⟨J13, hJ13, hM⟩ := mJ hM
            have KJ13 : ∀ (v13 : Int64) (H : Heap) (locs : List Loc) (ls : Array Slot), J13 v13 = MM → rY G A s (wTF G h h_rows h_tape h_live h_draft h_images h_acts h_foresight h_asks S0_latestFault S0_latestFinding ++ wBD G h_live h_live_firms h_live_kindsTold h_live_places h_live_crowds h_live_pipsLeft h_live_notHome S1_points S1_home S1_men S1_turn S1_thrower S1_cube S1_owner S1_firms S1_kindsTold S1_places S1_crowds S1_pipsLeft S1_notHome ++ wFS G h_foresight h_foresight_spare h_foresight_told S2 ++ wBD G h_foresight_spare h_foresight_spare_firms h_foresight_spare_kindsTold h_foresight_spare_places h_foresight_spare_crowds h_foresight_spare_pipsLeft h_foresight_spare_notHome u12_2_points u12_2_home u12_2_men u12_2_turn u12_2_thrower u12_2_cube u12_2_owner u12_2_firms u12_2_kindsTold u12_2_places u12_2_crowds u12_2_pipsLeft u12_2_notHome) H locs → lv_has ls 8 [(4, .long u11), (6, .long u12_1)] → W p l e q_X7_chance s m args below meth c H locs 0 0 Q (F0 m 88 ls [.long v13]) := by
              intro v13 H locs ls hM Y hl
              replace hM := (hJ13 _).symm.trans hM
              refine r_lload (pc' := 90) X hl 1 rfl 42 rfl rfl ?_
              refine r_lload (pc' := 92) X hl 0 rfl 43 rfl rfl ?_
              refine r_callS0 (pc' := 95) (As := [.long u12_1, .long u11]) (rest := [.long v13]) X Y 44 rfl rfl mRX7_299 (c_X7_commonDivisor l G u12_1 u11) (mB hM hne) rfl [] rfl rfl rfl (Nat.le_of_ble_eq_true rfl) ⟨rfl, rfl⟩ ⟨Nat.le_of_ble_eq_true rfl, Nat.le_of_ble_eq_true rfl⟩ ⟨Nat.zero_le _, Nat.zero_le _⟩ hl.1 (st' := fun u14 => [.long u14, .long v13]) (fun _ => rfl) (fun u14 H locs huu14 Y => ?_)
              replace hM := mS hM huu14
              obtain ⟨g15, hM⟩ := mG hM hne
              refine r_ldiv (pc' := 96) X 45 rfl rfl g15 ?_
              exact RT ((v13 / u14), (u12_2_points, u12_2_home, u12_2_men, u12_2_turn, u12_2_thrower, u12_2_cube, u12_2_owner, u12_2_firms, u12_2_kindsTold, u12_2_places, u12_2_crowds, u12_2_pipsLeft, u12_2_notHome)) _ _ _ _ _ hM (Or.inr (Or.inr (Or.inl ⟨rfl, rfl, _, rfl⟩))) (X.d (k := 46) rfl) Y
            refine r_if_ne (pc' := 81) X 86 38 rfl rfl (by decide) (fun c16 => ?_) (fun c16 => ?_)
            · replace hM := mE hM c16
              refine r_lload (pc' := 88) X hl 1 rfl 41 rfl rfl ?_
              exact KJ13 u11 _ _ _ hM Y (lv_sub hl [1, 0] rfl)
            · replace hM := mI hM c16
              refine r_lload (pc' := 83) X hl 0 rfl 39 rfl rfl ?_
              refine r_goto X 88 40 rfl (by decide) ?_
              exact KJ13 u12_1 _ _ _ hM Y (lv_sub hl [1, 0] rfl)
          · replace hM := mI hM c10
            refine r_ldc2 (pc' := 52) X mw480 23 rfl rfl ?_
            exact RT ((-1000002 : Int64), (S3_points, S3_home, S3_men, S3_turn, S3_thrower, S3_cube, S3_owner, S3_firms, S3_kindsTold, S3_places, S3_crowds, S3_pipsLeft, S3_notHome)) _ _ _ _ _ hM (Or.inr (Or.inr (Or.inl ⟨rfl, rfl, _, rfl⟩))) (X.d (k := 24) rfl) Y
        · replace hM := mI hM c8
          refine r_ldc2 (pc' := 37) X mw481 16 rfl rfl ?_
          exact RT ((-1000001 : Int64), (S3_points, S3_home, S3_men, S3_turn, S3_thrower, S3_cube, S3_owner, S3_firms, S3_kindsTold, S3_places, S3_crowds, S3_pipsLeft, S3_notHome)) _ _ _ _ _ hM (Or.inr (Or.inr (Or.inl ⟨rfl, rfl, _, rfl⟩))) (X.d (k := 17) rfl) Y
  · replace hM := mE hM c2
    refine r_ldc2 (pc' := 10) X mw480 3 rfl rfl ?_
    exact RT ((-1000002 : Int64), (S3_points, S3_home, S3_men, S3_turn, S3_thrower, S3_cube, S3_owner, S3_firms, S3_kindsTold, S3_places, S3_crowds, S3_pipsLeft, S3_notHome)) _ _ _ _ _ hM (Or.inr (Or.inr (Or.inl ⟨rfl, rfl, _, rfl⟩))) (X.d (k := 4) rfl) Y

def M_X7_drawn (S0 : TF) (S1 : BD) (S2 : FS) (S3 : BD) (i1 : Int32) (i2 : Int32) (i3 : Int32) : Option (Int32 × BD) :=
  ((M_X7_hasNoTable S0 S1).bind (fun u1 => (if u1 = 0 then ((M_X7_within i1 (0 : Int32) (60 : Int32)).bind (fun u3 => (if u3 = 0 then (some ((-1000001 : Int32), S3)) else ((M_X7_within i2 (1 : Int32) (999999 : Int32)).bind (fun u5 => (if u5 = 0 then (some ((-1000001 : Int32), S3)) else ((M_X7_isChoice i3).bind (fun u7 => (if u7 = 0 then (some ((-1000001 : Int32), S3)) else ((M_X3_endOfGame S2 S1 S3 i1 i2).bind (fun u9 => (if i3 = 0 then ((M_X2_lead u9 (0 : Int32)).bind (fun u15 => (some (u15, u9)))) else ((M_X2_off u9).bind (fun u11 => ((M_X2_menAt u9 (0 : Int32) u11).bind (fun u12 => ((M_X2_off u9).bind (fun u13 => ((M_X2_menAt u9 (1 : Int32) u13).bind (fun u14 => (some ((u12 ||| u14), u9)))))))))))))))))))))) else (some ((-1000002 : Int32), S3)))))
def q_X7_drawn : Room := { frames := 7, cells := 0, slots := 0, locals := 206 }
set_option maxHeartbeats 4000000 in
set_option maxRecDepth 100000 in
theorem c_X7_drawn (l : Launch) (G : gT) (h h_rows h_tape h_live h_draft h_images h_acts h_foresight h_asks h_live_firms h_live_kindsTold h_live_places h_live_crowds h_live_pipsLeft h_live_notHome h_foresight_spare h_foresight_told h_foresight_spare_firms h_foresight_spare_kindsTold h_foresight_spare_places h_foresight_spare_crowds h_foresight_spare_pipsLeft h_foresight_spare_notHome : Nat) (S0_latestFault : Int32) (S0_latestFinding : Int32) (S1_points : Int32) (S1_home : Int32) (S1_men : Int32) (S1_turn : Int32) (S1_thrower : Int32) (S1_cube : Int32) (S1_owner : Int32) (S1_firms : Nat → Int32) (S1_kindsTold : Nat → Int32) (S1_places : Nat → Int32) (S1_crowds : Nat → Int32) (S1_pipsLeft : Nat → Int32) (S1_notHome : Nat → Int32) (S2 : Int32) (S3_points : Int32) (S3_home : Int32) (S3_men : Int32) (S3_turn : Int32) (S3_thrower : Int32) (S3_cube : Int32) (S3_owner : Int32) (S3_firms : Nat → Int32) (S3_kindsTold : Nat → Int32) (S3_places : Nat → Int32) (S3_crowds : Nat → Int32) (S3_pipsLeft : Nat → Int32) (S3_notHome : Nat → Int32) (i1 : Int32) (i2 : Int32) (i3 : Int32) : CT l G yX7_drawn cX7_drawn 5 (some .int) q_X7_drawn [.ref h, .int i1, .int i2, .int i3] (wTF G h h_rows h_tape h_live h_draft h_images h_acts h_foresight h_asks S0_latestFault S0_latestFinding ++ wBD G h_live h_live_firms h_live_kindsTold h_live_places h_live_crowds h_live_pipsLeft h_live_notHome S1_points S1_home S1_men S1_turn S1_thrower S1_cube S1_owner S1_firms S1_kindsTold S1_places S1_crowds S1_pipsLeft S1_notHome ++ wFS G h_foresight h_foresight_spare h_foresight_told S2 ++ wBD G h_foresight_spare h_foresight_spare_firms h_foresight_spare_kindsTold h_foresight_spare_places h_foresight_spare_crowds h_foresight_spare_pipsLeft h_foresight_spare_notHome S3_points S3_home S3_men S3_turn S3_thrower S3_cube S3_owner S3_firms S3_kindsTold S3_places S3_crowds S3_pipsLeft S3_notHome) (M_X7_drawn (S0_latestFault, S0_latestFinding) (S1_points, S1_home, S1_men, S1_turn, S1_thrower, S1_cube, S1_owner, S1_firms, S1_kindsTold, S1_places, S1_crowds, S1_pipsLeft, S1_notHome) S2 (S3_points, S3_home, S3_men, S3_turn, S3_thrower, S3_cube, S3_owner, S3_firms, S3_kindsTold, S3_places, S3_crowds, S3_pipsLeft, S3_notHome) i1 i2 i3) (fun u => some (.int u.1)) (fun u => wTF G h h_rows h_tape h_live h_draft h_images h_acts h_foresight h_asks S0_latestFault S0_latestFinding ++ wBD G h_live h_live_firms h_live_kindsTold h_live_places h_live_crowds h_live_pipsLeft h_live_notHome S1_points S1_home S1_men S1_turn S1_thrower S1_cube S1_owner S1_firms S1_kindsTold S1_places S1_crowds S1_pipsLeft S1_notHome ++ wFS G h_foresight h_foresight_spare h_foresight_told S2 ++ wBD G h_foresight_spare h_foresight_spare_firms h_foresight_spare_kindsTold h_foresight_spare_places h_foresight_spare_crowds h_foresight_spare_pipsLeft h_foresight_spare_notHome u.2.1 u.2.2.1 u.2.2.2.1 u.2.2.2.2.1 u.2.2.2.2.2.1 u.2.2.2.2.2.2.1 u.2.2.2.2.2.2.2.1 u.2.2.2.2.2.2.2.2.1 u.2.2.2.2.2.2.2.2.2.1 u.2.2.2.2.2.2.2.2.2.2.1 u.2.2.2.2.2.2.2.2.2.2.2.1 u.2.2.2.2.2.2.2.2.2.2.2.2.1 u.2.2.2.2.2.2.2.2.2.2.2.2.2) := by
  refine CT.of (P := PX7_drawn) (by decide) dPX7_drawn (Nat.le_of_ble_eq_true rfl) ?_
  intro p e s m args below meth c A Q ls hne X RT Y hl
  have hl : lv_has ls 5 [(0, .ref h), (1, .int i1), (2, .int i2), (3, .int i3)] := hl
  generalize hM : M_X7_drawn (S0_latestFault, S0_latestFinding) (S1_points, S1_home, S1_men, S1_turn, S1_thrower, S1_cube, S1_owner, S1_firms, S1_kindsTold, S1_places, S1_crowds, S1_pipsLeft, S1_notHome) S2 (S3_points, S3_home, S3_men, S3_turn, S3_thrower, S3_cube, S3_owner, S3_firms, S3_kindsTold, S3_places, S3_crowds, S3_pipsLeft, S3_notHome) i1 i2 i3 = MM at hne RT
  unfold M_X7_drawn at hM
  refine r_aload_n (pc' := 1) X hl 0 rfl rfl 0 rfl rfl ?_
  refine r_callV0 (pc' := 4) (As := []) (rest := []) X Y 1 rfl rfl mRX7_142 (c_X7_hasNoTable l G h h_rows h_tape h_live h_draft h_images h_acts h_foresight h_asks h_live_firms h_live_kindsTold h_live_places h_live_crowds h_live_pipsLeft h_live_notHome S0_latestFault S0_latestFinding S1_points S1_home S1_men S1_turn S1_thrower S1_cube S1_owner S1_firms S1_kindsTold S1_places S1_crowds S1_pipsLeft S1_notHome) (mB hM hne) 0 rfl rfl [0, 1, 2, 3, 4, 5, 6, 7] rfl rfl rfl (Nat.le_of_ble_eq_true rfl) ⟨rfl, rfl⟩ ⟨Nat.le_of_ble_eq_true rfl, Nat.le_of_ble_eq_true rfl⟩ ⟨Nat.zero_le _, Nat.zero_le _⟩ hl.1 (st' := fun u1 => [.int u1]) (fun _ => rfl) (fun u1 H locs huu1 Y => ?_)
  replace hM := mS hM huu1
  refine r_if_eq (pc' := 7) X 10 2 rfl rfl (by decide) (fun c2 => ?_) (fun c2 => ?_)
  · replace hM := mI hM c2
    refine r_iload_n (pc' := 11) X hl 1 rfl rfl 5 rfl rfl ?_
    refine r_iconst (pc' := 12) X (0 : Int32) 6 rfl rfl rfl ?_
    refine r_bipush (pc' := 14) X (60 : Int32) 7 rfl rfl rfl ?_
    refine r_callS0 (pc' := 17) (As := [.int i1, .int (0 : Int32), .int (60 : Int32)]) (rest := []) X Y 8 rfl rfl mRX7_62 (c_X7_within l G i1 (0 : Int32) (60 : Int32)) (mB hM hne) rfl [] rfl rfl rfl (Nat.le_of_ble_eq_true rfl) ⟨rfl, rfl⟩ ⟨Nat.le_of_ble_eq_true rfl, Nat.le_of_ble_eq_true rfl⟩ ⟨Nat.zero_le _, Nat.zero_le _⟩ hl.1 (st' := fun u3 => [.int u3]) (fun _ => rfl) (fun u3 H locs huu3 Y => ?_)
    replace hM := mS hM huu3
    refine r_if_eq (pc' := 20) X 38 9 rfl rfl (by decide) (fun c4 => ?_) (fun c4 => ?_)
    · replace hM := mI hM c4
      refine r_ldc (pc' := 40) X mw324 18 rfl rfl ?_
      exact RT ((-1000001 : Int32), (S3_points, S3_home, S3_men, S3_turn, S3_thrower, S3_cube, S3_owner, S3_firms, S3_kindsTold, S3_places, S3_crowds, S3_pipsLeft, S3_notHome)) _ _ _ _ _ hM (Or.inl ⟨rfl, rfl, _, rfl⟩) (X.d (k := 19) rfl) Y
    · replace hM := mE hM c4
      refine r_iload_n (pc' := 21) X hl 2 rfl rfl 10 rfl rfl ?_
      refine r_iconst (pc' := 22) X (1 : Int32) 11 rfl rfl rfl ?_
      refine r_ldcw (pc' := 25) X mw490 12 rfl rfl ?_
      refine r_callS0 (pc' := 28) (As := [.int i2, .int (1 : Int32), .int (999999 : Int32)]) (rest := []) X Y 13 rfl rfl mRX7_62 (c_X7_within l G i2 (1 : Int32) (999999 : Int32)) (mB hM hne) rfl [] rfl rfl rfl (Nat.le_of_ble_eq_true rfl) ⟨rfl, rfl⟩ ⟨Nat.le_of_ble_eq_true rfl, Nat.le_of_ble_eq_true rfl⟩ ⟨Nat.zero_le _, Nat.zero_le _⟩ hl.1 (st' := fun u5 => [.int u5]) (fun _ => rfl) (fun u5 H locs huu5 Y => ?_)
      replace hM := mS hM huu5
      refine r_if_eq (pc' := 31) X 38 14 rfl rfl (by decide) (fun c6 => ?_) (fun c6 => ?_)
      · replace hM := mI hM c6
        refine r_ldc (pc' := 40) X mw324 18 rfl rfl ?_
        exact RT ((-1000001 : Int32), (S3_points, S3_home, S3_men, S3_turn, S3_thrower, S3_cube, S3_owner, S3_firms, S3_kindsTold, S3_places, S3_crowds, S3_pipsLeft, S3_notHome)) _ _ _ _ _ hM (Or.inl ⟨rfl, rfl, _, rfl⟩) (X.d (k := 19) rfl) Y
      · replace hM := mE hM c6
        refine r_iload_n (pc' := 32) X hl 3 rfl rfl 15 rfl rfl ?_
        refine r_callS0 (pc' := 35) (As := [.int i3]) (rest := []) X Y 16 rfl rfl mRX7_239 (c_X7_isChoice l G i3) (mB hM hne) rfl [] rfl rfl rfl (Nat.le_of_ble_eq_true rfl) ⟨rfl, rfl⟩ ⟨Nat.le_of_ble_eq_true rfl, Nat.le_of_ble_eq_true rfl⟩ ⟨Nat.zero_le _, Nat.zero_le _⟩ hl.1 (st' := fun u7 => [.int u7]) (fun _ => rfl) (fun u7 H locs huu7 Y => ?_)
        replace hM := mS hM huu7
        refine r_if_ne (pc' := 38) X 41 17 rfl rfl (by decide) (fun c8 => ?_) (fun c8 => ?_)
        · replace hM := mE hM c8
          refine r_aload_n (pc' := 42) X hl 0 rfl rfl 20 rfl rfl ?_
          refine r_get (pc' := 45) (v := .ref h_foresight) X Y 21 rfl rfl fRX7_47 0 rfl rfl ?_
          refine r_aload_n (pc' := 46) X hl 0 rfl rfl 22 rfl rfl ?_
          refine r_get (pc' := 49) (v := .ref h_live) X Y 23 rfl rfl fRX7_26 0 rfl rfl ?_
          refine r_iload_n (pc' := 50) X hl 1 rfl rfl 24 rfl rfl ?_
          refine r_iload_n (pc' := 51) X hl 2 rfl rfl 25 rfl rfl ?_
          refine r_callV (pc' := 54) (As := [.ref h_live, .int i1, .int i2]) (rest := []) (wr := (wTF G h h_rows h_tape h_live h_draft h_images h_acts h_foresight h_asks S0_latestFault S0_latestFinding : va_W)) X Y 26 rfl rfl mRX7_304 (c_X3_endOfGame l G h_foresight h_live h_foresight_spare h_foresight_told h_live_firms h_live_kindsTold h_live_places h_live_crowds h_live_pipsLeft h_live_notHome h_foresight_spare_firms h_foresight_spare_kindsTold h_foresight_spare_places h_foresight_spare_crowds h_foresight_spare_pipsLeft h_foresight_spare_notHome S2 S1_points S1_home S1_men S1_turn S1_thrower S1_cube S1_owner S1_firms S1_kindsTold S1_places S1_crowds S1_pipsLeft S1_notHome S3_points S3_home S3_men S3_turn S3_thrower S3_cube S3_owner S3_firms S3_kindsTold S3_places S3_crowds S3_pipsLeft S3_notHome i1 i2) (mB hM hne) 8 rfl rfl [8, 1, 2, 3, 4, 5, 6, 7, 9, 10, 11, 12, 13, 14, 15] [0] [0, 2, 3, 4, 5, 6, 7, 8, 1, 9, 10, 11, 12, 13, 14, 15] rfl rfl ⟨rfl, rfl, rfl⟩ rfl (w2 := fun u9 => wTF G h h_rows h_tape h_live h_draft h_images h_acts h_foresight h_asks S0_latestFault S0_latestFinding ++ wBD G h_live h_live_firms h_live_kindsTold h_live_places h_live_crowds h_live_pipsLeft h_live_notHome S1_points S1_home S1_men S1_turn S1_thrower S1_cube S1_owner S1_firms S1_kindsTold S1_places S1_crowds S1_pipsLeft S1_notHome ++ wFS G h_foresight h_foresight_spare h_foresight_told S2 ++ wBD G h_foresight_spare h_foresight_spare_firms h_foresight_spare_kindsTold h_foresight_spare_places h_foresight_spare_crowds h_foresight_spare_pipsLeft h_foresight_spare_notHome u9.1 u9.2.1 u9.2.2.1 u9.2.2.2.1 u9.2.2.2.2.1 u9.2.2.2.2.2.1 u9.2.2.2.2.2.2.1 u9.2.2.2.2.2.2.2.1 u9.2.2.2.2.2.2.2.2.1 u9.2.2.2.2.2.2.2.2.2.1 u9.2.2.2.2.2.2.2.2.2.2.1 u9.2.2.2.2.2.2.2.2.2.2.2.1 u9.2.2.2.2.2.2.2.2.2.2.2.2) (fun _ => rfl) rfl (Nat.le_of_ble_eq_true rfl) ⟨rfl, rfl⟩ ⟨Nat.le_of_ble_eq_true rfl, Nat.le_of_ble_eq_true rfl⟩ ⟨Nat.zero_le _, Nat.zero_le _⟩ hl.1 (st' := fun u9 => [.ref h_foresight_spare]) (fun _ => rfl) (fun u9 H locs huu9 Y => ?_)
          obtain ⟨u9_points, u9_home, u9_men, u9_turn, u9_thrower, u9_cube, u9_owner, u9_firms, u9_kindsTold, u9_places, u9_crowds, u9_pipsLeft, u9_notHome⟩ := u9
          replace Y : rY G A s (wTF G h h_rows h_tape h_live h_draft h_images h_acts h_foresight h_asks S0_latestFault S0_latestFinding ++ wBD G h_live h_live_firms h_live_kindsTold h_live_places h_live_crowds h_live_pipsLeft h_live_notHome S1_points S1_home S1_men S1_turn S1_thrower S1_cube S1_owner S1_firms S1_kindsTold S1_places S1_crowds S1_pipsLeft S1_notHome ++ wFS G h_foresight h_foresight_spare h_foresight_told S2 ++ wBD G h_foresight_spare h_foresight_spare_firms h_foresight_spare_kindsTold h_foresight_spare_places h_foresight_spare_crowds h_foresight_spare_pipsLeft h_foresight_spare_notHome u9_points u9_home u9_men u9_turn u9_thrower u9_cube u9_owner u9_firms u9_kindsTold u9_places u9_crowds u9_pipsLeft u9_notHome) H locs := Y
          replace hM := mS hM huu9
          show W p l e q_X7_drawn s m args below meth c H locs 0 0 Q (F0 m 54 ls [.ref h_foresight_spare])
          refine r_astore (pc' := 56) (L' := [(4, .ref h_foresight_spare), (0, .ref h), (1, .int i1), (2, .int i2), (3, .int i3)]) X hl 27 rfl rfl (by decide) rfl (fun ls hl => ?_)
          refine r_iload_n (pc' := 57) X hl 4 rfl rfl 28 rfl rfl ?_
          refine r_if_ne (pc' := 60) X 69 29 rfl rfl (by decide) (fun c10 => ?_) (fun c10 => ?_)
          · replace hM := mE hM c10
            refine r_aload (pc' := 71) X hl 0 rfl 34 rfl rfl ?_
            refine r_iconst (pc' := 72) X (0 : Int32) 35 rfl rfl rfl ?_
            refine r_aload (pc' := 74) X hl 0 rfl 36 rfl rfl ?_
            refine r_callV0 (pc' := 77) (As := []) (rest := [.int (0 : Int32), .ref h_foresight_spare]) X Y 37 rfl rfl mRX7_202 (c_X2_off l G h_foresight_spare h_foresight_spare_firms h_foresight_spare_kindsTold h_foresight_spare_places h_foresight_spare_crowds h_foresight_spare_pipsLeft h_foresight_spare_notHome u9_points u9_home u9_men u9_turn u9_thrower u9_cube u9_owner u9_firms u9_kindsTold u9_places u9_crowds u9_pipsLeft u9_notHome) (mB hM hne) 9 rfl rfl [9, 10, 11, 12, 13, 14, 15] rfl rfl rfl (Nat.le_of_ble_eq_true rfl) ⟨rfl, rfl⟩ ⟨Nat.le_of_ble_eq_true rfl, Nat.le_of_ble_eq_true rfl⟩ ⟨Nat.zero_le _, Nat.zero_le _⟩ hl.1 (st' := fun u11 => [.int u11, .int (0 : Int32), .ref h_foresight_spare]) (fun _ => rfl) (fun u11 H locs huu11 Y => ?_)
            replace hM := mS hM huu11
            refine r_callV0 (pc' := 80) (As := [.int (0 : Int32), .int u11]) (rest := []) X Y 38 rfl rfl mRX7_215 (c_X2_menAt l G h_foresight_spare h_foresight_spare_firms h_foresight_spare_kindsTold h_foresight_spare_places h_foresight_spare_crowds h_foresight_spare_pipsLeft h_foresight_spare_notHome u9_points u9_home u9_men u9_turn u9_thrower u9_cube u9_owner u9_firms u9_kindsTold u9_places u9_crowds u9_pipsLeft u9_notHome (0 : Int32) u11) (mB hM hne) 9 rfl rfl [9, 10, 11, 12, 13, 14, 15] rfl rfl rfl (Nat.le_of_ble_eq_true rfl) ⟨rfl, rfl⟩ ⟨Nat.le_of_ble_eq_true rfl, Nat.le_of_ble_eq_true rfl⟩ ⟨Nat.zero_le _, Nat.zero_le _⟩ hl.1 (st' := fun u12 => [.int u12]) (fun _ => rfl) (fun u12 H locs huu12 Y => ?_)
            replace hM := mS hM huu12
            refine r_aload (pc' := 82) X hl 0 rfl 39 rfl rfl ?_
            refine r_iconst (pc' := 83) X (1 : Int32) 40 rfl rfl rfl ?_
            refine r_aload (pc' := 85) X hl 0 rfl 41 rfl rfl ?_
            refine r_callV0 (pc' := 88) (As := []) (rest := [.int (1 : Int32), .ref h_foresight_spare, .int u12]) X Y 42 rfl rfl mRX7_202 (c_X2_off l G h_foresight_spare h_foresight_spare_firms h_foresight_spare_kindsTold h_foresight_spare_places h_foresight_spare_crowds h_foresight_spare_pipsLeft h_foresight_spare_notHome u9_points u9_home u9_men u9_turn u9_thrower u9_cube u9_owner u9_firms u9_kindsTold u9_places u9_crowds u9_pipsLeft u9_notHome) (mB hM hne) 9 rfl rfl [9, 10, 11, 12, 13, 14, 15] rfl rfl rfl (Nat.le_of_ble_eq_true rfl) ⟨rfl, rfl⟩ ⟨Nat.le_of_ble_eq_true rfl, Nat.le_of_ble_eq_true rfl⟩ ⟨Nat.zero_le _, Nat.zero_le _⟩ hl.1 (st' := fun u13 => [.int u13, .int (1 : Int32), .ref h_foresight_spare, .int u12]) (fun _ => rfl) (fun u13 H locs huu13 Y => ?_)
            replace hM := mS hM huu13
            refine r_callV0 (pc' := 91) (As := [.int (1 : Int32), .int u13]) (rest := [.int u12]) X Y 43 rfl rfl mRX7_215 (c_X2_menAt l G h_foresight_spare h_foresight_spare_firms h_foresight_spare_kindsTold h_foresight_spare_places h_foresight_spare_crowds h_foresight_spare_pipsLeft h_foresight_spare_notHome u9_points u9_home u9_men u9_turn u9_thrower u9_cube u9_owner u9_firms u9_kindsTold u9_places u9_crowds u9_pipsLeft u9_notHome (1 : Int32) u13) (mB hM hne) 9 rfl rfl [9, 10, 11, 12, 13, 14, 15] rfl rfl rfl (Nat.le_of_ble_eq_true rfl) ⟨rfl, rfl⟩ ⟨Nat.le_of_ble_eq_true rfl, Nat.le_of_ble_eq_true rfl⟩ ⟨Nat.zero_le _, Nat.zero_le _⟩ hl.1 (st' := fun u14 => [.int u14, .int u12]) (fun _ => rfl) (fun u14 H locs huu14 Y => ?_)
            replace hM := mS hM huu14
            refine r_ior (pc' := 92) X 44 rfl rfl ?_
            exact RT ((u12 ||| u14), (u9_points, u9_home, u9_men, u9_turn, u9_thrower, u9_cube, u9_owner, u9_firms, u9_kindsTold, u9_places, u9_crowds, u9_pipsLeft, u9_notHome)) _ _ _ _ _ hM (Or.inl ⟨rfl, rfl, _, rfl⟩) (X.d (k := 45) rfl) Y
          · replace hM := mI hM c10
            refine r_aload (pc' := 62) X hl 0 rfl 30 rfl rfl ?_
            refine r_iconst (pc' := 63) X (0 : Int32) 31 rfl rfl rfl ?_
            refine r_callV0 (pc' := 66) (As := [.int (0 : Int32)]) (rest := []) X Y 32 rfl rfl mRX7_245 (c_X2_lead l G h_foresight_spare h_foresight_spare_firms h_foresight_spare_kindsTold h_foresight_spare_places h_foresight_spare_crowds h_foresight_spare_pipsLeft h_foresight_spare_notHome u9_points u9_home u9_men u9_turn u9_thrower u9_cube u9_owner u9_firms u9_kindsTold u9_places u9_crowds u9_pipsLeft u9_notHome (0 : Int32)) (mB hM hne) 9 rfl rfl [9, 10, 11, 12, 13, 14, 15] rfl rfl rfl (Nat.le_of_ble_eq_true rfl) ⟨rfl, rfl⟩ ⟨Nat.le_of_ble_eq_true rfl, Nat.le_of_ble_eq_true rfl⟩ ⟨Nat.zero_le _, Nat.zero_le _⟩ hl.1 (st' := fun u15 => [.int u15]) (fun _ => rfl) (fun u15 H locs huu15 Y => ?_)
            replace hM := mS hM huu15
            refine r_goto X 92 33 rfl (by decide) ?_
            exact RT (u15, (u9_points, u9_home, u9_men, u9_turn, u9_thrower, u9_cube, u9_owner, u9_firms, u9_kindsTold, u9_places, u9_crowds, u9_pipsLeft, u9_notHome)) _ _ _ _ _ hM (Or.inl ⟨rfl, rfl, _, rfl⟩) (X.d (k := 45) rfl) Y
        · replace hM := mI hM c8
          refine r_ldc (pc' := 40) X mw324 18 rfl rfl ?_
          exact RT ((-1000001 : Int32), (S3_points, S3_home, S3_men, S3_turn, S3_thrower, S3_cube, S3_owner, S3_firms, S3_kindsTold, S3_places, S3_crowds, S3_pipsLeft, S3_notHome)) _ _ _ _ _ hM (Or.inl ⟨rfl, rfl, _, rfl⟩) (X.d (k := 19) rfl) Y
  · replace hM := mE hM c2
    refine r_ldc (pc' := 9) X mw378 3 rfl rfl ?_
    exact RT ((-1000002 : Int32), (S3_points, S3_home, S3_men, S3_turn, S3_thrower, S3_cube, S3_owner, S3_firms, S3_kindsTold, S3_places, S3_crowds, S3_pipsLeft, S3_notHome)) _ _ _ _ _ hM (Or.inl ⟨rfl, rfl, _, rfl⟩) (X.d (k := 4) rfl) Y

def M_X7_image (S0 : TF) (S1 : BD) (S3 : BD) (S4 : BD) (i1 : Int32) : Option (Int32 × BD × BD) :=
  ((M_X7_within i1 (0 : Int32) (1 : Int32)).bind (fun u1 => (if u1 = 0 then (some ((-1000001 : Int32), S3, S4)) else ((M_X7_hasNoTable S0 S1).bind (fun u3 => (if u3 = 0 then (if i1 = 0 then ((M_X2_copyFrom S1 S3).bind (fun u6 => (some ((1 : Int32), u6, S4)))) else if i1 = 1 then ((M_X2_copyFrom S1 S4).bind (fun u7 => (some ((1 : Int32), S3, u7)))) else none) else (some ((-1000002 : Int32), S3, S4))))))))
def q_X7_image : Room := { frames := 2, cells := 0, slots := 0, locals := 82 }
set_option maxHeartbeats 4000000 in
set_option maxRecDepth 100000 in
theorem c_X7_image (l : Launch) (G : gT) (h h_rows h_tape h_live h_draft h_images h_acts h_foresight h_asks h_live_firms h_live_kindsTold h_live_places h_live_crowds h_live_pipsLeft h_live_notHome h_images_0 h_images_1 h_images_0_firms h_images_0_kindsTold h_images_0_places h_images_0_crowds h_images_0_pipsLeft h_images_0_notHome h_images_1_firms h_images_1_kindsTold h_images_1_places h_images_1_crowds h_images_1_pipsLeft h_images_1_notHome : Nat) (S0_latestFault : Int32) (S0_latestFinding : Int32) (S1_points : Int32) (S1_home : Int32) (S1_men : Int32) (S1_turn : Int32) (S1_thrower : Int32) (S1_cube : Int32) (S1_owner : Int32) (S1_firms : Nat → Int32) (S1_kindsTold : Nat → Int32) (S1_places : Nat → Int32) (S1_crowds : Nat → Int32) (S1_pipsLeft : Nat → Int32) (S1_notHome : Nat → Int32) (S3_points : Int32) (S3_home : Int32) (S3_men : Int32) (S3_turn : Int32) (S3_thrower : Int32) (S3_cube : Int32) (S3_owner : Int32) (S3_firms : Nat → Int32) (S3_kindsTold : Nat → Int32) (S3_places : Nat → Int32) (S3_crowds : Nat → Int32) (S3_pipsLeft : Nat → Int32) (S3_notHome : Nat → Int32) (S4_points : Int32) (S4_home : Int32) (S4_men : Int32) (S4_turn : Int32) (S4_thrower : Int32) (S4_cube : Int32) (S4_owner : Int32) (S4_firms : Nat → Int32) (S4_kindsTold : Nat → Int32) (S4_places : Nat → Int32) (S4_crowds : Nat → Int32) (S4_pipsLeft : Nat → Int32) (S4_notHome : Nat → Int32) (i1 : Int32) : CT l G yX7_image cX7_image 2 (some .int) q_X7_image [.ref h, .int i1] (wTF G h h_rows h_tape h_live h_draft h_images h_acts h_foresight h_asks S0_latestFault S0_latestFinding ++ wBD G h_live h_live_firms h_live_kindsTold h_live_places h_live_crowds h_live_pipsLeft h_live_notHome S1_points S1_home S1_men S1_turn S1_thrower S1_cube S1_owner S1_firms S1_kindsTold S1_places S1_crowds S1_pipsLeft S1_notHome ++ wIM G h_images h_images_0 h_images_1 ++ wBD G h_images_0 h_images_0_firms h_images_0_kindsTold h_images_0_places h_images_0_crowds h_images_0_pipsLeft h_images_0_notHome S3_points S3_home S3_men S3_turn S3_thrower S3_cube S3_owner S3_firms S3_kindsTold S3_places S3_crowds S3_pipsLeft S3_notHome ++ wBD G h_images_1 h_images_1_firms h_images_1_kindsTold h_images_1_places h_images_1_crowds h_images_1_pipsLeft h_images_1_notHome S4_points S4_home S4_men S4_turn S4_thrower S4_cube S4_owner S4_firms S4_kindsTold S4_places S4_crowds S4_pipsLeft S4_notHome) (M_X7_image (S0_latestFault, S0_latestFinding) (S1_points, S1_home, S1_men, S1_turn, S1_thrower, S1_cube, S1_owner, S1_firms, S1_kindsTold, S1_places, S1_crowds, S1_pipsLeft, S1_notHome) (S3_points, S3_home, S3_men, S3_turn, S3_thrower, S3_cube, S3_owner, S3_firms, S3_kindsTold, S3_places, S3_crowds, S3_pipsLeft, S3_notHome) (S4_points, S4_home, S4_men, S4_turn, S4_thrower, S4_cube, S4_owner, S4_firms, S4_kindsTold, S4_places, S4_crowds, S4_pipsLeft, S4_notHome) i1) (fun u => some (.int u.1)) (fun u => wTF G h h_rows h_tape h_live h_draft h_images h_acts h_foresight h_asks S0_latestFault S0_latestFinding ++ wBD G h_live h_live_firms h_live_kindsTold h_live_places h_live_crowds h_live_pipsLeft h_live_notHome S1_points S1_home S1_men S1_turn S1_thrower S1_cube S1_owner S1_firms S1_kindsTold S1_places S1_crowds S1_pipsLeft S1_notHome ++ wIM G h_images h_images_0 h_images_1 ++ wBD G h_images_0 h_images_0_firms h_images_0_kindsTold h_images_0_places h_images_0_crowds h_images_0_pipsLeft h_images_0_notHome u.2.1.1 u.2.1.2.1 u.2.1.2.2.1 u.2.1.2.2.2.1 u.2.1.2.2.2.2.1 u.2.1.2.2.2.2.2.1 u.2.1.2.2.2.2.2.2.1 u.2.1.2.2.2.2.2.2.2.1 u.2.1.2.2.2.2.2.2.2.2.1 u.2.1.2.2.2.2.2.2.2.2.2.1 u.2.1.2.2.2.2.2.2.2.2.2.2.1 u.2.1.2.2.2.2.2.2.2.2.2.2.2.1 u.2.1.2.2.2.2.2.2.2.2.2.2.2.2 ++ wBD G h_images_1 h_images_1_firms h_images_1_kindsTold h_images_1_places h_images_1_crowds h_images_1_pipsLeft h_images_1_notHome u.2.2.1 u.2.2.2.1 u.2.2.2.2.1 u.2.2.2.2.2.1 u.2.2.2.2.2.2.1 u.2.2.2.2.2.2.2.1 u.2.2.2.2.2.2.2.2.1 u.2.2.2.2.2.2.2.2.2.1 u.2.2.2.2.2.2.2.2.2.2.1 u.2.2.2.2.2.2.2.2.2.2.2.1 u.2.2.2.2.2.2.2.2.2.2.2.2.1 u.2.2.2.2.2.2.2.2.2.2.2.2.2.1 u.2.2.2.2.2.2.2.2.2.2.2.2.2.2) := by
  refine CT.of (P := PX7_image) (by decide) dPX7_image (Nat.le_of_ble_eq_true rfl) ?_
  intro p e s m args below meth c A Q ls hne X RT Y hl
  have hl : lv_has ls 2 [(0, .ref h), (1, .int i1)] := hl
  generalize hM : M_X7_image (S0_latestFault, S0_latestFinding) (S1_points, S1_home, S1_men, S1_turn, S1_thrower, S1_cube, S1_owner, S1_firms, S1_kindsTold, S1_places, S1_crowds, S1_pipsLeft, S1_notHome) (S3_points, S3_home, S3_men, S3_turn, S3_thrower, S3_cube, S3_owner, S3_firms, S3_kindsTold, S3_places, S3_crowds, S3_pipsLeft, S3_notHome) (S4_points, S4_home, S4_men, S4_turn, S4_thrower, S4_cube, S4_owner, S4_firms, S4_kindsTold, S4_places, S4_crowds, S4_pipsLeft, S4_notHome) i1 = MM at hne RT
  unfold M_X7_image at hM
  refine r_iload_n (pc' := 1) X hl 1 rfl rfl 0 rfl rfl ?_
  refine r_iconst (pc' := 2) X (0 : Int32) 1 rfl rfl rfl ?_
  refine r_iconst (pc' := 3) X (1 : Int32) 2 rfl rfl rfl ?_
  refine r_callS0 (pc' := 6) (As := [.int i1, .int (0 : Int32), .int (1 : Int32)]) (rest := []) X Y 3 rfl rfl mRX7_62 (c_X7_within l G i1 (0 : Int32) (1 : Int32)) (mB hM hne) rfl [] rfl rfl rfl (Nat.le_of_ble_eq_true rfl) ⟨rfl, rfl⟩ ⟨Nat.le_of_ble_eq_true rfl, Nat.le_of_ble_eq_true rfl⟩ ⟨Nat.zero_le _, Nat.zero_le _⟩ hl.1 (st' := fun u1 => [.int u1]) (fun _ => rfl) (fun u1 H locs huu1 Y => ?_)
  replace hM := mS hM huu1
  refine r_if_ne (pc' := 9) X 12 4 rfl rfl (by decide) (fun c2 => ?_) (fun c2 => ?_)
  · replace hM := mE hM c2
    refine r_aload_n (pc' := 13) X hl 0 rfl rfl 7 rfl rfl ?_
    refine r_callV0 (pc' := 16) (As := []) (rest := []) X Y 8 rfl rfl mRX7_142 (c_X7_hasNoTable l G h h_rows h_tape h_live h_draft h_images h_acts h_foresight h_asks h_live_firms h_live_kindsTold h_live_places h_live_crowds h_live_pipsLeft h_live_notHome S0_latestFault S0_latestFinding S1_points S1_home S1_men S1_turn S1_thrower S1_cube S1_owner S1_firms S1_kindsTold S1_places S1_crowds S1_pipsLeft S1_notHome) (mB hM hne) 0 rfl rfl [0, 1, 2, 3, 4, 5, 6, 7] rfl rfl rfl (Nat.le_of_ble_eq_true rfl) ⟨rfl, rfl⟩ ⟨Nat.le_of_ble_eq_true rfl, Nat.le_of_ble_eq_true rfl⟩ ⟨Nat.zero_le _, Nat.zero_le _⟩ hl.1 (st' := fun u3 => [.int u3]) (fun _ => rfl) (fun u3 H locs huu3 Y => ?_)
    replace hM := mS hM huu3
    refine r_if_eq (pc' := 19) X 22 9 rfl rfl (by decide) (fun c4 => ?_) (fun c4 => ?_)
    · replace hM := mI hM c4
      refine r_aload_n (pc' := 23) X hl 0 rfl rfl 12 rfl rfl ?_
      refine r_get (pc' := 26) (v := .ref h_images) X Y 13 rfl rfl fRX7_33 0 rfl rfl ?_
      refine r_iload_n (pc' := 27) X hl 1 rfl rfl 14 rfl rfl ?_
      by_cases h5_0 : i1 = 0
      · replace hM := mI hM h5_0
        refine r_aald (pc' := 28) X Y 15 rfl rfl 8 h_images_0 rfl (by rw [h5_0]; exact vin rfl) (by rw [h5_0]; rfl) ?_
        refine r_aload_n (pc' := 29) X hl 0 rfl rfl 16 rfl rfl ?_
        refine r_get (pc' := 32) (v := .ref h_live) X Y 17 rfl rfl fRX7_26 0 rfl rfl ?_
        refine r_callV (pc' := 35) (As := [.ref h_live]) (rest := []) (wr := (wTF G h h_rows h_tape h_live h_draft h_images h_acts h_foresight h_asks S0_latestFault S0_latestFinding ++ wIM G h_images h_images_0 h_images_1 ++ wBD G h_images_1 h_images_1_firms h_images_1_kindsTold h_images_1_places h_images_1_crowds h_images_1_pipsLeft h_images_1_notHome S4_points S4_home S4_men S4_turn S4_thrower S4_cube S4_owner S4_firms S4_kindsTold S4_places S4_crowds S4_pipsLeft S4_notHome : va_W)) X Y 18 rfl rfl mRX7_125 (c_X2_copyFrom l G h_images_0 h_live h_live_firms h_live_kindsTold h_live_places h_live_crowds h_live_pipsLeft h_live_notHome h_images_0_firms h_images_0_kindsTold h_images_0_places h_images_0_crowds h_images_0_pipsLeft h_images_0_notHome S1_points S1_home S1_men S1_turn S1_thrower S1_cube S1_owner S1_firms S1_kindsTold S1_places S1_crowds S1_pipsLeft S1_notHome S3_points S3_home S3_men S3_turn S3_thrower S3_cube S3_owner S3_firms S3_kindsTold S3_places S3_crowds S3_pipsLeft S3_notHome) (mB hM hne) 9 rfl rfl [1, 2, 3, 4, 5, 6, 7, 9, 10, 11, 12, 13, 14, 15] [0, 8, 16, 17, 18, 19, 20, 21, 22] [0, 9, 10, 11, 12, 13, 14, 15, 1, 16, 17, 18, 19, 20, 21, 22, 2, 3, 4, 5, 6, 7, 8] rfl rfl ⟨rfl, rfl, rfl⟩ rfl (w2 := fun u6 => wTF G h h_rows h_tape h_live h_draft h_images h_acts h_foresight h_asks S0_latestFault S0_latestFinding ++ wBD G h_live h_live_firms h_live_kindsTold h_live_places h_live_crowds h_live_pipsLeft h_live_notHome S1_points S1_home S1_men S1_turn S1_thrower S1_cube S1_owner S1_firms S1_kindsTold S1_places S1_crowds S1_pipsLeft S1_notHome ++ wIM G h_images h_images_0 h_images_1 ++ wBD G h_images_0 h_images_0_firms h_images_0_kindsTold h_images_0_places h_images_0_crowds h_images_0_pipsLeft h_images_0_notHome u6.1 u6.2.1 u6.2.2.1 u6.2.2.2.1 u6.2.2.2.2.1 u6.2.2.2.2.2.1 u6.2.2.2.2.2.2.1 u6.2.2.2.2.2.2.2.1 u6.2.2.2.2.2.2.2.2.1 u6.2.2.2.2.2.2.2.2.2.1 u6.2.2.2.2.2.2.2.2.2.2.1 u6.2.2.2.2.2.2.2.2.2.2.2.1 u6.2.2.2.2.2.2.2.2.2.2.2.2 ++ wBD G h_images_1 h_images_1_firms h_images_1_kindsTold h_images_1_places h_images_1_crowds h_images_1_pipsLeft h_images_1_notHome S4_points S4_home S4_men S4_turn S4_thrower S4_cube S4_owner S4_firms S4_kindsTold S4_places S4_crowds S4_pipsLeft S4_notHome) (fun _ => rfl) rfl (Nat.le_of_ble_eq_true rfl) ⟨rfl, rfl⟩ ⟨Nat.le_of_ble_eq_true rfl, Nat.le_of_ble_eq_true rfl⟩ ⟨Nat.zero_le _, Nat.zero_le _⟩ hl.1 (st' := fun u6 => []) (fun _ => rfl) (fun u6 H locs huu6 Y => ?_)
        obtain ⟨u6_points, u6_home, u6_men, u6_turn, u6_thrower, u6_cube, u6_owner, u6_firms, u6_kindsTold, u6_places, u6_crowds, u6_pipsLeft, u6_notHome⟩ := u6
        replace Y : rY G A s (wTF G h h_rows h_tape h_live h_draft h_images h_acts h_foresight h_asks S0_latestFault S0_latestFinding ++ wBD G h_live h_live_firms h_live_kindsTold h_live_places h_live_crowds h_live_pipsLeft h_live_notHome S1_points S1_home S1_men S1_turn S1_thrower S1_cube S1_owner S1_firms S1_kindsTold S1_places S1_crowds S1_pipsLeft S1_notHome ++ wIM G h_images h_images_0 h_images_1 ++ wBD G h_images_0 h_images_0_firms h_images_0_kindsTold h_images_0_places h_images_0_crowds h_images_0_pipsLeft h_images_0_notHome u6_points u6_home u6_men u6_turn u6_thrower u6_cube u6_owner u6_firms u6_kindsTold u6_places u6_crowds u6_pipsLeft u6_notHome ++ wBD G h_images_1 h_images_1_firms h_images_1_kindsTold h_images_1_places h_images_1_crowds h_images_1_pipsLeft h_images_1_notHome S4_points S4_home S4_men S4_turn S4_thrower S4_cube S4_owner S4_firms S4_kindsTold S4_places S4_crowds S4_pipsLeft S4_notHome) H locs := Y
        replace hM := mS hM huu6
        show W p l e q_X7_image s m args below meth c H locs 0 0 Q (F0 m 35 ls [])
        refine r_iconst (pc' := 36) X (1 : Int32) 19 rfl rfl rfl ?_
        exact RT ((1 : Int32), (u6_points, u6_home, u6_men, u6_turn, u6_thrower, u6_cube, u6_owner, u6_firms, u6_kindsTold, u6_places, u6_crowds, u6_pipsLeft, u6_notHome), (S4_points, S4_home, S4_men, S4_turn, S4_thrower, S4_cube, S4_owner, S4_firms, S4_kindsTold, S4_places, S4_crowds, S4_pipsLeft, S4_notHome)) _ _ _ _ _ hM (Or.inl ⟨rfl, rfl, _, rfl⟩) (X.d (k := 20) rfl) Y
      replace hM := mE hM h5_0
      by_cases h5_1 : i1 = 1
      · replace hM := mI hM h5_1
        refine r_aald (pc' := 28) X Y 15 rfl rfl 8 h_images_1 rfl (by rw [h5_1]; exact vin rfl) (by rw [h5_1]; rfl) ?_
        refine r_aload_n (pc' := 29) X hl 0 rfl rfl 16 rfl rfl ?_
        refine r_get (pc' := 32) (v := .ref h_live) X Y 17 rfl rfl fRX7_26 0 rfl rfl ?_
        refine r_callV (pc' := 35) (As := [.ref h_live]) (rest := []) (wr := (wTF G h h_rows h_tape h_live h_draft h_images h_acts h_foresight h_asks S0_latestFault S0_latestFinding ++ wIM G h_images h_images_0 h_images_1 ++ wBD G h_images_0 h_images_0_firms h_images_0_kindsTold h_images_0_places h_images_0_crowds h_images_0_pipsLeft h_images_0_notHome S3_points S3_home S3_men S3_turn S3_thrower S3_cube S3_owner S3_firms S3_kindsTold S3_places S3_crowds S3_pipsLeft S3_notHome : va_W)) X Y 18 rfl rfl mRX7_125 (c_X2_copyFrom l G h_images_1 h_live h_live_firms h_live_kindsTold h_live_places h_live_crowds h_live_pipsLeft h_live_notHome h_images_1_firms h_images_1_kindsTold h_images_1_places h_images_1_crowds h_images_1_pipsLeft h_images_1_notHome S1_points S1_home S1_men S1_turn S1_thrower S1_cube S1_owner S1_firms S1_kindsTold S1_places S1_crowds S1_pipsLeft S1_notHome S4_points S4_home S4_men S4_turn S4_thrower S4_cube S4_owner S4_firms S4_kindsTold S4_places S4_crowds S4_pipsLeft S4_notHome) (mB hM hne) 16 rfl rfl [1, 2, 3, 4, 5, 6, 7, 16, 17, 18, 19, 20, 21, 22] [0, 8, 9, 10, 11, 12, 13, 14, 15] [0, 9, 10, 11, 12, 13, 14, 15, 1, 2, 3, 4, 5, 6, 7, 8, 16, 17, 18, 19, 20, 21, 22] rfl rfl ⟨rfl, rfl, rfl⟩ rfl (w2 := fun u7 => wTF G h h_rows h_tape h_live h_draft h_images h_acts h_foresight h_asks S0_latestFault S0_latestFinding ++ wBD G h_live h_live_firms h_live_kindsTold h_live_places h_live_crowds h_live_pipsLeft h_live_notHome S1_points S1_home S1_men S1_turn S1_thrower S1_cube S1_owner S1_firms S1_kindsTold S1_places S1_crowds S1_pipsLeft S1_notHome ++ wIM G h_images h_images_0 h_images_1 ++ wBD G h_images_0 h_images_0_firms h_images_0_kindsTold h_images_0_places h_images_0_crowds h_images_0_pipsLeft h_images_0_notHome S3_points S3_home S3_men S3_turn S3_thrower S3_cube S3_owner S3_firms S3_kindsTold S3_places S3_crowds S3_pipsLeft S3_notHome ++ wBD G h_images_1 h_images_1_firms h_images_1_kindsTold h_images_1_places h_images_1_crowds h_images_1_pipsLeft h_images_1_notHome u7.1 u7.2.1 u7.2.2.1 u7.2.2.2.1 u7.2.2.2.2.1 u7.2.2.2.2.2.1 u7.2.2.2.2.2.2.1 u7.2.2.2.2.2.2.2.1 u7.2.2.2.2.2.2.2.2.1 u7.2.2.2.2.2.2.2.2.2.1 u7.2.2.2.2.2.2.2.2.2.2.1 u7.2.2.2.2.2.2.2.2.2.2.2.1 u7.2.2.2.2.2.2.2.2.2.2.2.2) (fun _ => rfl) rfl (Nat.le_of_ble_eq_true rfl) ⟨rfl, rfl⟩ ⟨Nat.le_of_ble_eq_true rfl, Nat.le_of_ble_eq_true rfl⟩ ⟨Nat.zero_le _, Nat.zero_le _⟩ hl.1 (st' := fun u7 => []) (fun _ => rfl) (fun u7 H locs huu7 Y => ?_)
        obtain ⟨u7_points, u7_home, u7_men, u7_turn, u7_thrower, u7_cube, u7_owner, u7_firms, u7_kindsTold, u7_places, u7_crowds, u7_pipsLeft, u7_notHome⟩ := u7
        replace Y : rY G A s (wTF G h h_rows h_tape h_live h_draft h_images h_acts h_foresight h_asks S0_latestFault S0_latestFinding ++ wBD G h_live h_live_firms h_live_kindsTold h_live_places h_live_crowds h_live_pipsLeft h_live_notHome S1_points S1_home S1_men S1_turn S1_thrower S1_cube S1_owner S1_firms S1_kindsTold S1_places S1_crowds S1_pipsLeft S1_notHome ++ wIM G h_images h_images_0 h_images_1 ++ wBD G h_images_0 h_images_0_firms h_images_0_kindsTold h_images_0_places h_images_0_crowds h_images_0_pipsLeft h_images_0_notHome S3_points S3_home S3_men S3_turn S3_thrower S3_cube S3_owner S3_firms S3_kindsTold S3_places S3_crowds S3_pipsLeft S3_notHome ++ wBD G h_images_1 h_images_1_firms h_images_1_kindsTold h_images_1_places h_images_1_crowds h_images_1_pipsLeft h_images_1_notHome u7_points u7_home u7_men u7_turn u7_thrower u7_cube u7_owner u7_firms u7_kindsTold u7_places u7_crowds u7_pipsLeft u7_notHome) H locs := Y
        replace hM := mS hM huu7
        show W p l e q_X7_image s m args below meth c H locs 0 0 Q (F0 m 35 ls [])
        refine r_iconst (pc' := 36) X (1 : Int32) 19 rfl rfl rfl ?_
        exact RT ((1 : Int32), (S3_points, S3_home, S3_men, S3_turn, S3_thrower, S3_cube, S3_owner, S3_firms, S3_kindsTold, S3_places, S3_crowds, S3_pipsLeft, S3_notHome), (u7_points, u7_home, u7_men, u7_turn, u7_thrower, u7_cube, u7_owner, u7_firms, u7_kindsTold, u7_places, u7_crowds, u7_pipsLeft, u7_notHome)) _ _ _ _ _ hM (Or.inl ⟨rfl, rfl, _, rfl⟩) (X.d (k := 20) rfl) Y
      replace hM := mE hM h5_1
      exact absurd hM.symm hne
    · replace hM := mE hM c4
      refine r_ldc (pc' := 21) X mw378 10 rfl rfl ?_
      exact RT ((-1000002 : Int32), (S3_points, S3_home, S3_men, S3_turn, S3_thrower, S3_cube, S3_owner, S3_firms, S3_kindsTold, S3_places, S3_crowds, S3_pipsLeft, S3_notHome), (S4_points, S4_home, S4_men, S4_turn, S4_thrower, S4_cube, S4_owner, S4_firms, S4_kindsTold, S4_places, S4_crowds, S4_pipsLeft, S4_notHome)) _ _ _ _ _ hM (Or.inl ⟨rfl, rfl, _, rfl⟩) (X.d (k := 11) rfl) Y
  · replace hM := mI hM c2
    refine r_ldc (pc' := 11) X mw324 5 rfl rfl ?_
    exact RT ((-1000001 : Int32), (S3_points, S3_home, S3_men, S3_turn, S3_thrower, S3_cube, S3_owner, S3_firms, S3_kindsTold, S3_places, S3_crowds, S3_pipsLeft, S3_notHome), (S4_points, S4_home, S4_men, S4_turn, S4_thrower, S4_cube, S4_owner, S4_firms, S4_kindsTold, S4_places, S4_crowds, S4_pipsLeft, S4_notHome)) _ _ _ _ _ hM (Or.inl ⟨rfl, rfl, _, rfl⟩) (X.d (k := 6) rfl) Y

def M_X7_restore (S0 : TF) (S2 : BD) (S3 : BD) (S4 : BD) (S5 : AC) (i1 : Int32) : Option (Int32 × BD × AC) :=
  ((M_X7_within i1 (0 : Int32) (1 : Int32)).bind (fun u1 => (if u1 = 0 then (some ((-1000001 : Int32), S4, S5)) else (if i1 = 0 then (if (bd_men S2) = 0 then (some ((-1000002 : Int32), S4, S5)) else (if i1 = 0 then ((M_X2_copyFrom S2 S4).bind (fun u6 => ((M_X0_forget S5).bind (fun u7 => (some ((1 : Int32), u6, u7)))))) else if i1 = 1 then ((M_X2_copyFrom S3 S4).bind (fun u8 => ((M_X0_forget S5).bind (fun u9 => (some ((1 : Int32), u8, u9)))))) else none)) else if i1 = 1 then (if (bd_men S3) = 0 then (some ((-1000002 : Int32), S4, S5)) else (if i1 = 0 then ((M_X2_copyFrom S2 S4).bind (fun u12 => ((M_X0_forget S5).bind (fun u13 => (some ((1 : Int32), u12, u13)))))) else if i1 = 1 then ((M_X2_copyFrom S3 S4).bind (fun u14 => ((M_X0_forget S5).bind (fun u15 => (some ((1 : Int32), u14, u15)))))) else none)) else none))))
def q_X7_restore : Room := { frames := 2, cells := 0, slots := 0, locals := 82 }
set_option maxHeartbeats 4000000 in
set_option maxRecDepth 100000 in
theorem c_X7_restore (l : Launch) (G : gT) (h h_rows h_tape h_live h_draft h_images h_acts h_foresight h_asks h_images_0 h_images_1 h_images_0_firms h_images_0_kindsTold h_images_0_places h_images_0_crowds h_images_0_pipsLeft h_images_0_notHome h_images_1_firms h_images_1_kindsTold h_images_1_places h_images_1_crowds h_images_1_pipsLeft h_images_1_notHome h_live_firms h_live_kindsTold h_live_places h_live_crowds h_live_pipsLeft h_live_notHome h_acts_before : Nat) (S0_latestFault : Int32) (S0_latestFinding : Int32) (S2_points : Int32) (S2_home : Int32) (S2_men : Int32) (S2_turn : Int32) (S2_thrower : Int32) (S2_cube : Int32) (S2_owner : Int32) (S2_firms : Nat → Int32) (S2_kindsTold : Nat → Int32) (S2_places : Nat → Int32) (S2_crowds : Nat → Int32) (S2_pipsLeft : Nat → Int32) (S2_notHome : Nat → Int32) (S3_points : Int32) (S3_home : Int32) (S3_men : Int32) (S3_turn : Int32) (S3_thrower : Int32) (S3_cube : Int32) (S3_owner : Int32) (S3_firms : Nat → Int32) (S3_kindsTold : Nat → Int32) (S3_places : Nat → Int32) (S3_crowds : Nat → Int32) (S3_pipsLeft : Nat → Int32) (S3_notHome : Nat → Int32) (S4_points : Int32) (S4_home : Int32) (S4_men : Int32) (S4_turn : Int32) (S4_thrower : Int32) (S4_cube : Int32) (S4_owner : Int32) (S4_firms : Nat → Int32) (S4_kindsTold : Nat → Int32) (S4_places : Nat → Int32) (S4_crowds : Nat → Int32) (S4_pipsLeft : Nat → Int32) (S4_notHome : Nat → Int32) (S5_next : Int32) (S5_kept : Int32) (S5_before : Nat → Int32) (i1 : Int32) : CT l G yX7_restore cX7_restore 2 (some .int) q_X7_restore [.ref h, .int i1] (wTF G h h_rows h_tape h_live h_draft h_images h_acts h_foresight h_asks S0_latestFault S0_latestFinding ++ wIM G h_images h_images_0 h_images_1 ++ wBD G h_images_0 h_images_0_firms h_images_0_kindsTold h_images_0_places h_images_0_crowds h_images_0_pipsLeft h_images_0_notHome S2_points S2_home S2_men S2_turn S2_thrower S2_cube S2_owner S2_firms S2_kindsTold S2_places S2_crowds S2_pipsLeft S2_notHome ++ wBD G h_images_1 h_images_1_firms h_images_1_kindsTold h_images_1_places h_images_1_crowds h_images_1_pipsLeft h_images_1_notHome S3_points S3_home S3_men S3_turn S3_thrower S3_cube S3_owner S3_firms S3_kindsTold S3_places S3_crowds S3_pipsLeft S3_notHome ++ wBD G h_live h_live_firms h_live_kindsTold h_live_places h_live_crowds h_live_pipsLeft h_live_notHome S4_points S4_home S4_men S4_turn S4_thrower S4_cube S4_owner S4_firms S4_kindsTold S4_places S4_crowds S4_pipsLeft S4_notHome ++ wAC G h_acts h_acts_before S5_next S5_kept S5_before) (M_X7_restore (S0_latestFault, S0_latestFinding) (S2_points, S2_home, S2_men, S2_turn, S2_thrower, S2_cube, S2_owner, S2_firms, S2_kindsTold, S2_places, S2_crowds, S2_pipsLeft, S2_notHome) (S3_points, S3_home, S3_men, S3_turn, S3_thrower, S3_cube, S3_owner, S3_firms, S3_kindsTold, S3_places, S3_crowds, S3_pipsLeft, S3_notHome) (S4_points, S4_home, S4_men, S4_turn, S4_thrower, S4_cube, S4_owner, S4_firms, S4_kindsTold, S4_places, S4_crowds, S4_pipsLeft, S4_notHome) (S5_next, S5_kept, S5_before) i1) (fun u => some (.int u.1)) (fun u => wTF G h h_rows h_tape h_live h_draft h_images h_acts h_foresight h_asks S0_latestFault S0_latestFinding ++ wIM G h_images h_images_0 h_images_1 ++ wBD G h_images_0 h_images_0_firms h_images_0_kindsTold h_images_0_places h_images_0_crowds h_images_0_pipsLeft h_images_0_notHome S2_points S2_home S2_men S2_turn S2_thrower S2_cube S2_owner S2_firms S2_kindsTold S2_places S2_crowds S2_pipsLeft S2_notHome ++ wBD G h_images_1 h_images_1_firms h_images_1_kindsTold h_images_1_places h_images_1_crowds h_images_1_pipsLeft h_images_1_notHome S3_points S3_home S3_men S3_turn S3_thrower S3_cube S3_owner S3_firms S3_kindsTold S3_places S3_crowds S3_pipsLeft S3_notHome ++ wBD G h_live h_live_firms h_live_kindsTold h_live_places h_live_crowds h_live_pipsLeft h_live_notHome u.2.1.1 u.2.1.2.1 u.2.1.2.2.1 u.2.1.2.2.2.1 u.2.1.2.2.2.2.1 u.2.1.2.2.2.2.2.1 u.2.1.2.2.2.2.2.2.1 u.2.1.2.2.2.2.2.2.2.1 u.2.1.2.2.2.2.2.2.2.2.1 u.2.1.2.2.2.2.2.2.2.2.2.1 u.2.1.2.2.2.2.2.2.2.2.2.2.1 u.2.1.2.2.2.2.2.2.2.2.2.2.2.1 u.2.1.2.2.2.2.2.2.2.2.2.2.2.2 ++ wAC G h_acts h_acts_before u.2.2.1 u.2.2.2.1 u.2.2.2.2) := by
  refine CT.of (P := PX7_restore) (by decide) dPX7_restore (Nat.le_of_ble_eq_true rfl) ?_
  intro p e s m args below meth c A Q ls hne X RT Y hl
  have hl : lv_has ls 2 [(0, .ref h), (1, .int i1)] := hl
  generalize hM : M_X7_restore (S0_latestFault, S0_latestFinding) (S2_points, S2_home, S2_men, S2_turn, S2_thrower, S2_cube, S2_owner, S2_firms, S2_kindsTold, S2_places, S2_crowds, S2_pipsLeft, S2_notHome) (S3_points, S3_home, S3_men, S3_turn, S3_thrower, S3_cube, S3_owner, S3_firms, S3_kindsTold, S3_places, S3_crowds, S3_pipsLeft, S3_notHome) (S4_points, S4_home, S4_men, S4_turn, S4_thrower, S4_cube, S4_owner, S4_firms, S4_kindsTold, S4_places, S4_crowds, S4_pipsLeft, S4_notHome) (S5_next, S5_kept, S5_before) i1 = MM at hne RT
  unfold M_X7_restore at hM
  refine r_iload_n (pc' := 1) X hl 1 rfl rfl 0 rfl rfl ?_
  refine r_iconst (pc' := 2) X (0 : Int32) 1 rfl rfl rfl ?_
  refine r_iconst (pc' := 3) X (1 : Int32) 2 rfl rfl rfl ?_
  refine r_callS0 (pc' := 6) (As := [.int i1, .int (0 : Int32), .int (1 : Int32)]) (rest := []) X Y 3 rfl rfl mRX7_62 (c_X7_within l G i1 (0 : Int32) (1 : Int32)) (mB hM hne) rfl [] rfl rfl rfl (Nat.le_of_ble_eq_true rfl) ⟨rfl, rfl⟩ ⟨Nat.le_of_ble_eq_true rfl, Nat.le_of_ble_eq_true rfl⟩ ⟨Nat.zero_le _, Nat.zero_le _⟩ hl.1 (st' := fun u1 => [.int u1]) (fun _ => rfl) (fun u1 H locs huu1 Y => ?_)
  replace hM := mS hM huu1
  refine r_if_ne (pc' := 9) X 12 4 rfl rfl (by decide) (fun c2 => ?_) (fun c2 => ?_)
  · replace hM := mE hM c2
    refine r_aload_n (pc' := 13) X hl 0 rfl rfl 7 rfl rfl ?_
    refine r_get (pc' := 16) (v := .ref h_images) X Y 8 rfl rfl fRX7_33 0 rfl rfl ?_
    refine r_iload_n (pc' := 17) X hl 1 rfl rfl 9 rfl rfl ?_
    by_cases h3_0 : i1 = 0
    · replace hM := mI hM h3_0
      refine r_aald (pc' := 18) X Y 10 rfl rfl 1 h_images_0 rfl (by rw [h3_0]; exact vin rfl) (by rw [h3_0]; rfl) ?_
      refine r_getN (pc' := 21) (v := .int S2_men) X Y 11 rfl rfl fRX7_132 2 rfl rfl ?_
      refine r_if_ne (pc' := 24) X 27 12 rfl rfl (by decide) (fun c4 => ?_) (fun c4 => ?_)
      · replace hM := mE hM c4
        refine r_aload_n (pc' := 28) X hl 0 rfl rfl 15 rfl rfl ?_
        refine r_get (pc' := 31) (v := .ref h_live) X Y 16 rfl rfl fRX7_26 0 rfl rfl ?_
        refine r_aload_n (pc' := 32) X hl 0 rfl rfl 17 rfl rfl ?_
        refine r_get (pc' := 35) (v := .ref h_images) X Y 18 rfl rfl fRX7_33 0 rfl rfl ?_
        refine r_iload_n (pc' := 36) X hl 1 rfl rfl 19 rfl rfl ?_
        by_cases h5_0 : i1 = 0
        · replace hM := mI hM h5_0
          refine r_aald (pc' := 37) X Y 20 rfl rfl 1 h_images_0 rfl (by rw [h5_0]; exact vin rfl) (by rw [h5_0]; rfl) ?_
          refine r_callV (pc' := 40) (As := [.ref h_images_0]) (rest := []) (wr := (wTF G h h_rows h_tape h_live h_draft h_images h_acts h_foresight h_asks S0_latestFault S0_latestFinding ++ wIM G h_images h_images_0 h_images_1 ++ wBD G h_images_1 h_images_1_firms h_images_1_kindsTold h_images_1_places h_images_1_crowds h_images_1_pipsLeft h_images_1_notHome S3_points S3_home S3_men S3_turn S3_thrower S3_cube S3_owner S3_firms S3_kindsTold S3_places S3_crowds S3_pipsLeft S3_notHome ++ wAC G h_acts h_acts_before S5_next S5_kept S5_before : va_W)) X Y 21 rfl rfl mRX7_125 (c_X2_copyFrom l G h_live h_images_0 h_images_0_firms h_images_0_kindsTold h_images_0_places h_images_0_crowds h_images_0_pipsLeft h_images_0_notHome h_live_firms h_live_kindsTold h_live_places h_live_crowds h_live_pipsLeft h_live_notHome S2_points S2_home S2_men S2_turn S2_thrower S2_cube S2_owner S2_firms S2_kindsTold S2_places S2_crowds S2_pipsLeft S2_notHome S4_points S4_home S4_men S4_turn S4_thrower S4_cube S4_owner S4_firms S4_kindsTold S4_places S4_crowds S4_pipsLeft S4_notHome) (mB hM hne) 16 rfl rfl [2, 3, 4, 5, 6, 7, 8, 16, 17, 18, 19, 20, 21, 22] [0, 1, 9, 10, 11, 12, 13, 14, 15, 23, 24] [0, 1, 11, 12, 13, 14, 15, 16, 17, 2, 3, 4, 5, 6, 7, 8, 18, 19, 20, 21, 22, 23, 24, 9, 10] rfl rfl ⟨rfl, rfl, rfl⟩ rfl (w2 := fun u6 => wTF G h h_rows h_tape h_live h_draft h_images h_acts h_foresight h_asks S0_latestFault S0_latestFinding ++ wIM G h_images h_images_0 h_images_1 ++ wBD G h_images_0 h_images_0_firms h_images_0_kindsTold h_images_0_places h_images_0_crowds h_images_0_pipsLeft h_images_0_notHome S2_points S2_home S2_men S2_turn S2_thrower S2_cube S2_owner S2_firms S2_kindsTold S2_places S2_crowds S2_pipsLeft S2_notHome ++ wBD G h_images_1 h_images_1_firms h_images_1_kindsTold h_images_1_places h_images_1_crowds h_images_1_pipsLeft h_images_1_notHome S3_points S3_home S3_men S3_turn S3_thrower S3_cube S3_owner S3_firms S3_kindsTold S3_places S3_crowds S3_pipsLeft S3_notHome ++ wBD G h_live h_live_firms h_live_kindsTold h_live_places h_live_crowds h_live_pipsLeft h_live_notHome u6.1 u6.2.1 u6.2.2.1 u6.2.2.2.1 u6.2.2.2.2.1 u6.2.2.2.2.2.1 u6.2.2.2.2.2.2.1 u6.2.2.2.2.2.2.2.1 u6.2.2.2.2.2.2.2.2.1 u6.2.2.2.2.2.2.2.2.2.1 u6.2.2.2.2.2.2.2.2.2.2.1 u6.2.2.2.2.2.2.2.2.2.2.2.1 u6.2.2.2.2.2.2.2.2.2.2.2.2 ++ wAC G h_acts h_acts_before S5_next S5_kept S5_before) (fun _ => rfl) rfl (Nat.le_of_ble_eq_true rfl) ⟨rfl, rfl⟩ ⟨Nat.le_of_ble_eq_true rfl, Nat.le_of_ble_eq_true rfl⟩ ⟨Nat.zero_le _, Nat.zero_le _⟩ hl.1 (st' := fun u6 => []) (fun _ => rfl) (fun u6 H locs huu6 Y => ?_)
          obtain ⟨u6_points, u6_home, u6_men, u6_turn, u6_thrower, u6_cube, u6_owner, u6_firms, u6_kindsTold, u6_places, u6_crowds, u6_pipsLeft, u6_notHome⟩ := u6
          replace Y : rY G A s (wTF G h h_rows h_tape h_live h_draft h_images h_acts h_foresight h_asks S0_latestFault S0_latestFinding ++ wIM G h_images h_images_0 h_images_1 ++ wBD G h_images_0 h_images_0_firms h_images_0_kindsTold h_images_0_places h_images_0_crowds h_images_0_pipsLeft h_images_0_notHome S2_points S2_home S2_men S2_turn S2_thrower S2_cube S2_owner S2_firms S2_kindsTold S2_places S2_crowds S2_pipsLeft S2_notHome ++ wBD G h_images_1 h_images_1_firms h_images_1_kindsTold h_images_1_places h_images_1_crowds h_images_1_pipsLeft h_images_1_notHome S3_points S3_home S3_men S3_turn S3_thrower S3_cube S3_owner S3_firms S3_kindsTold S3_places S3_crowds S3_pipsLeft S3_notHome ++ wBD G h_live h_live_firms h_live_kindsTold h_live_places h_live_crowds h_live_pipsLeft h_live_notHome u6_points u6_home u6_men u6_turn u6_thrower u6_cube u6_owner u6_firms u6_kindsTold u6_places u6_crowds u6_pipsLeft u6_notHome ++ wAC G h_acts h_acts_before S5_next S5_kept S5_before) H locs := Y
          replace hM := mS hM huu6
          show W p l e q_X7_restore s m args below meth c H locs 0 0 Q (F0 m 40 ls [])
          refine r_aload_n (pc' := 41) X hl 0 rfl rfl 22 rfl rfl ?_
          refine r_get (pc' := 44) (v := .ref h_acts) X Y 23 rfl rfl fRX7_40 0 rfl rfl ?_
          refine r_callV (pc' := 47) (As := []) (rest := []) (wr := (wTF G h h_rows h_tape h_live h_draft h_images h_acts h_foresight h_asks S0_latestFault S0_latestFinding ++ wIM G h_images h_images_0 h_images_1 ++ wBD G h_images_0 h_images_0_firms h_images_0_kindsTold h_images_0_places h_images_0_crowds h_images_0_pipsLeft h_images_0_notHome S2_points S2_home S2_men S2_turn S2_thrower S2_cube S2_owner S2_firms S2_kindsTold S2_places S2_crowds S2_pipsLeft S2_notHome ++ wBD G h_images_1 h_images_1_firms h_images_1_kindsTold h_images_1_places h_images_1_crowds h_images_1_pipsLeft h_images_1_notHome S3_points S3_home S3_men S3_turn S3_thrower S3_cube S3_owner S3_firms S3_kindsTold S3_places S3_crowds S3_pipsLeft S3_notHome ++ wBD G h_live h_live_firms h_live_kindsTold h_live_places h_live_crowds h_live_pipsLeft h_live_notHome u6_points u6_home u6_men u6_turn u6_thrower u6_cube u6_owner u6_firms u6_kindsTold u6_places u6_crowds u6_pipsLeft u6_notHome : va_W)) X Y 24 rfl rfl mRX7_129 (c_X0_forget l G h_acts h_acts_before S5_next S5_kept S5_before) (mB hM hne) 23 rfl rfl [23, 24] [0, 1, 2, 3, 4, 5, 6, 7, 8, 9, 10, 11, 12, 13, 14, 15, 16, 17, 18, 19, 20, 21, 22] [0, 1, 2, 3, 4, 5, 6, 7, 8, 9, 10, 11, 12, 13, 14, 15, 16, 17, 18, 19, 20, 21, 22, 23, 24] rfl rfl ⟨rfl, rfl, rfl⟩ rfl (w2 := fun u7 => wTF G h h_rows h_tape h_live h_draft h_images h_acts h_foresight h_asks S0_latestFault S0_latestFinding ++ wIM G h_images h_images_0 h_images_1 ++ wBD G h_images_0 h_images_0_firms h_images_0_kindsTold h_images_0_places h_images_0_crowds h_images_0_pipsLeft h_images_0_notHome S2_points S2_home S2_men S2_turn S2_thrower S2_cube S2_owner S2_firms S2_kindsTold S2_places S2_crowds S2_pipsLeft S2_notHome ++ wBD G h_images_1 h_images_1_firms h_images_1_kindsTold h_images_1_places h_images_1_crowds h_images_1_pipsLeft h_images_1_notHome S3_points S3_home S3_men S3_turn S3_thrower S3_cube S3_owner S3_firms S3_kindsTold S3_places S3_crowds S3_pipsLeft S3_notHome ++ wBD G h_live h_live_firms h_live_kindsTold h_live_places h_live_crowds h_live_pipsLeft h_live_notHome u6_points u6_home u6_men u6_turn u6_thrower u6_cube u6_owner u6_firms u6_kindsTold u6_places u6_crowds u6_pipsLeft u6_notHome ++ wAC G h_acts h_acts_before u7.1 u7.2.1 u7.2.2) (fun _ => rfl) rfl (Nat.le_of_ble_eq_true rfl) ⟨rfl, rfl⟩ ⟨Nat.le_of_ble_eq_true rfl, Nat.le_of_ble_eq_true rfl⟩ ⟨Nat.zero_le _, Nat.zero_le _⟩ hl.1 (st' := fun u7 => []) (fun _ => rfl) (fun u7 H locs huu7 Y => ?_)
          obtain ⟨u7_next, u7_kept, u7_before⟩ := u7
          replace Y : rY G A s (wTF G h h_rows h_tape h_live h_draft h_images h_acts h_foresight h_asks S0_latestFault S0_latestFinding ++ wIM G h_images h_images_0 h_images_1 ++ wBD G h_images_0 h_images_0_firms h_images_0_kindsTold h_images_0_places h_images_0_crowds h_images_0_pipsLeft h_images_0_notHome S2_points S2_home S2_men S2_turn S2_thrower S2_cube S2_owner S2_firms S2_kindsTold S2_places S2_crowds S2_pipsLeft S2_notHome ++ wBD G h_images_1 h_images_1_firms h_images_1_kindsTold h_images_1_places h_images_1_crowds h_images_1_pipsLeft h_images_1_notHome S3_points S3_home S3_men S3_turn S3_thrower S3_cube S3_owner S3_firms S3_kindsTold S3_places S3_crowds S3_pipsLeft S3_notHome ++ wBD G h_live h_live_firms h_live_kindsTold h_live_places h_live_crowds h_live_pipsLeft h_live_notHome u6_points u6_home u6_men u6_turn u6_thrower u6_cube u6_owner u6_firms u6_kindsTold u6_places u6_crowds u6_pipsLeft u6_notHome ++ wAC G h_acts h_acts_before u7_next u7_kept u7_before) H locs := Y
          replace hM := mS hM huu7
          show W p l e q_X7_restore s m args below meth c H locs 0 0 Q (F0 m 47 ls [])
          refine r_iconst (pc' := 48) X (1 : Int32) 25 rfl rfl rfl ?_
          exact RT ((1 : Int32), (u6_points, u6_home, u6_men, u6_turn, u6_thrower, u6_cube, u6_owner, u6_firms, u6_kindsTold, u6_places, u6_crowds, u6_pipsLeft, u6_notHome), (u7_next, u7_kept, u7_before)) _ _ _ _ _ hM (Or.inl ⟨rfl, rfl, _, rfl⟩) (X.d (k := 26) rfl) Y
        replace hM := mE hM h5_0
        by_cases h5_1 : i1 = 1
        · replace hM := mI hM h5_1
          refine r_aald (pc' := 37) X Y 20 rfl rfl 1 h_images_1 rfl (by rw [h5_1]; exact vin rfl) (by rw [h5_1]; rfl) ?_
          refine r_callV (pc' := 40) (As := [.ref h_images_1]) (rest := []) (wr := (wTF G h h_rows h_tape h_live h_draft h_images h_acts h_foresight h_asks S0_latestFault S0_latestFinding ++ wIM G h_images h_images_0 h_images_1 ++ wBD G h_images_0 h_images_0_firms h_images_0_kindsTold h_images_0_places h_images_0_crowds h_images_0_pipsLeft h_images_0_notHome S2_points S2_home S2_men S2_turn S2_thrower S2_cube S2_owner S2_firms S2_kindsTold S2_places S2_crowds S2_pipsLeft S2_notHome ++ wAC G h_acts h_acts_before S5_next S5_kept S5_before : va_W)) X Y 21 rfl rfl mRX7_125 (c_X2_copyFrom l G h_live h_images_1 h_images_1_firms h_images_1_kindsTold h_images_1_places h_images_1_crowds h_images_1_pipsLeft h_images_1_notHome h_live_firms h_live_kindsTold h_live_places h_live_crowds h_live_pipsLeft h_live_notHome S3_points S3_home S3_men S3_turn S3_thrower S3_cube S3_owner S3_firms S3_kindsTold S3_places S3_crowds S3_pipsLeft S3_notHome S4_points S4_home S4_men S4_turn S4_thrower S4_cube S4_owner S4_firms S4_kindsTold S4_places S4_crowds S4_pipsLeft S4_notHome) (mB hM hne) 16 rfl rfl [9, 10, 11, 12, 13, 14, 15, 16, 17, 18, 19, 20, 21, 22] [0, 1, 2, 3, 4, 5, 6, 7, 8, 23, 24] [0, 1, 2, 3, 4, 5, 6, 7, 8, 11, 12, 13, 14, 15, 16, 17, 18, 19, 20, 21, 22, 23, 24, 9, 10] rfl rfl ⟨rfl, rfl, rfl⟩ rfl (w2 := fun u8 => wTF G h h_rows h_tape h_live h_draft h_images h_acts h_foresight h_asks S0_latestFault S0_latestFinding ++ wIM G h_images h_images_0 h_images_1 ++ wBD G h_images_0 h_images_0_firms h_images_0_kindsTold h_images_0_places h_images_0_crowds h_images_0_pipsLeft h_images_0_notHome S2_points S2_home S2_men S2_turn S2_thrower S2_cube S2_owner S2_firms S2_kindsTold S2_places S2_crowds S2_pipsLeft S2_notHome ++ wBD G h_images_1 h_images_1_firms h_images_1_kindsTold h_images_1_places h_images_1_crowds h_images_1_pipsLeft h_images_1_notHome S3_points S3_home S3_men S3_turn S3_thrower S3_cube S3_owner S3_firms S3_kindsTold S3_places S3_crowds S3_pipsLeft S3_notHome ++ wBD G h_live h_live_firms h_live_kindsTold h_live_places h_live_crowds h_live_pipsLeft h_live_notHome u8.1 u8.2.1 u8.2.2.1 u8.2.2.2.1 u8.2.2.2.2.1 u8.2.2.2.2.2.1 u8.2.2.2.2.2.2.1 u8.2.2.2.2.2.2.2.1 u8.2.2.2.2.2.2.2.2.1 u8.2.2.2.2.2.2.2.2.2.1 u8.2.2.2.2.2.2.2.2.2.2.1 u8.2.2.2.2.2.2.2.2.2.2.2.1 u8.2.2.2.2.2.2.2.2.2.2.2.2 ++ wAC G h_acts h_acts_before S5_next S5_kept S5_before) (fun _ => rfl) rfl (Nat.le_of_ble_eq_true rfl) ⟨rfl, rfl⟩ ⟨Nat.le_of_ble_eq_true rfl, Nat.le_of_ble_eq_true rfl⟩ ⟨Nat.zero_le _, Nat.zero_le _⟩ hl.1 (st' := fun u8 => []) (fun _ => rfl) (fun u8 H locs huu8 Y => ?_)
          obtain ⟨u8_points, u8_home, u8_men, u8_turn, u8_thrower, u8_cube, u8_owner, u8_firms, u8_kindsTold, u8_places, u8_crowds, u8_pipsLeft, u8_notHome⟩ := u8
          replace Y : rY G A s (wTF G h h_rows h_tape h_live h_draft h_images h_acts h_foresight h_asks S0_latestFault S0_latestFinding ++ wIM G h_images h_images_0 h_images_1 ++ wBD G h_images_0 h_images_0_firms h_images_0_kindsTold h_images_0_places h_images_0_crowds h_images_0_pipsLeft h_images_0_notHome S2_points S2_home S2_men S2_turn S2_thrower S2_cube S2_owner S2_firms S2_kindsTold S2_places S2_crowds S2_pipsLeft S2_notHome ++ wBD G h_images_1 h_images_1_firms h_images_1_kindsTold h_images_1_places h_images_1_crowds h_images_1_pipsLeft h_images_1_notHome S3_points S3_home S3_men S3_turn S3_thrower S3_cube S3_owner S3_firms S3_kindsTold S3_places S3_crowds S3_pipsLeft S3_notHome ++ wBD G h_live h_live_firms h_live_kindsTold h_live_places h_live_crowds h_live_pipsLeft h_live_notHome u8_points u8_home u8_men u8_turn u8_thrower u8_cube u8_owner u8_firms u8_kindsTold u8_places u8_crowds u8_pipsLeft u8_notHome ++ wAC G h_acts h_acts_before S5_next S5_kept S5_before) H locs := Y
          replace hM := mS hM huu8
          show W p l e q_X7_restore s m args below meth c H locs 0 0 Q (F0 m 40 ls [])
          refine r_aload_n (pc' := 41) X hl 0 rfl rfl 22 rfl rfl ?_
          refine r_get (pc' := 44) (v := .ref h_acts) X Y 23 rfl rfl fRX7_40 0 rfl rfl ?_
          refine r_callV (pc' := 47) (As := []) (rest := []) (wr := (wTF G h h_rows h_tape h_live h_draft h_images h_acts h_foresight h_asks S0_latestFault S0_latestFinding ++ wIM G h_images h_images_0 h_images_1 ++ wBD G h_images_0 h_images_0_firms h_images_0_kindsTold h_images_0_places h_images_0_crowds h_images_0_pipsLeft h_images_0_notHome S2_points S2_home S2_men S2_turn S2_thrower S2_cube S2_owner S2_firms S2_kindsTold S2_places S2_crowds S2_pipsLeft S2_notHome ++ wBD G h_images_1 h_images_1_firms h_images_1_kindsTold h_images_1_places h_images_1_crowds h_images_1_pipsLeft h_images_1_notHome S3_points S3_home S3_men S3_turn S3_thrower S3_cube S3_owner S3_firms S3_kindsTold S3_places S3_crowds S3_pipsLeft S3_notHome ++ wBD G h_live h_live_firms h_live_kindsTold h_live_places h_live_crowds h_live_pipsLeft h_live_notHome u8_points u8_home u8_men u8_turn u8_thrower u8_cube u8_owner u8_firms u8_kindsTold u8_places u8_crowds u8_pipsLeft u8_notHome : va_W)) X Y 24 rfl rfl mRX7_129 (c_X0_forget l G h_acts h_acts_before S5_next S5_kept S5_before) (mB hM hne) 23 rfl rfl [23, 24] [0, 1, 2, 3, 4, 5, 6, 7, 8, 9, 10, 11, 12, 13, 14, 15, 16, 17, 18, 19, 20, 21, 22] [0, 1, 2, 3, 4, 5, 6, 7, 8, 9, 10, 11, 12, 13, 14, 15, 16, 17, 18, 19, 20, 21, 22, 23, 24] rfl rfl ⟨rfl, rfl, rfl⟩ rfl (w2 := fun u9 => wTF G h h_rows h_tape h_live h_draft h_images h_acts h_foresight h_asks S0_latestFault S0_latestFinding ++ wIM G h_images h_images_0 h_images_1 ++ wBD G h_images_0 h_images_0_firms h_images_0_kindsTold h_images_0_places h_images_0_crowds h_images_0_pipsLeft h_images_0_notHome S2_points S2_home S2_men S2_turn S2_thrower S2_cube S2_owner S2_firms S2_kindsTold S2_places S2_crowds S2_pipsLeft S2_notHome ++ wBD G h_images_1 h_images_1_firms h_images_1_kindsTold h_images_1_places h_images_1_crowds h_images_1_pipsLeft h_images_1_notHome S3_points S3_home S3_men S3_turn S3_thrower S3_cube S3_owner S3_firms S3_kindsTold S3_places S3_crowds S3_pipsLeft S3_notHome ++ wBD G h_live h_live_firms h_live_kindsTold h_live_places h_live_crowds h_live_pipsLeft h_live_notHome u8_points u8_home u8_men u8_turn u8_thrower u8_cube u8_owner u8_firms u8_kindsTold u8_places u8_crowds u8_pipsLeft u8_notHome ++ wAC G h_acts h_acts_before u9.1 u9.2.1 u9.2.2) (fun _ => rfl) rfl (Nat.le_of_ble_eq_true rfl) ⟨rfl, rfl⟩ ⟨Nat.le_of_ble_eq_true rfl, Nat.le_of_ble_eq_true rfl⟩ ⟨Nat.zero_le _, Nat.zero_le _⟩ hl.1 (st' := fun u9 => []) (fun _ => rfl) (fun u9 H locs huu9 Y => ?_)
          obtain ⟨u9_next, u9_kept, u9_before⟩ := u9
          replace Y : rY G A s (wTF G h h_rows h_tape h_live h_draft h_images h_acts h_foresight h_asks S0_latestFault S0_latestFinding ++ wIM G h_images h_images_0 h_images_1 ++ wBD G h_images_0 h_images_0_firms h_images_0_kindsTold h_images_0_places h_images_0_crowds h_images_0_pipsLeft h_images_0_notHome S2_points S2_home S2_men S2_turn S2_thrower S2_cube S2_owner S2_firms S2_kindsTold S2_places S2_crowds S2_pipsLeft S2_notHome ++ wBD G h_images_1 h_images_1_firms h_images_1_kindsTold h_images_1_places h_images_1_crowds h_images_1_pipsLeft h_images_1_notHome S3_points S3_home S3_men S3_turn S3_thrower S3_cube S3_owner S3_firms S3_kindsTold S3_places S3_crowds S3_pipsLeft S3_notHome ++ wBD G h_live h_live_firms h_live_kindsTold h_live_places h_live_crowds h_live_pipsLeft h_live_notHome u8_points u8_home u8_men u8_turn u8_thrower u8_cube u8_owner u8_firms u8_kindsTold u8_places u8_crowds u8_pipsLeft u8_notHome ++ wAC G h_acts h_acts_before u9_next u9_kept u9_before) H locs := Y
          replace hM := mS hM huu9
          show W p l e q_X7_restore s m args below meth c H locs 0 0 Q (F0 m 47 ls [])
          refine r_iconst (pc' := 48) X (1 : Int32) 25 rfl rfl rfl ?_
          exact RT ((1 : Int32), (u8_points, u8_home, u8_men, u8_turn, u8_thrower, u8_cube, u8_owner, u8_firms, u8_kindsTold, u8_places, u8_crowds, u8_pipsLeft, u8_notHome), (u9_next, u9_kept, u9_before)) _ _ _ _ _ hM (Or.inl ⟨rfl, rfl, _, rfl⟩) (X.d (k := 26) rfl) Y
        replace hM := mE hM h5_1
        exact absurd hM.symm hne
      · replace hM := mI hM c4
        refine r_ldc (pc' := 26) X mw378 13 rfl rfl ?_
        exact RT ((-1000002 : Int32), (S4_points, S4_home, S4_men, S4_turn, S4_thrower, S4_cube, S4_owner, S4_firms, S4_kindsTold, S4_places, S4_crowds, S4_pipsLeft, S4_notHome), (S5_next, S5_kept, S5_before)) _ _ _ _ _ hM (Or.inl ⟨rfl, rfl, _, rfl⟩) (X.d (k := 14) rfl) Y
    replace hM := mE hM h3_0
    by_cases h3_1 : i1 = 1
    · replace hM := mI hM h3_1
      refine r_aald (pc' := 18) X Y 10 rfl rfl 1 h_images_1 rfl (by rw [h3_1]; exact vin rfl) (by rw [h3_1]; rfl) ?_
      refine r_getN (pc' := 21) (v := .int S3_men) X Y 11 rfl rfl fRX7_132 9 rfl rfl ?_
      refine r_if_ne (pc' := 24) X 27 12 rfl rfl (by decide) (fun c10 => ?_) (fun c10 => ?_)
      · replace hM := mE hM c10
        refine r_aload_n (pc' := 28) X hl 0 rfl rfl 15 rfl rfl ?_
        refine r_get (pc' := 31) (v := .ref h_live) X Y 16 rfl rfl fRX7_26 0 rfl rfl ?_
        refine r_aload_n (pc' := 32) X hl 0 rfl rfl 17 rfl rfl ?_
        refine r_get (pc' := 35) (v := .ref h_images) X Y 18 rfl rfl fRX7_33 0 rfl rfl ?_
        refine r_iload_n (pc' := 36) X hl 1 rfl rfl 19 rfl rfl ?_
        by_cases h11_0 : i1 = 0
        · replace hM := mI hM h11_0
          refine r_aald (pc' := 37) X Y 20 rfl rfl 1 h_images_0 rfl (by rw [h11_0]; exact vin rfl) (by rw [h11_0]; rfl) ?_
          refine r_callV (pc' := 40) (As := [.ref h_images_0]) (rest := []) (wr := (wTF G h h_rows h_tape h_live h_draft h_images h_acts h_foresight h_asks S0_latestFault S0_latestFinding ++ wIM G h_images h_images_0 h_images_1 ++ wBD G h_images_1 h_images_1_firms h_images_1_kindsTold h_images_1_places h_images_1_crowds h_images_1_pipsLeft h_images_1_notHome S3_points S3_home S3_men S3_turn S3_thrower S3_cube S3_owner S3_firms S3_kindsTold S3_places S3_crowds S3_pipsLeft S3_notHome ++ wAC G h_acts h_acts_before S5_next S5_kept S5_before : va_W)) X Y 21 rfl rfl mRX7_125 (c_X2_copyFrom l G h_live h_images_0 h_images_0_firms h_images_0_kindsTold h_images_0_places h_images_0_crowds h_images_0_pipsLeft h_images_0_notHome h_live_firms h_live_kindsTold h_live_places h_live_crowds h_live_pipsLeft h_live_notHome S2_points S2_home S2_men S2_turn S2_thrower S2_cube S2_owner S2_firms S2_kindsTold S2_places S2_crowds S2_pipsLeft S2_notHome S4_points S4_home S4_men S4_turn S4_thrower S4_cube S4_owner S4_firms S4_kindsTold S4_places S4_crowds S4_pipsLeft S4_notHome) (mB hM hne) 16 rfl rfl [2, 3, 4, 5, 6, 7, 8, 16, 17, 18, 19, 20, 21, 22] [0, 1, 9, 10, 11, 12, 13, 14, 15, 23, 24] [0, 1, 11, 12, 13, 14, 15, 16, 17, 2, 3, 4, 5, 6, 7, 8, 18, 19, 20, 21, 22, 23, 24, 9, 10] rfl rfl ⟨rfl, rfl, rfl⟩ rfl (w2 := fun u12 => wTF G h h_rows h_tape h_live h_draft h_images h_acts h_foresight h_asks S0_latestFault S0_latestFinding ++ wIM G h_images h_images_0 h_images_1 ++ wBD G h_images_0 h_images_0_firms h_images_0_kindsTold h_images_0_places h_images_0_crowds h_images_0_pipsLeft h_images_0_notHome S2_points S2_home S2_men S2_turn S2_thrower S2_cube S2_owner S2_firms S2_kindsTold S2_places S2_crowds S2_pipsLeft S2_notHome ++ wBD G h_images_1 h_images_1_firms h_images_1_kindsTold h_images_1_places h_images_1_crowds h_images_1_pipsLeft h_images_1_notHome S3_points S3_home S3_men S3_turn S3_thrower S3_cube S3_owner S3_firms S3_kindsTold S3_places S3_crowds S3_pipsLeft S3_notHome ++ wBD G h_live h_live_firms h_live_kindsTold h_live_places h_live_crowds h_live_pipsLeft h_live_notHome u12.1 u12.2.1 u12.2.2.1 u12.2.2.2.1 u12.2.2.2.2.1 u12.2.2.2.2.2.1 u12.2.2.2.2.2.2.1 u12.2.2.2.2.2.2.2.1 u12.2.2.2.2.2.2.2.2.1 u12.2.2.2.2.2.2.2.2.2.1 u12.2.2.2.2.2.2.2.2.2.2.1 u12.2.2.2.2.2.2.2.2.2.2.2.1 u12.2.2.2.2.2.2.2.2.2.2.2.2 ++ wAC G h_acts h_acts_before S5_next S5_kept S5_before) (fun _ => rfl) rfl (Nat.le_of_ble_eq_true rfl) ⟨rfl, rfl⟩ ⟨Nat.le_of_ble_eq_true rfl, Nat.le_of_ble_eq_true rfl⟩ ⟨Nat.zero_le _, Nat.zero_le _⟩ hl.1 (st' := fun u12 => []) (fun _ => rfl) (fun u12 H locs huu12 Y => ?_)
          obtain ⟨u12_points, u12_home, u12_men, u12_turn, u12_thrower, u12_cube, u12_owner, u12_firms, u12_kindsTold, u12_places, u12_crowds, u12_pipsLeft, u12_notHome⟩ := u12
          replace Y : rY G A s (wTF G h h_rows h_tape h_live h_draft h_images h_acts h_foresight h_asks S0_latestFault S0_latestFinding ++ wIM G h_images h_images_0 h_images_1 ++ wBD G h_images_0 h_images_0_firms h_images_0_kindsTold h_images_0_places h_images_0_crowds h_images_0_pipsLeft h_images_0_notHome S2_points S2_home S2_men S2_turn S2_thrower S2_cube S2_owner S2_firms S2_kindsTold S2_places S2_crowds S2_pipsLeft S2_notHome ++ wBD G h_images_1 h_images_1_firms h_images_1_kindsTold h_images_1_places h_images_1_crowds h_images_1_pipsLeft h_images_1_notHome S3_points S3_home S3_men S3_turn S3_thrower S3_cube S3_owner S3_firms S3_kindsTold S3_places S3_crowds S3_pipsLeft S3_notHome ++ wBD G h_live h_live_firms h_live_kindsTold h_live_places h_live_crowds h_live_pipsLeft h_live_notHome u12_points u12_home u12_men u12_turn u12_thrower u12_cube u12_owner u12_firms u12_kindsTold u12_places u12_crowds u12_pipsLeft u12_notHome ++ wAC G h_acts h_acts_before S5_next S5_kept S5_before) H locs := Y
          replace hM := mS hM huu12
          show W p l e q_X7_restore s m args below meth c H locs 0 0 Q (F0 m 40 ls [])
          refine r_aload_n (pc' := 41) X hl 0 rfl rfl 22 rfl rfl ?_
          refine r_get (pc' := 44) (v := .ref h_acts) X Y 23 rfl rfl fRX7_40 0 rfl rfl ?_
          refine r_callV (pc' := 47) (As := []) (rest := []) (wr := (wTF G h h_rows h_tape h_live h_draft h_images h_acts h_foresight h_asks S0_latestFault S0_latestFinding ++ wIM G h_images h_images_0 h_images_1 ++ wBD G h_images_0 h_images_0_firms h_images_0_kindsTold h_images_0_places h_images_0_crowds h_images_0_pipsLeft h_images_0_notHome S2_points S2_home S2_men S2_turn S2_thrower S2_cube S2_owner S2_firms S2_kindsTold S2_places S2_crowds S2_pipsLeft S2_notHome ++ wBD G h_images_1 h_images_1_firms h_images_1_kindsTold h_images_1_places h_images_1_crowds h_images_1_pipsLeft h_images_1_notHome S3_points S3_home S3_men S3_turn S3_thrower S3_cube S3_owner S3_firms S3_kindsTold S3_places S3_crowds S3_pipsLeft S3_notHome ++ wBD G h_live h_live_firms h_live_kindsTold h_live_places h_live_crowds h_live_pipsLeft h_live_notHome u12_points u12_home u12_men u12_turn u12_thrower u12_cube u12_owner u12_firms u12_kindsTold u12_places u12_crowds u12_pipsLeft u12_notHome : va_W)) X Y 24 rfl rfl mRX7_129 (c_X0_forget l G h_acts h_acts_before S5_next S5_kept S5_before) (mB hM hne) 23 rfl rfl [23, 24] [0, 1, 2, 3, 4, 5, 6, 7, 8, 9, 10, 11, 12, 13, 14, 15, 16, 17, 18, 19, 20, 21, 22] [0, 1, 2, 3, 4, 5, 6, 7, 8, 9, 10, 11, 12, 13, 14, 15, 16, 17, 18, 19, 20, 21, 22, 23, 24] rfl rfl ⟨rfl, rfl, rfl⟩ rfl (w2 := fun u13 => wTF G h h_rows h_tape h_live h_draft h_images h_acts h_foresight h_asks S0_latestFault S0_latestFinding ++ wIM G h_images h_images_0 h_images_1 ++ wBD G h_images_0 h_images_0_firms h_images_0_kindsTold h_images_0_places h_images_0_crowds h_images_0_pipsLeft h_images_0_notHome S2_points S2_home S2_men S2_turn S2_thrower S2_cube S2_owner S2_firms S2_kindsTold S2_places S2_crowds S2_pipsLeft S2_notHome ++ wBD G h_images_1 h_images_1_firms h_images_1_kindsTold h_images_1_places h_images_1_crowds h_images_1_pipsLeft h_images_1_notHome S3_points S3_home S3_men S3_turn S3_thrower S3_cube S3_owner S3_firms S3_kindsTold S3_places S3_crowds S3_pipsLeft S3_notHome ++ wBD G h_live h_live_firms h_live_kindsTold h_live_places h_live_crowds h_live_pipsLeft h_live_notHome u12_points u12_home u12_men u12_turn u12_thrower u12_cube u12_owner u12_firms u12_kindsTold u12_places u12_crowds u12_pipsLeft u12_notHome ++ wAC G h_acts h_acts_before u13.1 u13.2.1 u13.2.2) (fun _ => rfl) rfl (Nat.le_of_ble_eq_true rfl) ⟨rfl, rfl⟩ ⟨Nat.le_of_ble_eq_true rfl, Nat.le_of_ble_eq_true rfl⟩ ⟨Nat.zero_le _, Nat.zero_le _⟩ hl.1 (st' := fun u13 => []) (fun _ => rfl) (fun u13 H locs huu13 Y => ?_)
          obtain ⟨u13_next, u13_kept, u13_before⟩ := u13
          replace Y : rY G A s (wTF G h h_rows h_tape h_live h_draft h_images h_acts h_foresight h_asks S0_latestFault S0_latestFinding ++ wIM G h_images h_images_0 h_images_1 ++ wBD G h_images_0 h_images_0_firms h_images_0_kindsTold h_images_0_places h_images_0_crowds h_images_0_pipsLeft h_images_0_notHome S2_points S2_home S2_men S2_turn S2_thrower S2_cube S2_owner S2_firms S2_kindsTold S2_places S2_crowds S2_pipsLeft S2_notHome ++ wBD G h_images_1 h_images_1_firms h_images_1_kindsTold h_images_1_places h_images_1_crowds h_images_1_pipsLeft h_images_1_notHome S3_points S3_home S3_men S3_turn S3_thrower S3_cube S3_owner S3_firms S3_kindsTold S3_places S3_crowds S3_pipsLeft S3_notHome ++ wBD G h_live h_live_firms h_live_kindsTold h_live_places h_live_crowds h_live_pipsLeft h_live_notHome u12_points u12_home u12_men u12_turn u12_thrower u12_cube u12_owner u12_firms u12_kindsTold u12_places u12_crowds u12_pipsLeft u12_notHome ++ wAC G h_acts h_acts_before u13_next u13_kept u13_before) H locs := Y
          replace hM := mS hM huu13
          show W p l e q_X7_restore s m args below meth c H locs 0 0 Q (F0 m 47 ls [])
          refine r_iconst (pc' := 48) X (1 : Int32) 25 rfl rfl rfl ?_
          exact RT ((1 : Int32), (u12_points, u12_home, u12_men, u12_turn, u12_thrower, u12_cube, u12_owner, u12_firms, u12_kindsTold, u12_places, u12_crowds, u12_pipsLeft, u12_notHome), (u13_next, u13_kept, u13_before)) _ _ _ _ _ hM (Or.inl ⟨rfl, rfl, _, rfl⟩) (X.d (k := 26) rfl) Y
        replace hM := mE hM h11_0
        by_cases h11_1 : i1 = 1
        · replace hM := mI hM h11_1
          refine r_aald (pc' := 37) X Y 20 rfl rfl 1 h_images_1 rfl (by rw [h11_1]; exact vin rfl) (by rw [h11_1]; rfl) ?_
          refine r_callV (pc' := 40) (As := [.ref h_images_1]) (rest := []) (wr := (wTF G h h_rows h_tape h_live h_draft h_images h_acts h_foresight h_asks S0_latestFault S0_latestFinding ++ wIM G h_images h_images_0 h_images_1 ++ wBD G h_images_0 h_images_0_firms h_images_0_kindsTold h_images_0_places h_images_0_crowds h_images_0_pipsLeft h_images_0_notHome S2_points S2_home S2_men S2_turn S2_thrower S2_cube S2_owner S2_firms S2_kindsTold S2_places S2_crowds S2_pipsLeft S2_notHome ++ wAC G h_acts h_acts_before S5_next S5_kept S5_before : va_W)) X Y 21 rfl rfl mRX7_125 (c_X2_copyFrom l G h_live h_images_1 h_images_1_firms h_images_1_kindsTold h_images_1_places h_images_1_crowds h_images_1_pipsLeft h_images_1_notHome h_live_firms h_live_kindsTold h_live_places h_live_crowds h_live_pipsLeft h_live_notHome S3_points S3_home S3_men S3_turn S3_thrower S3_cube S3_owner S3_firms S3_kindsTold S3_places S3_crowds S3_pipsLeft S3_notHome S4_points S4_home S4_men S4_turn S4_thrower S4_cube S4_owner S4_firms S4_kindsTold S4_places S4_crowds S4_pipsLeft S4_notHome) (mB hM hne) 16 rfl rfl [9, 10, 11, 12, 13, 14, 15, 16, 17, 18, 19, 20, 21, 22] [0, 1, 2, 3, 4, 5, 6, 7, 8, 23, 24] [0, 1, 2, 3, 4, 5, 6, 7, 8, 11, 12, 13, 14, 15, 16, 17, 18, 19, 20, 21, 22, 23, 24, 9, 10] rfl rfl ⟨rfl, rfl, rfl⟩ rfl (w2 := fun u14 => wTF G h h_rows h_tape h_live h_draft h_images h_acts h_foresight h_asks S0_latestFault S0_latestFinding ++ wIM G h_images h_images_0 h_images_1 ++ wBD G h_images_0 h_images_0_firms h_images_0_kindsTold h_images_0_places h_images_0_crowds h_images_0_pipsLeft h_images_0_notHome S2_points S2_home S2_men S2_turn S2_thrower S2_cube S2_owner S2_firms S2_kindsTold S2_places S2_crowds S2_pipsLeft S2_notHome ++ wBD G h_images_1 h_images_1_firms h_images_1_kindsTold h_images_1_places h_images_1_crowds h_images_1_pipsLeft h_images_1_notHome S3_points S3_home S3_men S3_turn S3_thrower S3_cube S3_owner S3_firms S3_kindsTold S3_places S3_crowds S3_pipsLeft S3_notHome ++ wBD G h_live h_live_firms h_live_kindsTold h_live_places h_live_crowds h_live_pipsLeft h_live_notHome u14.1 u14.2.1 u14.2.2.1 u14.2.2.2.1 u14.2.2.2.2.1 u14.2.2.2.2.2.1 u14.2.2.2.2.2.2.1 u14.2.2.2.2.2.2.2.1 u14.2.2.2.2.2.2.2.2.1 u14.2.2.2.2.2.2.2.2.2.1 u14.2.2.2.2.2.2.2.2.2.2.1 u14.2.2.2.2.2.2.2.2.2.2.2.1 u14.2.2.2.2.2.2.2.2.2.2.2.2 ++ wAC G h_acts h_acts_before S5_next S5_kept S5_before) (fun _ => rfl) rfl (Nat.le_of_ble_eq_true rfl) ⟨rfl, rfl⟩ ⟨Nat.le_of_ble_eq_true rfl, Nat.le_of_ble_eq_true rfl⟩ ⟨Nat.zero_le _, Nat.zero_le _⟩ hl.1 (st' := fun u14 => []) (fun _ => rfl) (fun u14 H locs huu14 Y => ?_)
          obtain ⟨u14_points, u14_home, u14_men, u14_turn, u14_thrower, u14_cube, u14_owner, u14_firms, u14_kindsTold, u14_places, u14_crowds, u14_pipsLeft, u14_notHome⟩ := u14
          replace Y : rY G A s (wTF G h h_rows h_tape h_live h_draft h_images h_acts h_foresight h_asks S0_latestFault S0_latestFinding ++ wIM G h_images h_images_0 h_images_1 ++ wBD G h_images_0 h_images_0_firms h_images_0_kindsTold h_images_0_places h_images_0_crowds h_images_0_pipsLeft h_images_0_notHome S2_points S2_home S2_men S2_turn S2_thrower S2_cube S2_owner S2_firms S2_kindsTold S2_places S2_crowds S2_pipsLeft S2_notHome ++ wBD G h_images_1 h_images_1_firms h_images_1_kindsTold h_images_1_places h_images_1_crowds h_images_1_pipsLeft h_images_1_notHome S3_points S3_home S3_men S3_turn S3_thrower S3_cube S3_owner S3_firms S3_kindsTold S3_places S3_crowds S3_pipsLeft S3_notHome ++ wBD G h_live h_live_firms h_live_kindsTold h_live_places h_live_crowds h_live_pipsLeft h_live_notHome u14_points u14_home u14_men u14_turn u14_thrower u14_cube u14_owner u14_firms u14_kindsTold u14_places u14_crowds u14_pipsLeft u14_notHome ++ wAC G h_acts h_acts_before S5_next S5_kept S5_before) H locs := Y
          replace hM := mS hM huu14
          show W p l e q_X7_restore s m args below meth c H locs 0 0 Q (F0 m 40 ls [])
          refine r_aload_n (pc' := 41) X hl 0 rfl rfl 22 rfl rfl ?_
          refine r_get (pc' := 44) (v := .ref h_acts) X Y 23 rfl rfl fRX7_40 0 rfl rfl ?_
          refine r_callV (pc' := 47) (As := []) (rest := []) (wr := (wTF G h h_rows h_tape h_live h_draft h_images h_acts h_foresight h_asks S0_latestFault S0_latestFinding ++ wIM G h_images h_images_0 h_images_1 ++ wBD G h_images_0 h_images_0_firms h_images_0_kindsTold h_images_0_places h_images_0_crowds h_images_0_pipsLeft h_images_0_notHome S2_points S2_home S2_men S2_turn S2_thrower S2_cube S2_owner S2_firms S2_kindsTold S2_places S2_crowds S2_pipsLeft S2_notHome ++ wBD G h_images_1 h_images_1_firms h_images_1_kindsTold h_images_1_places h_images_1_crowds h_images_1_pipsLeft h_images_1_notHome S3_points S3_home S3_men S3_turn S3_thrower S3_cube S3_owner S3_firms S3_kindsTold S3_places S3_crowds S3_pipsLeft S3_notHome ++ wBD G h_live h_live_firms h_live_kindsTold h_live_places h_live_crowds h_live_pipsLeft h_live_notHome u14_points u14_home u14_men u14_turn u14_thrower u14_cube u14_owner u14_firms u14_kindsTold u14_places u14_crowds u14_pipsLeft u14_notHome : va_W)) X Y 24 rfl rfl mRX7_129 (c_X0_forget l G h_acts h_acts_before S5_next S5_kept S5_before) (mB hM hne) 23 rfl rfl [23, 24] [0, 1, 2, 3, 4, 5, 6, 7, 8, 9, 10, 11, 12, 13, 14, 15, 16, 17, 18, 19, 20, 21, 22] [0, 1, 2, 3, 4, 5, 6, 7, 8, 9, 10, 11, 12, 13, 14, 15, 16, 17, 18, 19, 20, 21, 22, 23, 24] rfl rfl ⟨rfl, rfl, rfl⟩ rfl (w2 := fun u15 => wTF G h h_rows h_tape h_live h_draft h_images h_acts h_foresight h_asks S0_latestFault S0_latestFinding ++ wIM G h_images h_images_0 h_images_1 ++ wBD G h_images_0 h_images_0_firms h_images_0_kindsTold h_images_0_places h_images_0_crowds h_images_0_pipsLeft h_images_0_notHome S2_points S2_home S2_men S2_turn S2_thrower S2_cube S2_owner S2_firms S2_kindsTold S2_places S2_crowds S2_pipsLeft S2_notHome ++ wBD G h_images_1 h_images_1_firms h_images_1_kindsTold h_images_1_places h_images_1_crowds h_images_1_pipsLeft h_images_1_notHome S3_points S3_home S3_men S3_turn S3_thrower S3_cube S3_owner S3_firms S3_kindsTold S3_places S3_crowds S3_pipsLeft S3_notHome ++ wBD G h_live h_live_firms h_live_kindsTold h_live_places h_live_crowds h_live_pipsLeft h_live_notHome u14_points u14_home u14_men u14_turn u14_thrower u14_cube u14_owner u14_firms u14_kindsTold u14_places u14_crowds u14_pipsLeft u14_notHome ++ wAC G h_acts h_acts_before u15.1 u15.2.1 u15.2.2) (fun _ => rfl) rfl (Nat.le_of_ble_eq_true rfl) ⟨rfl, rfl⟩ ⟨Nat.le_of_ble_eq_true rfl, Nat.le_of_ble_eq_true rfl⟩ ⟨Nat.zero_le _, Nat.zero_le _⟩ hl.1 (st' := fun u15 => []) (fun _ => rfl) (fun u15 H locs huu15 Y => ?_)
          obtain ⟨u15_next, u15_kept, u15_before⟩ := u15
          replace Y : rY G A s (wTF G h h_rows h_tape h_live h_draft h_images h_acts h_foresight h_asks S0_latestFault S0_latestFinding ++ wIM G h_images h_images_0 h_images_1 ++ wBD G h_images_0 h_images_0_firms h_images_0_kindsTold h_images_0_places h_images_0_crowds h_images_0_pipsLeft h_images_0_notHome S2_points S2_home S2_men S2_turn S2_thrower S2_cube S2_owner S2_firms S2_kindsTold S2_places S2_crowds S2_pipsLeft S2_notHome ++ wBD G h_images_1 h_images_1_firms h_images_1_kindsTold h_images_1_places h_images_1_crowds h_images_1_pipsLeft h_images_1_notHome S3_points S3_home S3_men S3_turn S3_thrower S3_cube S3_owner S3_firms S3_kindsTold S3_places S3_crowds S3_pipsLeft S3_notHome ++ wBD G h_live h_live_firms h_live_kindsTold h_live_places h_live_crowds h_live_pipsLeft h_live_notHome u14_points u14_home u14_men u14_turn u14_thrower u14_cube u14_owner u14_firms u14_kindsTold u14_places u14_crowds u14_pipsLeft u14_notHome ++ wAC G h_acts h_acts_before u15_next u15_kept u15_before) H locs := Y
          replace hM := mS hM huu15
          show W p l e q_X7_restore s m args below meth c H locs 0 0 Q (F0 m 47 ls [])
          refine r_iconst (pc' := 48) X (1 : Int32) 25 rfl rfl rfl ?_
          exact RT ((1 : Int32), (u14_points, u14_home, u14_men, u14_turn, u14_thrower, u14_cube, u14_owner, u14_firms, u14_kindsTold, u14_places, u14_crowds, u14_pipsLeft, u14_notHome), (u15_next, u15_kept, u15_before)) _ _ _ _ _ hM (Or.inl ⟨rfl, rfl, _, rfl⟩) (X.d (k := 26) rfl) Y
        replace hM := mE hM h11_1
        exact absurd hM.symm hne
      · replace hM := mI hM c10
        refine r_ldc (pc' := 26) X mw378 13 rfl rfl ?_
        exact RT ((-1000002 : Int32), (S4_points, S4_home, S4_men, S4_turn, S4_thrower, S4_cube, S4_owner, S4_firms, S4_kindsTold, S4_places, S4_crowds, S4_pipsLeft, S4_notHome), (S5_next, S5_kept, S5_before)) _ _ _ _ _ hM (Or.inl ⟨rfl, rfl, _, rfl⟩) (X.d (k := 14) rfl) Y
    replace hM := mE hM h3_1
    exact absurd hM.symm hne
  · replace hM := mI hM c2
    refine r_ldc (pc' := 11) X mw324 5 rfl rfl ?_
    exact RT ((-1000001 : Int32), (S4_points, S4_home, S4_men, S4_turn, S4_thrower, S4_cube, S4_owner, S4_firms, S4_kindsTold, S4_places, S4_crowds, S4_pipsLeft, S4_notHome), (S5_next, S5_kept, S5_before)) _ _ _ _ _ hM (Or.inl ⟨rfl, rfl, _, rfl⟩) (X.d (k := 6) rfl) Y

def M_X7_kind (S0 : TF) (S1 : BD) (i1 : Int32) : Option (Int32) :=
  ((M_X7_isMan S0 S1 i1).bind (fun u1 => (if u1 = 0 then (some (-1000001 : Int32)) else (if inb i1 8 = true then (some ((bd_kindsTold S1) (i1).toNatClampNeg)) else none))))
def q_X7_kind : Room := { frames := 3, cells := 0, slots := 0, locals := 103 }
set_option maxHeartbeats 4000000 in
set_option maxRecDepth 100000 in
theorem c_X7_kind (l : Launch) (G : gT) (h h_rows h_tape h_live h_draft h_images h_acts h_foresight h_asks h_live_firms h_live_kindsTold h_live_places h_live_crowds h_live_pipsLeft h_live_notHome : Nat) (S0_latestFault : Int32) (S0_latestFinding : Int32) (S1_points : Int32) (S1_home : Int32) (S1_men : Int32) (S1_turn : Int32) (S1_thrower : Int32) (S1_cube : Int32) (S1_owner : Int32) (S1_firms : Nat → Int32) (S1_kindsTold : Nat → Int32) (S1_places : Nat → Int32) (S1_crowds : Nat → Int32) (S1_pipsLeft : Nat → Int32) (S1_notHome : Nat → Int32) (i1 : Int32) : CT l G yX7_kind cX7_kind 2 (some .int) q_X7_kind [.ref h, .int i1] (wTF G h h_rows h_tape h_live h_draft h_images h_acts h_foresight h_asks S0_latestFault S0_latestFinding ++ wBD G h_live h_live_firms h_live_kindsTold h_live_places h_live_crowds h_live_pipsLeft h_live_notHome S1_points S1_home S1_men S1_turn S1_thrower S1_cube S1_owner S1_firms S1_kindsTold S1_places S1_crowds S1_pipsLeft S1_notHome) (M_X7_kind (S0_latestFault, S0_latestFinding) (S1_points, S1_home, S1_men, S1_turn, S1_thrower, S1_cube, S1_owner, S1_firms, S1_kindsTold, S1_places, S1_crowds, S1_pipsLeft, S1_notHome) i1) (fun u => some (.int u)) (fun u => wTF G h h_rows h_tape h_live h_draft h_images h_acts h_foresight h_asks S0_latestFault S0_latestFinding ++ wBD G h_live h_live_firms h_live_kindsTold h_live_places h_live_crowds h_live_pipsLeft h_live_notHome S1_points S1_home S1_men S1_turn S1_thrower S1_cube S1_owner S1_firms S1_kindsTold S1_places S1_crowds S1_pipsLeft S1_notHome) := by
  refine CT.of (P := PX7_kind) (by decide) dPX7_kind (Nat.le_of_ble_eq_true rfl) ?_
  intro p e s m args below meth c A Q ls hne X RT Y hl
  have hl : lv_has ls 2 [(0, .ref h), (1, .int i1)] := hl
  generalize hM : M_X7_kind (S0_latestFault, S0_latestFinding) (S1_points, S1_home, S1_men, S1_turn, S1_thrower, S1_cube, S1_owner, S1_firms, S1_kindsTold, S1_places, S1_crowds, S1_pipsLeft, S1_notHome) i1 = MM at hne RT
  unfold M_X7_kind at hM
  refine r_aload_n (pc' := 1) X hl 0 rfl rfl 0 rfl rfl ?_
  refine r_iload_n (pc' := 2) X hl 1 rfl rfl 1 rfl rfl ?_
  refine r_callV0 (pc' := 5) (As := [.int i1]) (rest := []) X Y 2 rfl rfl mRX7_161 (c_X7_isMan l G h h_rows h_tape h_live h_draft h_images h_acts h_foresight h_asks h_live_firms h_live_kindsTold h_live_places h_live_crowds h_live_pipsLeft h_live_notHome S0_latestFault S0_latestFinding S1_points S1_home S1_men S1_turn S1_thrower S1_cube S1_owner S1_firms S1_kindsTold S1_places S1_crowds S1_pipsLeft S1_notHome i1) (mB hM hne) 0 rfl rfl [0, 1, 2, 3, 4, 5, 6, 7] rfl rfl rfl (Nat.le_of_ble_eq_true rfl) ⟨rfl, rfl⟩ ⟨Nat.le_of_ble_eq_true rfl, Nat.le_of_ble_eq_true rfl⟩ ⟨Nat.zero_le _, Nat.zero_le _⟩ hl.1 (st' := fun u1 => [.int u1]) (fun _ => rfl) (fun u1 H locs huu1 Y => ?_)
  replace hM := mS hM huu1
  refine r_if_eq (pc' := 8) X 20 3 rfl rfl (by decide) (fun c2 => ?_) (fun c2 => ?_)
  · replace hM := mI hM c2
    refine r_ldc (pc' := 22) X mw324 10 rfl rfl ?_
    exact RT (-1000001 : Int32) _ _ _ _ _ hM (Or.inl ⟨rfl, rfl, _, rfl⟩) (X.d (k := 11) rfl) Y
  · replace hM := mE hM c2
    refine r_aload_n (pc' := 9) X hl 0 rfl rfl 4 rfl rfl ?_
    refine r_get (pc' := 12) (v := .ref h_live) X Y 5 rfl rfl fRX7_26 0 rfl rfl ?_
    refine r_getN (pc' := 15) (v := .ref h_live_kindsTold) X Y 6 rfl rfl fRX7_308 1 rfl rfl ?_
    refine r_iload_n (pc' := 16) X hl 1 rfl rfl 7 rfl rfl ?_
    obtain ⟨g3, hM⟩ := mG hM hne
    refine r_iald (pc' := 17) X Y 8 rfl rfl 3 rfl (vin g3) ?_
    refine r_goto X 22 9 rfl (by decide) ?_
    exact RT (S1_kindsTold (i1).toNatClampNeg) _ _ _ _ _ hM (Or.inl ⟨rfl, rfl, _, rfl⟩) (X.d (k := 11) rfl) Y

def M_X7_as (S0 : TF) (S1 : BD) (i1 : Int32) (i2 : Int32) : Option (Int32 × TF) :=
  ((M_X7_isMan S0 S1 i1).bind (fun u1 => (if u1 = 0 then (some ((-1000001 : Int32), S0)) else ((M_X7_within i2 (0 : Int32) (5 : Int32)).bind (fun u3 => (if u3 = 0 then (some ((-1000001 : Int32), S0)) else (if inb i1 8 = true then ((M_X7_isKind (((bd_kindsTold S1) (i1).toNatClampNeg)) i2).bind (fun u6 => (if u6 = 0 then ((M_X7_found S0 (3 : Int32)).bind (fun u8 => (some (u8.1, u8.2)))) else ((M_X7_unfound S0 i1).bind (fun u9 => (some (u9.1, u9.2))))))) else none)))))))
def q_X7_as : Room := { frames := 3, cells := 0, slots := 0, locals := 103 }
set_option maxHeartbeats 4000000 in
set_option maxRecDepth 100000 in
theorem c_X7_as (l : Launch) (G : gT) (h h_rows h_tape h_live h_draft h_images h_acts h_foresight h_asks h_live_firms h_live_kindsTold h_live_places h_live_crowds h_live_pipsLeft h_live_notHome : Nat) (S0_latestFault : Int32) (S0_latestFinding : Int32) (S1_points : Int32) (S1_home : Int32) (S1_men : Int32) (S1_turn : Int32) (S1_thrower : Int32) (S1_cube : Int32) (S1_owner : Int32) (S1_firms : Nat → Int32) (S1_kindsTold : Nat → Int32) (S1_places : Nat → Int32) (S1_crowds : Nat → Int32) (S1_pipsLeft : Nat → Int32) (S1_notHome : Nat → Int32) (i1 : Int32) (i2 : Int32) : CT l G yX7_as cX7_as 3 (some .int) q_X7_as [.ref h, .int i1, .int i2] (wTF G h h_rows h_tape h_live h_draft h_images h_acts h_foresight h_asks S0_latestFault S0_latestFinding ++ wBD G h_live h_live_firms h_live_kindsTold h_live_places h_live_crowds h_live_pipsLeft h_live_notHome S1_points S1_home S1_men S1_turn S1_thrower S1_cube S1_owner S1_firms S1_kindsTold S1_places S1_crowds S1_pipsLeft S1_notHome) (M_X7_as (S0_latestFault, S0_latestFinding) (S1_points, S1_home, S1_men, S1_turn, S1_thrower, S1_cube, S1_owner, S1_firms, S1_kindsTold, S1_places, S1_crowds, S1_pipsLeft, S1_notHome) i1 i2) (fun u => some (.int u.1)) (fun u => wTF G h h_rows h_tape h_live h_draft h_images h_acts h_foresight h_asks u.2.1 u.2.2 ++ wBD G h_live h_live_firms h_live_kindsTold h_live_places h_live_crowds h_live_pipsLeft h_live_notHome S1_points S1_home S1_men S1_turn S1_thrower S1_cube S1_owner S1_firms S1_kindsTold S1_places S1_crowds S1_pipsLeft S1_notHome) := by
  refine CT.of (P := PX7_as) (by decide) dPX7_as (Nat.le_of_ble_eq_true rfl) ?_
  intro p e s m args below meth c A Q ls hne X RT Y hl
  have hl : lv_has ls 3 [(0, .ref h), (1, .int i1), (2, .int i2)] := hl
  generalize hM : M_X7_as (S0_latestFault, S0_latestFinding) (S1_points, S1_home, S1_men, S1_turn, S1_thrower, S1_cube, S1_owner, S1_firms, S1_kindsTold, S1_places, S1_crowds, S1_pipsLeft, S1_notHome) i1 i2 = MM at hne RT
  unfold M_X7_as at hM
  refine r_aload_n (pc' := 1) X hl 0 rfl rfl 0 rfl rfl ?_
  refine r_iload_n (pc' := 2) X hl 1 rfl rfl 1 rfl rfl ?_
  refine r_callV0 (pc' := 5) (As := [.int i1]) (rest := []) X Y 2 rfl rfl mRX7_161 (c_X7_isMan l G h h_rows h_tape h_live h_draft h_images h_acts h_foresight h_asks h_live_firms h_live_kindsTold h_live_places h_live_crowds h_live_pipsLeft h_live_notHome S0_latestFault S0_latestFinding S1_points S1_home S1_men S1_turn S1_thrower S1_cube S1_owner S1_firms S1_kindsTold S1_places S1_crowds S1_pipsLeft S1_notHome i1) (mB hM hne) 0 rfl rfl [0, 1, 2, 3, 4, 5, 6, 7] rfl rfl rfl (Nat.le_of_ble_eq_true rfl) ⟨rfl, rfl⟩ ⟨Nat.le_of_ble_eq_true rfl, Nat.le_of_ble_eq_true rfl⟩ ⟨Nat.zero_le _, Nat.zero_le _⟩ hl.1 (st' := fun u1 => [.int u1]) (fun _ => rfl) (fun u1 H locs huu1 Y => ?_)
  replace hM := mS hM huu1
  refine r_if_eq (pc' := 8) X 17 3 rfl rfl (by decide) (fun c2 => ?_) (fun c2 => ?_)
  · replace hM := mI hM c2
    refine r_ldc (pc' := 19) X mw324 9 rfl rfl ?_
    exact RT ((-1000001 : Int32), (S0_latestFault, S0_latestFinding)) _ _ _ _ _ hM (Or.inl ⟨rfl, rfl, _, rfl⟩) (X.d (k := 10) rfl) Y
  · replace hM := mE hM c2
    refine r_iload_n (pc' := 9) X hl 2 rfl rfl 4 rfl rfl ?_
    refine r_iconst (pc' := 10) X (0 : Int32) 5 rfl rfl rfl ?_
    refine r_iconst (pc' := 11) X (5 : Int32) 6 rfl rfl rfl ?_
    refine r_callS0 (pc' := 14) (As := [.int i2, .int (0 : Int32), .int (5 : Int32)]) (rest := []) X Y 7 rfl rfl mRX7_62 (c_X7_within l G i2 (0 : Int32) (5 : Int32)) (mB hM hne) rfl [] rfl rfl rfl (Nat.le_of_ble_eq_true rfl) ⟨rfl, rfl⟩ ⟨Nat.le_of_ble_eq_true rfl, Nat.le_of_ble_eq_true rfl⟩ ⟨Nat.zero_le _, Nat.zero_le _⟩ hl.1 (st' := fun u3 => [.int u3]) (fun _ => rfl) (fun u3 H locs huu3 Y => ?_)
    replace hM := mS hM huu3
    refine r_if_ne (pc' := 17) X 20 8 rfl rfl (by decide) (fun c4 => ?_) (fun c4 => ?_)
    · replace hM := mE hM c4
      refine r_aload_n (pc' := 21) X hl 0 rfl rfl 11 rfl rfl ?_
      refine r_get (pc' := 24) (v := .ref h_live) X Y 12 rfl rfl fRX7_26 0 rfl rfl ?_
      refine r_getN (pc' := 27) (v := .ref h_live_kindsTold) X Y 13 rfl rfl fRX7_308 1 rfl rfl ?_
      refine r_iload_n (pc' := 28) X hl 1 rfl rfl 14 rfl rfl ?_
      obtain ⟨g5, hM⟩ := mG hM hne
      refine r_iald (pc' := 29) X Y 15 rfl rfl 3 rfl (vin g5) ?_
      refine r_iload_n (pc' := 30) X hl 2 rfl rfl 16 rfl rfl ?_
      refine r_callS0 (pc' := 33) (As := [.int (S1_kindsTold (i1).toNatClampNeg), .int i2]) (rest := []) X Y 17 rfl rfl mRX7_311 (c_X7_isKind l G ((S1_kindsTold (i1).toNatClampNeg)) i2) (mB hM hne) rfl [] rfl rfl rfl (Nat.le_of_ble_eq_true rfl) ⟨rfl, rfl⟩ ⟨Nat.le_of_ble_eq_true rfl, Nat.le_of_ble_eq_true rfl⟩ ⟨Nat.zero_le _, Nat.zero_le _⟩ hl.1 (st' := fun u6 => [.int u6]) (fun _ => rfl) (fun u6 H locs huu6 Y => ?_)
      replace hM := mS hM huu6
      refine r_if_eq (pc' := 36) X 44 18 rfl rfl (by decide) (fun c7 => ?_) (fun c7 => ?_)
      · replace hM := mI hM c7
        refine r_aload_n (pc' := 45) X hl 0 rfl rfl 23 rfl rfl ?_
        refine r_iconst (pc' := 46) X (3 : Int32) 24 rfl rfl rfl ?_
        refine r_callV (pc' := 49) (As := [.int (3 : Int32)]) (rest := []) (wr := (wBD G h_live h_live_firms h_live_kindsTold h_live_places h_live_crowds h_live_pipsLeft h_live_notHome S1_points S1_home S1_men S1_turn S1_thrower S1_cube S1_owner S1_firms S1_kindsTold S1_places S1_crowds S1_pipsLeft S1_notHome : va_W)) X Y 25 rfl rfl mRX7_67 (c_X7_found l G h h_rows h_tape h_live h_draft h_images h_acts h_foresight h_asks S0_latestFault S0_latestFinding (3 : Int32)) (mB hM hne) 0 rfl rfl [0] [1, 2, 3, 4, 5, 6, 7] [7, 0, 1, 2, 3, 4, 5, 6] rfl rfl ⟨rfl, rfl, rfl⟩ rfl (w2 := fun u8 => wTF G h h_rows h_tape h_live h_draft h_images h_acts h_foresight h_asks u8.2.1 u8.2.2 ++ wBD G h_live h_live_firms h_live_kindsTold h_live_places h_live_crowds h_live_pipsLeft h_live_notHome S1_points S1_home S1_men S1_turn S1_thrower S1_cube S1_owner S1_firms S1_kindsTold S1_places S1_crowds S1_pipsLeft S1_notHome) (fun _ => rfl) rfl (Nat.le_of_ble_eq_true rfl) ⟨rfl, rfl⟩ ⟨Nat.le_of_ble_eq_true rfl, Nat.le_of_ble_eq_true rfl⟩ ⟨Nat.zero_le _, Nat.zero_le _⟩ hl.1 (st' := fun u8 => [.int u8.1]) (fun _ => rfl) (fun u8 H locs huu8 Y => ?_)
        obtain ⟨u8_1, ⟨u8_2_latestFault, u8_2_latestFinding⟩⟩ := u8
        replace Y : rY G A s (wTF G h h_rows h_tape h_live h_draft h_images h_acts h_foresight h_asks u8_2_latestFault u8_2_latestFinding ++ wBD G h_live h_live_firms h_live_kindsTold h_live_places h_live_crowds h_live_pipsLeft h_live_notHome S1_points S1_home S1_men S1_turn S1_thrower S1_cube S1_owner S1_firms S1_kindsTold S1_places S1_crowds S1_pipsLeft S1_notHome) H locs := Y
        replace hM := mS hM huu8
        show W p l e q_X7_as s m args below meth c H locs 0 0 Q (F0 m 49 ls [.int u8_1])
        exact RT (u8_1, (u8_2_latestFault, u8_2_latestFinding)) _ _ _ _ _ hM (Or.inl ⟨rfl, rfl, _, rfl⟩) (X.d (k := 26) rfl) Y
      · replace hM := mE hM c7
        refine r_aload_n (pc' := 37) X hl 0 rfl rfl 19 rfl rfl ?_
        refine r_iload_n (pc' := 38) X hl 1 rfl rfl 20 rfl rfl ?_
        refine r_callV (pc' := 41) (As := [.int i1]) (rest := []) (wr := (wBD G h_live h_live_firms h_live_kindsTold h_live_places h_live_crowds h_live_pipsLeft h_live_notHome S1_points S1_home S1_men S1_turn S1_thrower S1_cube S1_owner S1_firms S1_kindsTold S1_places S1_crowds S1_pipsLeft S1_notHome : va_W)) X Y 21 rfl rfl mRX7_75 (c_X7_unfound l G h h_rows h_tape h_live h_draft h_images h_acts h_foresight h_asks S0_latestFault S0_latestFinding i1) (mB hM hne) 0 rfl rfl [0] [1, 2, 3, 4, 5, 6, 7] [7, 0, 1, 2, 3, 4, 5, 6] rfl rfl ⟨rfl, rfl, rfl⟩ rfl (w2 := fun u9 => wTF G h h_rows h_tape h_live h_draft h_images h_acts h_foresight h_asks u9.2.1 u9.2.2 ++ wBD G h_live h_live_firms h_live_kindsTold h_live_places h_live_crowds h_live_pipsLeft h_live_notHome S1_points S1_home S1_men S1_turn S1_thrower S1_cube S1_owner S1_firms S1_kindsTold S1_places S1_crowds S1_pipsLeft S1_notHome) (fun _ => rfl) rfl (Nat.le_of_ble_eq_true rfl) ⟨rfl, rfl⟩ ⟨Nat.le_of_ble_eq_true rfl, Nat.le_of_ble_eq_true rfl⟩ ⟨Nat.zero_le _, Nat.zero_le _⟩ hl.1 (st' := fun u9 => [.int u9.1]) (fun _ => rfl) (fun u9 H locs huu9 Y => ?_)
        obtain ⟨u9_1, ⟨u9_2_latestFault, u9_2_latestFinding⟩⟩ := u9
        replace Y : rY G A s (wTF G h h_rows h_tape h_live h_draft h_images h_acts h_foresight h_asks u9_2_latestFault u9_2_latestFinding ++ wBD G h_live h_live_firms h_live_kindsTold h_live_places h_live_crowds h_live_pipsLeft h_live_notHome S1_points S1_home S1_men S1_turn S1_thrower S1_cube S1_owner S1_firms S1_kindsTold S1_places S1_crowds S1_pipsLeft S1_notHome) H locs := Y
        replace hM := mS hM huu9
        show W p l e q_X7_as s m args below meth c H locs 0 0 Q (F0 m 41 ls [.int u9_1])
        refine r_goto X 49 22 rfl (by decide) ?_
        exact RT (u9_1, (u9_2_latestFault, u9_2_latestFinding)) _ _ _ _ _ hM (Or.inl ⟨rfl, rfl, _, rfl⟩) (X.d (k := 26) rfl) Y
    · replace hM := mI hM c4
      refine r_ldc (pc' := 19) X mw324 9 rfl rfl ?_
      exact RT ((-1000001 : Int32), (S0_latestFault, S0_latestFinding)) _ _ _ _ _ hM (Or.inl ⟨rfl, rfl, _, rfl⟩) (X.d (k := 10) rfl) Y

def M_X7_ask (S0 : TF) (S1 : BD) (S2 : AS) (i1 : Int32) (i2 : Int32) : Option (Int32 × AS) :=
  ((M_X7_isMan S0 S1 i1).bind (fun u1 => (if u1 = 0 then (some ((-1000001 : Int32), S2)) else ((M_X7_isChoice i2).bind (fun u3 => (if u3 = 0 then (some ((-1000001 : Int32), S2)) else ((M_X1_answerOf S2 S1 i1 i2).bind (fun u5 => (some (u5.1, u5.2))))))))))
def q_X7_ask : Room := { frames := 13, cells := 0, slots := 0, locals := 365 }
set_option maxHeartbeats 4000000 in
set_option maxRecDepth 100000 in
theorem c_X7_ask (l : Launch) (G : gT) (h h_rows h_tape h_live h_draft h_images h_acts h_foresight h_asks h_live_firms h_live_kindsTold h_live_places h_live_crowds h_live_pipsLeft h_live_notHome h_asks_numbers : Nat) (S0_latestFault : Int32) (S0_latestFinding : Int32) (S1_points : Int32) (S1_home : Int32) (S1_men : Int32) (S1_turn : Int32) (S1_thrower : Int32) (S1_cube : Int32) (S1_owner : Int32) (S1_firms : Nat → Int32) (S1_kindsTold : Nat → Int32) (S1_places : Nat → Int32) (S1_crowds : Nat → Int32) (S1_pipsLeft : Nat → Int32) (S1_notHome : Nat → Int32) (S2_left : Int32) (S2_numbers : Nat → Int32) (i1 : Int32) (i2 : Int32) : CT l G yX7_ask cX7_ask 3 (some .int) q_X7_ask [.ref h, .int i1, .int i2] (wTF G h h_rows h_tape h_live h_draft h_images h_acts h_foresight h_asks S0_latestFault S0_latestFinding ++ wBD G h_live h_live_firms h_live_kindsTold h_live_places h_live_crowds h_live_pipsLeft h_live_notHome S1_points S1_home S1_men S1_turn S1_thrower S1_cube S1_owner S1_firms S1_kindsTold S1_places S1_crowds S1_pipsLeft S1_notHome ++ wAS G h_asks h_asks_numbers S2_left S2_numbers) (M_X7_ask (S0_latestFault, S0_latestFinding) (S1_points, S1_home, S1_men, S1_turn, S1_thrower, S1_cube, S1_owner, S1_firms, S1_kindsTold, S1_places, S1_crowds, S1_pipsLeft, S1_notHome) (S2_left, S2_numbers) i1 i2) (fun u => some (.int u.1)) (fun u => wTF G h h_rows h_tape h_live h_draft h_images h_acts h_foresight h_asks S0_latestFault S0_latestFinding ++ wBD G h_live h_live_firms h_live_kindsTold h_live_places h_live_crowds h_live_pipsLeft h_live_notHome S1_points S1_home S1_men S1_turn S1_thrower S1_cube S1_owner S1_firms S1_kindsTold S1_places S1_crowds S1_pipsLeft S1_notHome ++ wAS G h_asks h_asks_numbers u.2.1 u.2.2) := by
  refine CT.of (P := PX7_ask) (by decide) dPX7_ask (Nat.le_of_ble_eq_true rfl) ?_
  intro p e s m args below meth c A Q ls hne X RT Y hl
  have hl : lv_has ls 3 [(0, .ref h), (1, .int i1), (2, .int i2)] := hl
  generalize hM : M_X7_ask (S0_latestFault, S0_latestFinding) (S1_points, S1_home, S1_men, S1_turn, S1_thrower, S1_cube, S1_owner, S1_firms, S1_kindsTold, S1_places, S1_crowds, S1_pipsLeft, S1_notHome) (S2_left, S2_numbers) i1 i2 = MM at hne RT
  unfold M_X7_ask at hM
  refine r_aload_n (pc' := 1) X hl 0 rfl rfl 0 rfl rfl ?_
  refine r_iload_n (pc' := 2) X hl 1 rfl rfl 1 rfl rfl ?_
  refine r_callV0 (pc' := 5) (As := [.int i1]) (rest := []) X Y 2 rfl rfl mRX7_161 (c_X7_isMan l G h h_rows h_tape h_live h_draft h_images h_acts h_foresight h_asks h_live_firms h_live_kindsTold h_live_places h_live_crowds h_live_pipsLeft h_live_notHome S0_latestFault S0_latestFinding S1_points S1_home S1_men S1_turn S1_thrower S1_cube S1_owner S1_firms S1_kindsTold S1_places S1_crowds S1_pipsLeft S1_notHome i1) (mB hM hne) 0 rfl rfl [0, 1, 2, 3, 4, 5, 6, 7] rfl rfl rfl (Nat.le_of_ble_eq_true rfl) ⟨rfl, rfl⟩ ⟨Nat.le_of_ble_eq_true rfl, Nat.le_of_ble_eq_true rfl⟩ ⟨Nat.zero_le _, Nat.zero_le _⟩ hl.1 (st' := fun u1 => [.int u1]) (fun _ => rfl) (fun u1 H locs huu1 Y => ?_)
  replace hM := mS hM huu1
  refine r_if_eq (pc' := 8) X 15 3 rfl rfl (by decide) (fun c2 => ?_) (fun c2 => ?_)
  · replace hM := mI hM c2
    refine r_ldc (pc' := 17) X mw324 7 rfl rfl ?_
    exact RT ((-1000001 : Int32), (S2_left, S2_numbers)) _ _ _ _ _ hM (Or.inl ⟨rfl, rfl, _, rfl⟩) (X.d (k := 8) rfl) Y
  · replace hM := mE hM c2
    refine r_iload_n (pc' := 9) X hl 2 rfl rfl 4 rfl rfl ?_
    refine r_callS0 (pc' := 12) (As := [.int i2]) (rest := []) X Y 5 rfl rfl mRX7_239 (c_X7_isChoice l G i2) (mB hM hne) rfl [] rfl rfl rfl (Nat.le_of_ble_eq_true rfl) ⟨rfl, rfl⟩ ⟨Nat.le_of_ble_eq_true rfl, Nat.le_of_ble_eq_true rfl⟩ ⟨Nat.zero_le _, Nat.zero_le _⟩ hl.1 (st' := fun u3 => [.int u3]) (fun _ => rfl) (fun u3 H locs huu3 Y => ?_)
    replace hM := mS hM huu3
    refine r_if_ne (pc' := 15) X 18 6 rfl rfl (by decide) (fun c4 => ?_) (fun c4 => ?_)
    · replace hM := mE hM c4
      refine r_aload_n (pc' := 19) X hl 0 rfl rfl 9 rfl rfl ?_
      refine r_get (pc' := 22) (v := .ref h_asks) X Y 10 rfl rfl fRX7_54 0 rfl rfl ?_
      refine r_aload_n (pc' := 23) X hl 0 rfl rfl 11 rfl rfl ?_
      refine r_get (pc' := 26) (v := .ref h_live) X Y 12 rfl rfl fRX7_26 0 rfl rfl ?_
      refine r_iload_n (pc' := 27) X hl 1 rfl rfl 13 rfl rfl ?_
      refine r_iload_n (pc' := 28) X hl 2 rfl rfl 14 rfl rfl ?_
      refine r_callV (pc' := 31) (As := [.ref h_live, .int i1, .int i2]) (rest := []) (wr := (wTF G h h_rows h_tape h_live h_draft h_images h_acts h_foresight h_asks S0_latestFault S0_latestFinding : va_W)) X Y 15 rfl rfl mRX7_314 (c_X1_answerOf l G h_asks h_live h_asks_numbers h_live_firms h_live_kindsTold h_live_places h_live_crowds h_live_pipsLeft h_live_notHome S2_left S2_numbers S1_points S1_home S1_men S1_turn S1_thrower S1_cube S1_owner S1_firms S1_kindsTold S1_places S1_crowds S1_pipsLeft S1_notHome i1 i2) (mB hM hne) 8 rfl rfl [8, 9, 1, 2, 3, 4, 5, 6, 7] [0] [0, 3, 4, 5, 6, 7, 8, 9, 1, 2] rfl rfl ⟨rfl, rfl, rfl⟩ rfl (w2 := fun u5 => wTF G h h_rows h_tape h_live h_draft h_images h_acts h_foresight h_asks S0_latestFault S0_latestFinding ++ wBD G h_live h_live_firms h_live_kindsTold h_live_places h_live_crowds h_live_pipsLeft h_live_notHome S1_points S1_home S1_men S1_turn S1_thrower S1_cube S1_owner S1_firms S1_kindsTold S1_places S1_crowds S1_pipsLeft S1_notHome ++ wAS G h_asks h_asks_numbers u5.2.1 u5.2.2) (fun _ => rfl) rfl (Nat.le_of_ble_eq_true rfl) ⟨rfl, rfl⟩ ⟨Nat.le_of_ble_eq_true rfl, Nat.le_of_ble_eq_true rfl⟩ ⟨Nat.zero_le _, Nat.zero_le _⟩ hl.1 (st' := fun u5 => [.int u5.1]) (fun _ => rfl) (fun u5 H locs huu5 Y => ?_)
      obtain ⟨u5_1, ⟨u5_2_left, u5_2_numbers⟩⟩ := u5
      replace Y : rY G A s (wTF G h h_rows h_tape h_live h_draft h_images h_acts h_foresight h_asks S0_latestFault S0_latestFinding ++ wBD G h_live h_live_firms h_live_kindsTold h_live_places h_live_crowds h_live_pipsLeft h_live_notHome S1_points S1_home S1_men S1_turn S1_thrower S1_cube S1_owner S1_firms S1_kindsTold S1_places S1_crowds S1_pipsLeft S1_notHome ++ wAS G h_asks h_asks_numbers u5_2_left u5_2_numbers) H locs := Y
      replace hM := mS hM huu5
      show W p l e q_X7_ask s m args below meth c H locs 0 0 Q (F0 m 31 ls [.int u5_1])
      exact RT (u5_1, (u5_2_left, u5_2_numbers)) _ _ _ _ _ hM (Or.inl ⟨rfl, rfl, _, rfl⟩) (X.d (k := 16) rfl) Y
    · replace hM := mI hM c4
      refine r_ldc (pc' := 17) X mw324 7 rfl rfl ?_
      exact RT ((-1000001 : Int32), (S2_left, S2_numbers)) _ _ _ _ _ hM (Or.inl ⟨rfl, rfl, _, rfl⟩) (X.d (k := 8) rfl) Y

def M_X7_trace (S0 : TF) (S1 : AS) (i1 : Int32) : Option (Int32) :=
  ((M_X7_within i1 (0 : Int32) (((as_left S1) - (1 : Int32)))).bind (fun u1 => (if u1 = 0 then (some (-1000000 : Int32)) else (if inb i1 16 = true then (some ((as_numbers S1) (i1).toNatClampNeg)) else none))))
def q_X7_trace : Room := { frames := 2, cells := 0, slots := 0, locals := 82 }
set_option maxHeartbeats 4000000 in
set_option maxRecDepth 100000 in
theorem c_X7_trace (l : Launch) (G : gT) (h h_rows h_tape h_live h_draft h_images h_acts h_foresight h_asks h_asks_numbers : Nat) (S0_latestFault : Int32) (S0_latestFinding : Int32) (S1_left : Int32) (S1_numbers : Nat → Int32) (i1 : Int32) : CT l G yX7_trace cX7_trace 2 (some .int) q_X7_trace [.ref h, .int i1] (wTF G h h_rows h_tape h_live h_draft h_images h_acts h_foresight h_asks S0_latestFault S0_latestFinding ++ wAS G h_asks h_asks_numbers S1_left S1_numbers) (M_X7_trace (S0_latestFault, S0_latestFinding) (S1_left, S1_numbers) i1) (fun u => some (.int u)) (fun u => wTF G h h_rows h_tape h_live h_draft h_images h_acts h_foresight h_asks S0_latestFault S0_latestFinding ++ wAS G h_asks h_asks_numbers S1_left S1_numbers) := by
  refine CT.of (P := PX7_trace) (by decide) dPX7_trace (Nat.le_of_ble_eq_true rfl) ?_
  intro p e s m args below meth c A Q ls hne X RT Y hl
  have hl : lv_has ls 2 [(0, .ref h), (1, .int i1)] := hl
  generalize hM : M_X7_trace (S0_latestFault, S0_latestFinding) (S1_left, S1_numbers) i1 = MM at hne RT
  unfold M_X7_trace at hM
  refine r_iload_n (pc' := 1) X hl 1 rfl rfl 0 rfl rfl ?_
  refine r_iconst (pc' := 2) X (0 : Int32) 1 rfl rfl rfl ?_
  refine r_aload_n (pc' := 3) X hl 0 rfl rfl 2 rfl rfl ?_
  refine r_get (pc' := 6) (v := .ref h_asks) X Y 3 rfl rfl fRX7_54 0 rfl rfl ?_
  refine r_getN (pc' := 9) (v := .int S1_left) X Y 4 rfl rfl fRX7_317 1 rfl rfl ?_
  refine r_iconst (pc' := 10) X (1 : Int32) 5 rfl rfl rfl ?_
  refine r_isub (pc' := 11) X 6 rfl rfl ?_
  refine r_callS0 (pc' := 14) (As := [.int i1, .int (0 : Int32), .int (S1_left - (1 : Int32))]) (rest := []) X Y 7 rfl rfl mRX7_62 (c_X7_within l G i1 (0 : Int32) ((S1_left - (1 : Int32)))) (mB hM hne) rfl [] rfl rfl rfl (Nat.le_of_ble_eq_true rfl) ⟨rfl, rfl⟩ ⟨Nat.le_of_ble_eq_true rfl, Nat.le_of_ble_eq_true rfl⟩ ⟨Nat.zero_le _, Nat.zero_le _⟩ hl.1 (st' := fun u1 => [.int u1]) (fun _ => rfl) (fun u1 H locs huu1 Y => ?_)
  replace hM := mS hM huu1
  refine r_if_eq (pc' := 17) X 29 8 rfl rfl (by decide) (fun c2 => ?_) (fun c2 => ?_)
  · replace hM := mI hM c2
    refine r_ldc (pc' := 31) X mw386 15 rfl rfl ?_
    exact RT (-1000000 : Int32) _ _ _ _ _ hM (Or.inl ⟨rfl, rfl, _, rfl⟩) (X.d (k := 16) rfl) Y
  · replace hM := mE hM c2
    refine r_aload_n (pc' := 18) X hl 0 rfl rfl 9 rfl rfl ?_
    refine r_get (pc' := 21) (v := .ref h_asks) X Y 10 rfl rfl fRX7_54 0 rfl rfl ?_
    refine r_getN (pc' := 24) (v := .ref h_asks_numbers) X Y 11 rfl rfl fRX7_320 1 rfl rfl ?_
    refine r_iload_n (pc' := 25) X hl 1 rfl rfl 12 rfl rfl ?_
    obtain ⟨g3, hM⟩ := mG hM hne
    refine r_iald (pc' := 26) X Y 13 rfl rfl 2 rfl (vin g3) ?_
    refine r_goto X 31 14 rfl (by decide) ?_
    exact RT (S1_numbers (i1).toNatClampNeg) _ _ _ _ _ hM (Or.inl ⟨rfl, rfl, _, rfl⟩) (X.d (k := 16) rfl) Y

def M_X7_count (S0 : TF) (S1 : TP) (S2 : AC) (S3 : BD) (S4 : RW) (i1 : Int32) : Option (Int32) :=
  (if i1 = 0 then ((M_X5_present S4).bind (fun u2 => (some u2))) else (if i1 = 1 then (some (bd_men S3)) else (if i1 = 2 then (some (bd_turn S3)) else (if i1 = 3 then ((M_X2_off S3).bind (fun u3 => ((M_X2_crowd S3 (0 : Int32) u3).bind (fun u4 => ((M_X2_off S3).bind (fun u5 => ((M_X2_crowd S3 (1 : Int32) u5).bind (fun u6 => (some (u4 + u6)))))))))) else (if i1 = 4 then ((M_X2_bar S3).bind (fun u7 => ((M_X2_crowd S3 (0 : Int32) u7).bind (fun u8 => ((M_X2_bar S3).bind (fun u9 => ((M_X2_crowd S3 (1 : Int32) u9).bind (fun u10 => (some (u8 + u10)))))))))) else (if i1 = 5 then (some (bd_points S3)) else (if i1 = 6 then (some (ac_kept S2)) else (if i1 = 7 then (some S1) else (some (-1000001 : Int32))))))))))
def q_X7_count : Room := { frames := 3, cells := 0, slots := 0, locals := 103 }
set_option maxHeartbeats 4000000 in
set_option maxRecDepth 100000 in
theorem c_X7_count (l : Launch) (G : gT) (h h_rows h_tape h_live h_draft h_images h_acts h_foresight h_asks h_tape_bytes h_acts_before h_live_firms h_live_kindsTold h_live_places h_live_crowds h_live_pipsLeft h_live_notHome h_rows_lanes h_rows_sizes h_rows_items : Nat) (S0_latestFault : Int32) (S0_latestFinding : Int32) (S1 : Int32) (S2_next : Int32) (S2_kept : Int32) (S2_before : Nat → Int32) (S3_points : Int32) (S3_home : Int32) (S3_men : Int32) (S3_turn : Int32) (S3_thrower : Int32) (S3_cube : Int32) (S3_owner : Int32) (S3_firms : Nat → Int32) (S3_kindsTold : Nat → Int32) (S3_places : Nat → Int32) (S3_crowds : Nat → Int32) (S3_pipsLeft : Nat → Int32) (S3_notHome : Nat → Int32) (S4_lanes : Nat → Int32) (S4_sizes : Nat → Int32) (S4_items : Nat → Int32) (i1 : Int32) : CT l G yX7_count cX7_count 2 (some .int) q_X7_count [.ref h, .int i1] (wTF G h h_rows h_tape h_live h_draft h_images h_acts h_foresight h_asks S0_latestFault S0_latestFinding ++ wTP G h_tape h_tape_bytes S1 ++ wAC G h_acts h_acts_before S2_next S2_kept S2_before ++ wBD G h_live h_live_firms h_live_kindsTold h_live_places h_live_crowds h_live_pipsLeft h_live_notHome S3_points S3_home S3_men S3_turn S3_thrower S3_cube S3_owner S3_firms S3_kindsTold S3_places S3_crowds S3_pipsLeft S3_notHome ++ wRW G h_rows h_rows_lanes h_rows_sizes h_rows_items S4_lanes S4_sizes S4_items) (M_X7_count (S0_latestFault, S0_latestFinding) S1 (S2_next, S2_kept, S2_before) (S3_points, S3_home, S3_men, S3_turn, S3_thrower, S3_cube, S3_owner, S3_firms, S3_kindsTold, S3_places, S3_crowds, S3_pipsLeft, S3_notHome) (S4_lanes, S4_sizes, S4_items) i1) (fun u => some (.int u)) (fun u => wTF G h h_rows h_tape h_live h_draft h_images h_acts h_foresight h_asks S0_latestFault S0_latestFinding ++ wTP G h_tape h_tape_bytes S1 ++ wAC G h_acts h_acts_before S2_next S2_kept S2_before ++ wBD G h_live h_live_firms h_live_kindsTold h_live_places h_live_crowds h_live_pipsLeft h_live_notHome S3_points S3_home S3_men S3_turn S3_thrower S3_cube S3_owner S3_firms S3_kindsTold S3_places S3_crowds S3_pipsLeft S3_notHome ++ wRW G h_rows h_rows_lanes h_rows_sizes h_rows_items S4_lanes S4_sizes S4_items) := by
  refine CT.of (P := PX7_count) (by decide) dPX7_count (Nat.le_of_ble_eq_true rfl) ?_
  intro p e s m args below meth c A Q ls hne X RT Y hl
  have hl : lv_has ls 2 [(0, .ref h), (1, .int i1)] := hl
  generalize hM : M_X7_count (S0_latestFault, S0_latestFinding) S1 (S2_next, S2_kept, S2_before) (S3_points, S3_home, S3_men, S3_turn, S3_thrower, S3_cube, S3_owner, S3_firms, S3_kindsTold, S3_places, S3_crowds, S3_pipsLeft, S3_notHome) (S4_lanes, S4_sizes, S4_items) i1 = MM at hne RT
  unfold M_X7_count at hM
  refine r_iload_n (pc' := 1) X hl 1 rfl rfl 0 rfl rfl ?_
  by_cases h1_0 : i1 = 0
  · replace hM := mI hM h1_0
    refine r_tabIn X 48 1 rfl (0 : Int32) h1_0 (by decide) rfl (by decide) ?_
    refine r_aload_n (pc' := 49) X hl 0 rfl rfl 2 rfl rfl ?_
    refine r_get (pc' := 52) (v := .ref h_rows) X Y 3 rfl rfl fRX7_12 0 rfl rfl ?_
    refine r_callV0 (pc' := 55) (As := []) (rest := []) X Y 4 rfl rfl mRX7_323 (c_X5_present l G h_rows h_rows_lanes h_rows_sizes h_rows_items S4_lanes S4_sizes S4_items) (mB hM hne) 11 rfl rfl [11, 12, 13, 14] rfl rfl rfl (Nat.le_of_ble_eq_true rfl) ⟨rfl, rfl⟩ ⟨Nat.le_of_ble_eq_true rfl, Nat.le_of_ble_eq_true rfl⟩ ⟨Nat.zero_le _, Nat.zero_le _⟩ hl.1 (st' := fun u2 => [.int u2]) (fun _ => rfl) (fun u2 H locs huu2 Y => ?_)
    replace hM := mS hM huu2
    exact RT u2 _ _ _ _ _ hM (Or.inl ⟨rfl, rfl, _, rfl⟩) (X.d (k := 5) rfl) Y
  replace hM := mE hM h1_0
  by_cases h1_1 : i1 = 1
  · replace hM := mI hM h1_1
    refine r_tabIn X 56 1 rfl (1 : Int32) h1_1 (by decide) rfl (by decide) ?_
    refine r_aload_n (pc' := 57) X hl 0 rfl rfl 6 rfl rfl ?_
    refine r_get (pc' := 60) (v := .ref h_live) X Y 7 rfl rfl fRX7_26 0 rfl rfl ?_
    refine r_getN (pc' := 63) (v := .int S3_men) X Y 8 rfl rfl fRX7_132 4 rfl rfl ?_
    exact RT S3_men _ _ _ _ _ hM (Or.inl ⟨rfl, rfl, _, rfl⟩) (X.d (k := 9) rfl) Y
  replace hM := mE hM h1_1
  by_cases h1_2 : i1 = 2
  · replace hM := mI hM h1_2
    refine r_tabIn X 64 1 rfl (2 : Int32) h1_2 (by decide) rfl (by decide) ?_
    refine r_aload_n (pc' := 65) X hl 0 rfl rfl 10 rfl rfl ?_
    refine r_get (pc' := 68) (v := .ref h_live) X Y 11 rfl rfl fRX7_26 0 rfl rfl ?_
    refine r_getN (pc' := 71) (v := .int S3_turn) X Y 12 rfl rfl fRX7_151 4 rfl rfl ?_
    exact RT S3_turn _ _ _ _ _ hM (Or.inl ⟨rfl, rfl, _, rfl⟩) (X.d (k := 13) rfl) Y
  replace hM := mE hM h1_2
  by_cases h1_3 : i1 = 3
  · replace hM := mI hM h1_3
    refine r_tabIn X 72 1 rfl (3 : Int32) h1_3 (by decide) rfl (by decide) ?_
    refine r_aload_n (pc' := 73) X hl 0 rfl rfl 14 rfl rfl ?_
    refine r_get (pc' := 76) (v := .ref h_live) X Y 15 rfl rfl fRX7_26 0 rfl rfl ?_
    refine r_iconst (pc' := 77) X (0 : Int32) 16 rfl rfl rfl ?_
    refine r_aload_n (pc' := 78) X hl 0 rfl rfl 17 rfl rfl ?_
    refine r_get (pc' := 81) (v := .ref h_live) X Y 18 rfl rfl fRX7_26 0 rfl rfl ?_
    refine r_callV0 (pc' := 84) (As := []) (rest := [.int (0 : Int32), .ref h_live]) X Y 19 rfl rfl mRX7_202 (c_X2_off l G h_live h_live_firms h_live_kindsTold h_live_places h_live_crowds h_live_pipsLeft h_live_notHome S3_points S3_home S3_men S3_turn S3_thrower S3_cube S3_owner S3_firms S3_kindsTold S3_places S3_crowds S3_pipsLeft S3_notHome) (mB hM hne) 4 rfl rfl [4, 5, 6, 7, 8, 9, 10] rfl rfl rfl (Nat.le_of_ble_eq_true rfl) ⟨rfl, rfl⟩ ⟨Nat.le_of_ble_eq_true rfl, Nat.le_of_ble_eq_true rfl⟩ ⟨Nat.zero_le _, Nat.zero_le _⟩ hl.1 (st' := fun u3 => [.int u3, .int (0 : Int32), .ref h_live]) (fun _ => rfl) (fun u3 H locs huu3 Y => ?_)
    replace hM := mS hM huu3
    refine r_callV0 (pc' := 87) (As := [.int (0 : Int32), .int u3]) (rest := []) X Y 20 rfl rfl mRX7_233 (c_X2_crowd l G h_live h_live_firms h_live_kindsTold h_live_places h_live_crowds h_live_pipsLeft h_live_notHome S3_points S3_home S3_men S3_turn S3_thrower S3_cube S3_owner S3_firms S3_kindsTold S3_places S3_crowds S3_pipsLeft S3_notHome (0 : Int32) u3) (mB hM hne) 4 rfl rfl [4, 5, 6, 7, 8, 9, 10] rfl rfl rfl (Nat.le_of_ble_eq_true rfl) ⟨rfl, rfl⟩ ⟨Nat.le_of_ble_eq_true rfl, Nat.le_of_ble_eq_true rfl⟩ ⟨Nat.zero_le _, Nat.zero_le _⟩ hl.1 (st' := fun u4 => [.int u4]) (fun _ => rfl) (fun u4 H locs huu4 Y => ?_)
    replace hM := mS hM huu4
    refine r_aload_n (pc' := 88) X hl 0 rfl rfl 21 rfl rfl ?_
    refine r_get (pc' := 91) (v := .ref h_live) X Y 22 rfl rfl fRX7_26 0 rfl rfl ?_
    refine r_iconst (pc' := 92) X (1 : Int32) 23 rfl rfl rfl ?_
    refine r_aload_n (pc' := 93) X hl 0 rfl rfl 24 rfl rfl ?_
    refine r_get (pc' := 96) (v := .ref h_live) X Y 25 rfl rfl fRX7_26 0 rfl rfl ?_
    refine r_callV0 (pc' := 99) (As := []) (rest := [.int (1 : Int32), .ref h_live, .int u4]) X Y 26 rfl rfl mRX7_202 (c_X2_off l G h_live h_live_firms h_live_kindsTold h_live_places h_live_crowds h_live_pipsLeft h_live_notHome S3_points S3_home S3_men S3_turn S3_thrower S3_cube S3_owner S3_firms S3_kindsTold S3_places S3_crowds S3_pipsLeft S3_notHome) (mB hM hne) 4 rfl rfl [4, 5, 6, 7, 8, 9, 10] rfl rfl rfl (Nat.le_of_ble_eq_true rfl) ⟨rfl, rfl⟩ ⟨Nat.le_of_ble_eq_true rfl, Nat.le_of_ble_eq_true rfl⟩ ⟨Nat.zero_le _, Nat.zero_le _⟩ hl.1 (st' := fun u5 => [.int u5, .int (1 : Int32), .ref h_live, .int u4]) (fun _ => rfl) (fun u5 H locs huu5 Y => ?_)
    replace hM := mS hM huu5
    refine r_callV0 (pc' := 102) (As := [.int (1 : Int32), .int u5]) (rest := [.int u4]) X Y 27 rfl rfl mRX7_233 (c_X2_crowd l G h_live h_live_firms h_live_kindsTold h_live_places h_live_crowds h_live_pipsLeft h_live_notHome S3_points S3_home S3_men S3_turn S3_thrower S3_cube S3_owner S3_firms S3_kindsTold S3_places S3_crowds S3_pipsLeft S3_notHome (1 : Int32) u5) (mB hM hne) 4 rfl rfl [4, 5, 6, 7, 8, 9, 10] rfl rfl rfl (Nat.le_of_ble_eq_true rfl) ⟨rfl, rfl⟩ ⟨Nat.le_of_ble_eq_true rfl, Nat.le_of_ble_eq_true rfl⟩ ⟨Nat.zero_le _, Nat.zero_le _⟩ hl.1 (st' := fun u6 => [.int u6, .int u4]) (fun _ => rfl) (fun u6 H locs huu6 Y => ?_)
    replace hM := mS hM huu6
    refine r_iadd (pc' := 103) X 28 rfl rfl ?_
    exact RT (u4 + u6) _ _ _ _ _ hM (Or.inl ⟨rfl, rfl, _, rfl⟩) (X.d (k := 29) rfl) Y
  replace hM := mE hM h1_3
  by_cases h1_4 : i1 = 4
  · replace hM := mI hM h1_4
    refine r_tabIn X 104 1 rfl (4 : Int32) h1_4 (by decide) rfl (by decide) ?_
    refine r_aload_n (pc' := 105) X hl 0 rfl rfl 30 rfl rfl ?_
    refine r_get (pc' := 108) (v := .ref h_live) X Y 31 rfl rfl fRX7_26 0 rfl rfl ?_
    refine r_iconst (pc' := 109) X (0 : Int32) 32 rfl rfl rfl ?_
    refine r_aload_n (pc' := 110) X hl 0 rfl rfl 33 rfl rfl ?_
    refine r_get (pc' := 113) (v := .ref h_live) X Y 34 rfl rfl fRX7_26 0 rfl rfl ?_
    refine r_callV0 (pc' := 116) (As := []) (rest := [.int (0 : Int32), .ref h_live]) X Y 35 rfl rfl mRX7_194 (c_X2_bar l G h_live h_live_firms h_live_kindsTold h_live_places h_live_crowds h_live_pipsLeft h_live_notHome S3_points S3_home S3_men S3_turn S3_thrower S3_cube S3_owner S3_firms S3_kindsTold S3_places S3_crowds S3_pipsLeft S3_notHome) (mB hM hne) 4 rfl rfl [4, 5, 6, 7, 8, 9, 10] rfl rfl rfl (Nat.le_of_ble_eq_true rfl) ⟨rfl, rfl⟩ ⟨Nat.le_of_ble_eq_true rfl, Nat.le_of_ble_eq_true rfl⟩ ⟨Nat.zero_le _, Nat.zero_le _⟩ hl.1 (st' := fun u7 => [.int u7, .int (0 : Int32), .ref h_live]) (fun _ => rfl) (fun u7 H locs huu7 Y => ?_)
    replace hM := mS hM huu7
    refine r_callV0 (pc' := 119) (As := [.int (0 : Int32), .int u7]) (rest := []) X Y 36 rfl rfl mRX7_233 (c_X2_crowd l G h_live h_live_firms h_live_kindsTold h_live_places h_live_crowds h_live_pipsLeft h_live_notHome S3_points S3_home S3_men S3_turn S3_thrower S3_cube S3_owner S3_firms S3_kindsTold S3_places S3_crowds S3_pipsLeft S3_notHome (0 : Int32) u7) (mB hM hne) 4 rfl rfl [4, 5, 6, 7, 8, 9, 10] rfl rfl rfl (Nat.le_of_ble_eq_true rfl) ⟨rfl, rfl⟩ ⟨Nat.le_of_ble_eq_true rfl, Nat.le_of_ble_eq_true rfl⟩ ⟨Nat.zero_le _, Nat.zero_le _⟩ hl.1 (st' := fun u8 => [.int u8]) (fun _ => rfl) (fun u8 H locs huu8 Y => ?_)
    replace hM := mS hM huu8
    refine r_aload_n (pc' := 120) X hl 0 rfl rfl 37 rfl rfl ?_
    refine r_get (pc' := 123) (v := .ref h_live) X Y 38 rfl rfl fRX7_26 0 rfl rfl ?_
    refine r_iconst (pc' := 124) X (1 : Int32) 39 rfl rfl rfl ?_
    refine r_aload_n (pc' := 125) X hl 0 rfl rfl 40 rfl rfl ?_
    refine r_get (pc' := 128) (v := .ref h_live) X Y 41 rfl rfl fRX7_26 0 rfl rfl ?_
    refine r_callV0 (pc' := 131) (As := []) (rest := [.int (1 : Int32), .ref h_live, .int u8]) X Y 42 rfl rfl mRX7_194 (c_X2_bar l G h_live h_live_firms h_live_kindsTold h_live_places h_live_crowds h_live_pipsLeft h_live_notHome S3_points S3_home S3_men S3_turn S3_thrower S3_cube S3_owner S3_firms S3_kindsTold S3_places S3_crowds S3_pipsLeft S3_notHome) (mB hM hne) 4 rfl rfl [4, 5, 6, 7, 8, 9, 10] rfl rfl rfl (Nat.le_of_ble_eq_true rfl) ⟨rfl, rfl⟩ ⟨Nat.le_of_ble_eq_true rfl, Nat.le_of_ble_eq_true rfl⟩ ⟨Nat.zero_le _, Nat.zero_le _⟩ hl.1 (st' := fun u9 => [.int u9, .int (1 : Int32), .ref h_live, .int u8]) (fun _ => rfl) (fun u9 H locs huu9 Y => ?_)
    replace hM := mS hM huu9
    refine r_callV0 (pc' := 134) (As := [.int (1 : Int32), .int u9]) (rest := [.int u8]) X Y 43 rfl rfl mRX7_233 (c_X2_crowd l G h_live h_live_firms h_live_kindsTold h_live_places h_live_crowds h_live_pipsLeft h_live_notHome S3_points S3_home S3_men S3_turn S3_thrower S3_cube S3_owner S3_firms S3_kindsTold S3_places S3_crowds S3_pipsLeft S3_notHome (1 : Int32) u9) (mB hM hne) 4 rfl rfl [4, 5, 6, 7, 8, 9, 10] rfl rfl rfl (Nat.le_of_ble_eq_true rfl) ⟨rfl, rfl⟩ ⟨Nat.le_of_ble_eq_true rfl, Nat.le_of_ble_eq_true rfl⟩ ⟨Nat.zero_le _, Nat.zero_le _⟩ hl.1 (st' := fun u10 => [.int u10, .int u8]) (fun _ => rfl) (fun u10 H locs huu10 Y => ?_)
    replace hM := mS hM huu10
    refine r_iadd (pc' := 135) X 44 rfl rfl ?_
    exact RT (u8 + u10) _ _ _ _ _ hM (Or.inl ⟨rfl, rfl, _, rfl⟩) (X.d (k := 45) rfl) Y
  replace hM := mE hM h1_4
  by_cases h1_5 : i1 = 5
  · replace hM := mI hM h1_5
    refine r_tabIn X 136 1 rfl (5 : Int32) h1_5 (by decide) rfl (by decide) ?_
    refine r_aload_n (pc' := 137) X hl 0 rfl rfl 46 rfl rfl ?_
    refine r_get (pc' := 140) (v := .ref h_live) X Y 47 rfl rfl fRX7_26 0 rfl rfl ?_
    refine r_getN (pc' := 143) (v := .int S3_points) X Y 48 rfl rfl fRX7_221 4 rfl rfl ?_
    exact RT S3_points _ _ _ _ _ hM (Or.inl ⟨rfl, rfl, _, rfl⟩) (X.d (k := 49) rfl) Y
  replace hM := mE hM h1_5
  by_cases h1_6 : i1 = 6
  · replace hM := mI hM h1_6
    refine r_tabIn X 144 1 rfl (6 : Int32) h1_6 (by decide) rfl (by decide) ?_
    refine r_aload_n (pc' := 145) X hl 0 rfl rfl 50 rfl rfl ?_
    refine r_get (pc' := 148) (v := .ref h_acts) X Y 51 rfl rfl fRX7_40 0 rfl rfl ?_
    refine r_getN (pc' := 151) (v := .int S2_kept) X Y 52 rfl rfl fRX7_135 2 rfl rfl ?_
    exact RT S2_kept _ _ _ _ _ hM (Or.inl ⟨rfl, rfl, _, rfl⟩) (X.d (k := 53) rfl) Y
  replace hM := mE hM h1_6
  by_cases h1_7 : i1 = 7
  · replace hM := mI hM h1_7
    refine r_tabIn X 152 1 rfl (7 : Int32) h1_7 (by decide) rfl (by decide) ?_
    refine r_aload_n (pc' := 153) X hl 0 rfl rfl 54 rfl rfl ?_
    refine r_get (pc' := 156) (v := .ref h_tape) X Y 55 rfl rfl fRX7_19 0 rfl rfl ?_
    refine r_getN (pc' := 159) (v := .int S1) X Y 56 rfl rfl fRX7_326 1 rfl rfl ?_
    exact RT S1 _ _ _ _ _ hM (Or.inl ⟨rfl, rfl, _, rfl⟩) (X.d (k := 57) rfl) Y
  replace hM := mE hM h1_7
  refine r_tabOut X 160 1 rfl ((tsw (x := i1) 0 8 (fun k hk => match k, hk with | 0, _ => h1_0 | 1, _ => h1_1 | 2, _ => h1_2 | 3, _ => h1_3 | 4, _ => h1_4 | 5, _ => h1_5 | 6, _ => h1_6 | 7, _ => h1_7) (by decide)).imp id (fun z => Int.lt_of_lt_of_le (by decide) z)) (by decide) ?_
  refine r_ldc (pc' := 162) X mw324 58 rfl rfl ?_
  exact RT (-1000001 : Int32) _ _ _ _ _ hM (Or.inl ⟨rfl, rfl, _, rfl⟩) (X.d (k := 59) rfl) Y

def M_X7_status (S0 : TF) : Option (Int32) :=
  (some (tf_latestFinding S0))
def q_X7_status : Room := { frames := 1, cells := 0, slots := 0, locals := 60 }
set_option maxHeartbeats 4000000 in
set_option maxRecDepth 100000 in
theorem c_X7_status (l : Launch) (G : gT) (h h_rows h_tape h_live h_draft h_images h_acts h_foresight h_asks : Nat) (S0_latestFault : Int32) (S0_latestFinding : Int32) : CT l G yX7_status cX7_status 1 (some .int) q_X7_status [.ref h] (wTF G h h_rows h_tape h_live h_draft h_images h_acts h_foresight h_asks S0_latestFault S0_latestFinding) (M_X7_status (S0_latestFault, S0_latestFinding)) (fun u => some (.int u)) (fun u => wTF G h h_rows h_tape h_live h_draft h_images h_acts h_foresight h_asks S0_latestFault S0_latestFinding) := by
  refine CT.of (P := PX7_status) (by decide) dPX7_status (Nat.le_of_ble_eq_true rfl) ?_
  intro p e s m args below meth c A Q ls hne X RT Y hl
  have hl : lv_has ls 1 [(0, .ref h)] := hl
  generalize hM : M_X7_status (S0_latestFault, S0_latestFinding) = MM at hne RT
  unfold M_X7_status at hM
  refine r_aload_n (pc' := 1) X hl 0 rfl rfl 0 rfl rfl ?_
  refine r_get (pc' := 4) (v := .int S0_latestFinding) X Y 1 rfl rfl fRX7_329 0 rfl rfl ?_
  exact RT S0_latestFinding _ _ _ _ _ hM (Or.inl ⟨rfl, rfl, _, rfl⟩) (X.d (k := 2) rfl) Y
