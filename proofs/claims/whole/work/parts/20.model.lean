def M_X8_in (i0 : Int64) (i2 : Int64) (i4 : Int64) : Option (Int32) :=
  (if (lg_cmp i0 i2) < 0 then (some (0 : Int32)) else (if 0 < (lg_cmp i0 i4) then (some (0 : Int32)) else (some (1 : Int32))))
def q_X8_in : Room := { frames := 1, cells := 0, slots := 0, locals := 60 }
set_option maxHeartbeats 4000000 in
set_option maxRecDepth 100000 in
theorem c_X8_in (l : Launch) (G : gT) (i0 : Int64) (i2 : Int64) (i4 : Int64) : CT l G yX8_in cX8_in 6 (some .boolean) q_X8_in [.long i0, .long i2, .long i4] ([]) (M_X8_in i0 i2 i4) (fun u => some (.int u)) (fun u => []) := by
  refine CT.of (P := PX8_in) (by decide) dPX8_in (Nat.le_of_ble_eq_true rfl) ?_
  intro p e s m args below meth c A Q ls hne X RT Y hl
  have hl : lv_has ls 6 [(0, .long i0), (2, .long i2), (4, .long i4)] := hl
  generalize hM : M_X8_in i0 i2 i4 = MM at hne RT
  unfold M_X8_in at hM
  refine r_lload_n (pc' := 1) X hl 0 rfl rfl 0 rfl rfl ?_
  refine r_lload_n (pc' := 2) X hl 1 rfl rfl 1 rfl rfl ?_
  refine r_lcmp (pc' := 3) X 2 rfl rfl ?_
  refine r_if_lt (pc' := 6) X 17 3 rfl rfl (by decide) (fun c1 => ?_) (fun c1 => ?_)
  · replace hM := mI hM c1
    refine r_iconst (pc' := 18) X (0 : Int32) 10 rfl rfl rfl ?_
    exact RT (0 : Int32) _ _ _ _ _ hM (Or.inr (Or.inl ⟨rfl, rfl, _, rfl, nb (Or.inl rfl)⟩)) (X.d (k := 11) rfl) Y
  · replace hM := mE hM c1
    refine r_lload_n (pc' := 7) X hl 0 rfl rfl 4 rfl rfl ?_
    refine r_lload (pc' := 9) X hl 2 rfl 5 rfl rfl ?_
    refine r_lcmp (pc' := 10) X 6 rfl rfl ?_
    refine r_if_gt (pc' := 13) X 17 7 rfl rfl (by decide) (fun c2 => ?_) (fun c2 => ?_)
    · replace hM := mI hM c2
      refine r_iconst (pc' := 18) X (0 : Int32) 10 rfl rfl rfl ?_
      exact RT (0 : Int32) _ _ _ _ _ hM (Or.inr (Or.inl ⟨rfl, rfl, _, rfl, nb (Or.inl rfl)⟩)) (X.d (k := 11) rfl) Y
    · replace hM := mE hM c2
      refine r_iconst (pc' := 14) X (1 : Int32) 8 rfl rfl rfl ?_
      refine r_goto X 18 9 rfl (by decide) ?_
      exact RT (1 : Int32) _ _ _ _ _ hM (Or.inr (Or.inl ⟨rfl, rfl, _, rfl, nb (Or.inr rfl)⟩)) (X.d (k := 11) rfl) Y

def M_X8_has (i0 : Int32) (i1 : Int32) : Option (Int32) :=
  (if ((i0 >>> (i1 &&& 31)) &&& (1 : Int32)) = (1 : Int32) then (some (1 : Int32)) else (some (0 : Int32)))
def q_X8_has : Room := { frames := 1, cells := 0, slots := 0, locals := 60 }
set_option maxHeartbeats 4000000 in
set_option maxRecDepth 100000 in
theorem c_X8_has (l : Launch) (G : gT) (i0 : Int32) (i1 : Int32) : CT l G yX8_has cX8_has 2 (some .boolean) q_X8_has [.int i0, .int i1] ([]) (M_X8_has i0 i1) (fun u => some (.int u)) (fun u => []) := by
  refine CT.of (P := PX8_has) (by decide) dPX8_has (Nat.le_of_ble_eq_true rfl) ?_
  intro p e s m args below meth c A Q ls hne X RT Y hl
  have hl : lv_has ls 2 [(0, .int i0), (1, .int i1)] := hl
  generalize hM : M_X8_has i0 i1 = MM at hne RT
  unfold M_X8_has at hM
  refine r_iload_n (pc' := 1) X hl 0 rfl rfl 0 rfl rfl ?_
  refine r_iload_n (pc' := 2) X hl 1 rfl rfl 1 rfl rfl ?_
  refine r_ishr (pc' := 3) X 2 rfl rfl ?_
  refine r_iconst (pc' := 4) X (1 : Int32) 3 rfl rfl rfl ?_
  refine r_iand (pc' := 5) X 4 rfl rfl ?_
  refine r_iconst (pc' := 6) X (1 : Int32) 5 rfl rfl rfl ?_
  refine r_icmp_ne (pc' := 9) X 13 6 rfl rfl (by decide) (fun c1 => ?_) (fun c1 => ?_)
  · replace hM := mE hM c1
    refine r_iconst (pc' := 14) X (0 : Int32) 9 rfl rfl rfl ?_
    exact RT (0 : Int32) _ _ _ _ _ hM (Or.inr (Or.inl ⟨rfl, rfl, _, rfl, nb (Or.inl rfl)⟩)) (X.d (k := 10) rfl) Y
  · replace hM := mI hM c1
    refine r_iconst (pc' := 10) X (1 : Int32) 7 rfl rfl rfl ?_
    refine r_goto X 14 8 rfl (by decide) ?_
    exact RT (1 : Int32) _ _ _ _ _ hM (Or.inr (Or.inl ⟨rfl, rfl, _, rfl, nb (Or.inr rfl)⟩)) (X.d (k := 10) rfl) Y

def M_X8_found (S0 : MS) (i1 : Int32) : Option (Int32 × MS) :=
  (some (((-1000010 : Int32) - i1), (i1, (ms_points S0), (ms_home S0), (ms_men S0), (ms_hasTable S0), (ms_acts S0), (ms_imaged S0), (ms_length S0), (ms_fault S0), (ms_traced S0), (ms_spot S0), (ms_begins S0), (ms_token S0), (ms_number S0), (ms_readPoints S0), (ms_readHome S0), (ms_readMen S0), (ms_otherOne S0), (ms_otherKind S0), (ms_items S0), (ms_lanes S0), (ms_sizes S0), (ms_firms S0), (ms_kinds S0), (ms_now S0), (ms_before S0), (ms_images S0), (ms_tape S0), (ms_trace S0), (ms_readFirms S0), (ms_readKinds S0), (ms_readAt S0), (ms_rows S0), (ms_bests S0))))
def q_X8_found : Room := { frames := 1, cells := 0, slots := 0, locals := 60 }
set_option maxHeartbeats 4000000 in
set_option maxRecDepth 100000 in
theorem c_X8_found (l : Launch) (G : gT) (h h_items h_lanes h_sizes h_firms h_kinds h_now h_before h_images h_tape h_trace h_readFirms h_readKinds h_readAt h_rows h_bests : Nat) (S0 : MS) (i1 : Int32) : CT l G yX8_found cX8_found 2 (some .int) q_X8_found [.ref h, .int i1] (wMS G h h_items h_lanes h_sizes h_firms h_kinds h_now h_before h_images h_tape h_trace h_readFirms h_readKinds h_readAt h_rows h_bests S0) (M_X8_found S0 i1) (fun u => some (.int u.1)) (fun u => wMS G h h_items h_lanes h_sizes h_firms h_kinds h_now h_before h_images h_tape h_trace h_readFirms h_readKinds h_readAt h_rows h_bests u.2) := by
  refine CT.of (P := PX8_found) (by decide) dPX8_found (Nat.le_of_ble_eq_true rfl) ?_
  intro p e s m args below meth c A Q ls hne X RT Y hl
  have hl : lv_has ls 2 [(0, .ref h), (1, .int i1)] := hl
  generalize hM : M_X8_found S0 i1 = MM at hne RT
  unfold M_X8_found at hM
  refine r_aload_n (pc' := 1) X hl 0 rfl rfl 0 rfl rfl ?_
  refine r_iload_n (pc' := 2) X hl 1 rfl rfl 1 rfl rfl ?_
  refine r_put (pc' := 5) (ws' := wMS G h h_items h_lanes h_sizes h_firms h_kinds h_now h_before h_images h_tape h_trace h_readFirms h_readKinds h_readAt h_rows h_bests (i1, (ms_points S0), (ms_home S0), (ms_men S0), (ms_hasTable S0), (ms_acts S0), (ms_imaged S0), (ms_length S0), (ms_fault S0), (ms_traced S0), (ms_spot S0), (ms_begins S0), (ms_token S0), (ms_number S0), (ms_readPoints S0), (ms_readHome S0), (ms_readMen S0), (ms_otherOne S0), (ms_otherKind S0), (ms_items S0), (ms_lanes S0), (ms_sizes S0), (ms_firms S0), (ms_kinds S0), (ms_now S0), (ms_before S0), (ms_images S0), (ms_tape S0), (ms_trace S0), (ms_readFirms S0), (ms_readKinds S0), (ms_readAt S0), (ms_rows S0), (ms_bests S0))) X Y 2 rfl rfl fRX8_60 0 rfl rfl rfl (Nat.le_of_ble_eq_true rfl) rfl (fun H locs Y => ?_)
  refine r_ldc (pc' := 7) X mw537 3 rfl rfl ?_
  refine r_iload_n (pc' := 8) X hl 1 rfl rfl 4 rfl rfl ?_
  refine r_isub (pc' := 9) X 5 rfl rfl ?_
  exact RT (((-1000010 : Int32) - i1), (i1, (ms_points S0), (ms_home S0), (ms_men S0), (ms_hasTable S0), (ms_acts S0), (ms_imaged S0), (ms_length S0), (ms_fault S0), (ms_traced S0), (ms_spot S0), (ms_begins S0), (ms_token S0), (ms_number S0), (ms_readPoints S0), (ms_readHome S0), (ms_readMen S0), (ms_otherOne S0), (ms_otherKind S0), (ms_items S0), (ms_lanes S0), (ms_sizes S0), (ms_firms S0), (ms_kinds S0), (ms_now S0), (ms_before S0), (ms_images S0), (ms_tape S0), (ms_trace S0), (ms_readFirms S0), (ms_readKinds S0), (ms_readAt S0), (ms_rows S0), (ms_bests S0))) _ _ _ _ _ hM (Or.inl ⟨rfl, rfl, _, rfl⟩) (X.d (k := 6) rfl) Y

def M_X8_well (S0 : MS) (i1 : Int32) : Option (Int32 × MS) :=
  (some (i1, ((0 : Int32), (ms_points S0), (ms_home S0), (ms_men S0), (ms_hasTable S0), (ms_acts S0), (ms_imaged S0), (ms_length S0), (ms_fault S0), (ms_traced S0), (ms_spot S0), (ms_begins S0), (ms_token S0), (ms_number S0), (ms_readPoints S0), (ms_readHome S0), (ms_readMen S0), (ms_otherOne S0), (ms_otherKind S0), (ms_items S0), (ms_lanes S0), (ms_sizes S0), (ms_firms S0), (ms_kinds S0), (ms_now S0), (ms_before S0), (ms_images S0), (ms_tape S0), (ms_trace S0), (ms_readFirms S0), (ms_readKinds S0), (ms_readAt S0), (ms_rows S0), (ms_bests S0))))
def q_X8_well : Room := { frames := 1, cells := 0, slots := 0, locals := 60 }
set_option maxHeartbeats 4000000 in
set_option maxRecDepth 100000 in
theorem c_X8_well (l : Launch) (G : gT) (h h_items h_lanes h_sizes h_firms h_kinds h_now h_before h_images h_tape h_trace h_readFirms h_readKinds h_readAt h_rows h_bests : Nat) (S0 : MS) (i1 : Int32) : CT l G yX8_well cX8_well 2 (some .int) q_X8_well [.ref h, .int i1] (wMS G h h_items h_lanes h_sizes h_firms h_kinds h_now h_before h_images h_tape h_trace h_readFirms h_readKinds h_readAt h_rows h_bests S0) (M_X8_well S0 i1) (fun u => some (.int u.1)) (fun u => wMS G h h_items h_lanes h_sizes h_firms h_kinds h_now h_before h_images h_tape h_trace h_readFirms h_readKinds h_readAt h_rows h_bests u.2) := by
  refine CT.of (P := PX8_well) (by decide) dPX8_well (Nat.le_of_ble_eq_true rfl) ?_
  intro p e s m args below meth c A Q ls hne X RT Y hl
  have hl : lv_has ls 2 [(0, .ref h), (1, .int i1)] := hl
  generalize hM : M_X8_well S0 i1 = MM at hne RT
  unfold M_X8_well at hM
  refine r_aload_n (pc' := 1) X hl 0 rfl rfl 0 rfl rfl ?_
  refine r_iconst (pc' := 2) X (0 : Int32) 1 rfl rfl rfl ?_
  refine r_put (pc' := 5) (ws' := wMS G h h_items h_lanes h_sizes h_firms h_kinds h_now h_before h_images h_tape h_trace h_readFirms h_readKinds h_readAt h_rows h_bests ((0 : Int32), (ms_points S0), (ms_home S0), (ms_men S0), (ms_hasTable S0), (ms_acts S0), (ms_imaged S0), (ms_length S0), (ms_fault S0), (ms_traced S0), (ms_spot S0), (ms_begins S0), (ms_token S0), (ms_number S0), (ms_readPoints S0), (ms_readHome S0), (ms_readMen S0), (ms_otherOne S0), (ms_otherKind S0), (ms_items S0), (ms_lanes S0), (ms_sizes S0), (ms_firms S0), (ms_kinds S0), (ms_now S0), (ms_before S0), (ms_images S0), (ms_tape S0), (ms_trace S0), (ms_readFirms S0), (ms_readKinds S0), (ms_readAt S0), (ms_rows S0), (ms_bests S0))) X Y 2 rfl rfl fRX8_60 0 rfl rfl rfl (Nat.le_of_ble_eq_true rfl) rfl (fun H locs Y => ?_)
  refine r_iload_n (pc' := 6) X hl 1 rfl rfl 3 rfl rfl ?_
  exact RT (i1, ((0 : Int32), (ms_points S0), (ms_home S0), (ms_men S0), (ms_hasTable S0), (ms_acts S0), (ms_imaged S0), (ms_length S0), (ms_fault S0), (ms_traced S0), (ms_spot S0), (ms_begins S0), (ms_token S0), (ms_number S0), (ms_readPoints S0), (ms_readHome S0), (ms_readMen S0), (ms_otherOne S0), (ms_otherKind S0), (ms_items S0), (ms_lanes S0), (ms_sizes S0), (ms_firms S0), (ms_kinds S0), (ms_now S0), (ms_before S0), (ms_images S0), (ms_tape S0), (ms_trace S0), (ms_readFirms S0), (ms_readKinds S0), (ms_readAt S0), (ms_rows S0), (ms_bests S0))) _ _ _ _ _ hM (Or.inl ⟨rfl, rfl, _, rfl⟩) (X.d (k := 4) rfl) Y

def M_X8_isRow (i0 : Int32) : Option (Int32) :=
  ((M_X8_in ((i0).toInt64) (0 : Int64) (7 : Int64)).bind (fun u1 => (if (u1 = 0 ∨ u1 = 1) then (some u1) else none)))
def q_X8_isRow : Room := { frames := 2, cells := 0, slots := 0, locals := 85 }
set_option maxHeartbeats 4000000 in
set_option maxRecDepth 100000 in
theorem c_X8_isRow (l : Launch) (G : gT) (i0 : Int32) : CT l G yX8_isRow cX8_isRow 1 (some .boolean) q_X8_isRow [.int i0] ([]) (M_X8_isRow i0) (fun u => some (.int u)) (fun u => []) := by
  refine CT.of (P := PX8_isRow) (by decide) dPX8_isRow (Nat.le_of_ble_eq_true rfl) ?_
  intro p e s m args below meth c A Q ls hne X RT Y hl
  have hl : lv_has ls 1 [(0, .int i0)] := hl
  generalize hM : M_X8_isRow i0 = MM at hne RT
  unfold M_X8_isRow at hM
  refine r_iload_n (pc' := 1) X hl 0 rfl rfl 0 rfl rfl ?_
  refine r_i2l (pc' := 2) X 1 rfl rfl ?_
  refine r_lconst (pc' := 3) X (0 : Int64) 2 rfl rfl rfl ?_
  refine r_ldc2 (pc' := 6) X mw540 3 rfl rfl ?_
  refine r_callS0 (pc' := 9) (As := [.long (i0).toInt64, .long (0 : Int64), .long (7 : Int64)]) (rest := []) X Y 4 rfl rfl mRX8_66 (c_X8_in l G ((i0).toInt64) (0 : Int64) (7 : Int64)) (mB hM hne) rfl [] rfl rfl rfl (Nat.le_of_ble_eq_true rfl) ⟨rfl, rfl⟩ ⟨Nat.le_of_ble_eq_true rfl, Nat.le_of_ble_eq_true rfl⟩ ⟨Nat.zero_le _, Nat.zero_le _⟩ hl.1 (st' := fun u1 => [.int u1]) (fun _ => rfl) (fun u1 H locs huu1 Y => ?_)
  replace hM := mS hM huu1
  obtain ⟨g2, hM⟩ := mG hM hne
  exact RT u1 _ _ _ _ _ hM (Or.inr (Or.inl ⟨rfl, rfl, _, rfl, nb g2⟩)) (X.d (k := 5) rfl) Y

def M_X8_row (S0 : MS) (i1 : Int32) (i2 : Int32) (i3 : Int32) : Option (Int32 × MS) :=
  ((M_X8_isRow i1).bind (fun u1 => (if u1 = 0 then (some ((-1000001 : Int32), S0)) else ((M_X8_in ((i2).toInt64) (0 : Int64) (2 : Int64)).bind (fun u3 => (if u3 = 0 then (some ((-1000001 : Int32), S0)) else (if i3 ≤ (40 : Int32) then (if 0 ≤ i3 then (if inb i1 8 = true then ((lp (σ := Int32 × (Nat → Int32)) (β := (Nat → Int32)) (fun rec8 st8 => (if i3 ≤ st8.1 then (some st8.2) else (if inb (((40 : Int32) * i1) + st8.1) 320 = true then (rec8 ((st8.1 + (1 : Int32)), (upd st8.2 ((((40 : Int32) * i1) + st8.1)).toNatClampNeg (0 : Int32)))) else none))) 1000000 ((0 : Int32), (ms_items S0))).bind (fun b8 => ((M_X8_well (((ms_status S0), (ms_points S0), (ms_home S0), (ms_men S0), (ms_hasTable S0), (ms_acts S0), (ms_imaged S0), (ms_length S0), (ms_fault S0), (ms_traced S0), (ms_spot S0), (ms_begins S0), (ms_token S0), (ms_number S0), (ms_readPoints S0), (ms_readHome S0), (ms_readMen S0), (ms_otherOne S0), (ms_otherKind S0), b8, (upd (ms_lanes S0) (i1).toNatClampNeg i2), (upd (ms_sizes S0) (i1).toNatClampNeg i3), (ms_firms S0), (ms_kinds S0), (ms_now S0), (ms_before S0), (ms_images S0), (ms_tape S0), (ms_trace S0), (ms_readFirms S0), (ms_readKinds S0), (ms_readAt S0), (ms_rows S0), (ms_bests S0))) i3).bind (fun u9 => (some (u9.1, u9.2)))))) else none) else ((M_X8_found S0 (4 : Int32)).bind (fun u12 => (some (u12.1, u12.2))))) else (some ((-1000001 : Int32), S0)))))))))
def q_X8_row : Room := { frames := 3, cells := 0, slots := 0, locals := 105 }
set_option maxHeartbeats 4000000 in
set_option maxRecDepth 100000 in
theorem c_X8_row (l : Launch) (G : gT) (h h_items h_lanes h_sizes h_firms h_kinds h_now h_before h_images h_tape h_trace h_readFirms h_readKinds h_readAt h_rows h_bests : Nat) (S0 : MS) (i1 : Int32) (i2 : Int32) (i3 : Int32) : CT l G yX8_row cX8_row 5 (some .int) q_X8_row [.ref h, .int i1, .int i2, .int i3] (wMS G h h_items h_lanes h_sizes h_firms h_kinds h_now h_before h_images h_tape h_trace h_readFirms h_readKinds h_readAt h_rows h_bests S0) (M_X8_row S0 i1 i2 i3) (fun u => some (.int u.1)) (fun u => wMS G h h_items h_lanes h_sizes h_firms h_kinds h_now h_before h_images h_tape h_trace h_readFirms h_readKinds h_readAt h_rows h_bests u.2) := by
  refine CT.of (P := PX8_row) (by decide) dPX8_row (Nat.le_of_ble_eq_true rfl) ?_
  intro p e s m args below meth c A Q ls hne X RT Y hl
  have hl : lv_has ls 5 [(0, .ref h), (1, .int i1), (2, .int i2), (3, .int i3)] := hl
  generalize hM : M_X8_row S0 i1 i2 i3 = MM at hne RT
  unfold M_X8_row at hM
  refine r_iload_n (pc' := 1) X hl 1 rfl rfl 0 rfl rfl ?_
  refine r_callS0 (pc' := 4) (As := [.int i1]) (rest := []) X Y 1 rfl rfl mRX8_70 (c_X8_isRow l G i1) (mB hM hne) rfl [] rfl rfl rfl (Nat.le_of_ble_eq_true rfl) ⟨rfl, rfl⟩ ⟨Nat.le_of_ble_eq_true rfl, Nat.le_of_ble_eq_true rfl⟩ ⟨Nat.zero_le _, Nat.zero_le _⟩ hl.1 (st' := fun u1 => [.int u1]) (fun _ => rfl) (fun u1 H locs huu1 Y => ?_)
  replace hM := mS hM huu1
  refine r_if_eq (pc' := 7) X 25 2 rfl rfl (by decide) (fun c2 => ?_) (fun c2 => ?_)
  · replace hM := mI hM c2
    refine r_ldc (pc' := 27) X mw546 12 rfl rfl ?_
    exact RT ((-1000001 : Int32), S0) _ _ _ _ _ hM (Or.inl ⟨rfl, rfl, _, rfl⟩) (X.d (k := 13) rfl) Y
  · replace hM := mE hM c2
    refine r_iload_n (pc' := 8) X hl 2 rfl rfl 3 rfl rfl ?_
    refine r_i2l (pc' := 9) X 4 rfl rfl ?_
    refine r_lconst (pc' := 10) X (0 : Int64) 5 rfl rfl rfl ?_
    refine r_ldc2 (pc' := 13) X mw545 6 rfl rfl ?_
    refine r_callS0 (pc' := 16) (As := [.long (i2).toInt64, .long (0 : Int64), .long (2 : Int64)]) (rest := []) X Y 7 rfl rfl mRX8_66 (c_X8_in l G ((i2).toInt64) (0 : Int64) (2 : Int64)) (mB hM hne) rfl [] rfl rfl rfl (Nat.le_of_ble_eq_true rfl) ⟨rfl, rfl⟩ ⟨Nat.le_of_ble_eq_true rfl, Nat.le_of_ble_eq_true rfl⟩ ⟨Nat.zero_le _, Nat.zero_le _⟩ hl.1 (st' := fun u3 => [.int u3]) (fun _ => rfl) (fun u3 H locs huu3 Y => ?_)
    replace hM := mS hM huu3
    refine r_if_eq (pc' := 19) X 25 8 rfl rfl (by decide) (fun c4 => ?_) (fun c4 => ?_)
    · replace hM := mI hM c4
      refine r_ldc (pc' := 27) X mw546 12 rfl rfl ?_
      exact RT ((-1000001 : Int32), S0) _ _ _ _ _ hM (Or.inl ⟨rfl, rfl, _, rfl⟩) (X.d (k := 13) rfl) Y
    · replace hM := mE hM c4
      refine r_iload_n (pc' := 20) X hl 3 rfl rfl 9 rfl rfl ?_
      refine r_bipush (pc' := 22) X (40 : Int32) 10 rfl rfl rfl ?_
      refine r_icmp_le (pc' := 25) X 28 11 rfl rfl (by decide) (fun c5 => ?_) (fun c5 => ?_)
      · replace hM := mI hM c5
        refine r_iload_n (pc' := 29) X hl 3 rfl rfl 14 rfl rfl ?_
        refine r_if_ge (pc' := 32) X 38 15 rfl rfl (by decide) (fun c6 => ?_) (fun c6 => ?_)
        · replace hM := mI hM c6
          refine r_aload_n (pc' := 39) X hl 0 rfl rfl 20 rfl rfl ?_
          refine r_get (pc' := 42) (v := .ref h_lanes) X Y 21 rfl rfl fRX8_13 0 rfl rfl ?_
          refine r_iload_n (pc' := 43) X hl 1 rfl rfl 22 rfl rfl ?_
          refine r_iload_n (pc' := 44) X hl 2 rfl rfl 23 rfl rfl ?_
          obtain ⟨g7, hM⟩ := mG hM hne
          refine r_iast (pc' := 45) (ws' := wMS G h h_items h_lanes h_sizes h_firms h_kinds h_now h_before h_images h_tape h_trace h_readFirms h_readKinds h_readAt h_rows h_bests ((ms_status S0), (ms_points S0), (ms_home S0), (ms_men S0), (ms_hasTable S0), (ms_acts S0), (ms_imaged S0), (ms_length S0), (ms_fault S0), (ms_traced S0), (ms_spot S0), (ms_begins S0), (ms_token S0), (ms_number S0), (ms_readPoints S0), (ms_readHome S0), (ms_readMen S0), (ms_otherOne S0), (ms_otherKind S0), (ms_items S0), (upd (ms_lanes S0) (i1).toNatClampNeg i2), (ms_sizes S0), (ms_firms S0), (ms_kinds S0), (ms_now S0), (ms_before S0), (ms_images S0), (ms_tape S0), (ms_trace S0), (ms_readFirms S0), (ms_readKinds S0), (ms_readAt S0), (ms_rows S0), (ms_bests S0))) X Y 24 rfl rfl 2 rfl (vin g7) rfl (fun H locs Y => ?_)
          refine r_aload_n (pc' := 46) X hl 0 rfl rfl 25 rfl rfl ?_
          refine r_get (pc' := 49) (v := .ref h_sizes) X Y 26 rfl rfl fRX8_16 0 rfl rfl ?_
          refine r_iload_n (pc' := 50) X hl 1 rfl rfl 27 rfl rfl ?_
          refine r_iload_n (pc' := 51) X hl 3 rfl rfl 28 rfl rfl ?_
          refine r_iast (pc' := 52) (ws' := wMS G h h_items h_lanes h_sizes h_firms h_kinds h_now h_before h_images h_tape h_trace h_readFirms h_readKinds h_readAt h_rows h_bests ((ms_status S0), (ms_points S0), (ms_home S0), (ms_men S0), (ms_hasTable S0), (ms_acts S0), (ms_imaged S0), (ms_length S0), (ms_fault S0), (ms_traced S0), (ms_spot S0), (ms_begins S0), (ms_token S0), (ms_number S0), (ms_readPoints S0), (ms_readHome S0), (ms_readMen S0), (ms_otherOne S0), (ms_otherKind S0), (ms_items S0), (upd (ms_lanes S0) (i1).toNatClampNeg i2), (upd (ms_sizes S0) (i1).toNatClampNeg i3), (ms_firms S0), (ms_kinds S0), (ms_now S0), (ms_before S0), (ms_images S0), (ms_tape S0), (ms_trace S0), (ms_readFirms S0), (ms_readKinds S0), (ms_readAt S0), (ms_rows S0), (ms_bests S0))) X Y 29 rfl rfl 3 rfl (vin g7) rfl (fun H locs Y => ?_)
          refine r_iconst (pc' := 53) X (0 : Int32) 30 rfl rfl rfl ?_
          refine r_istore (pc' := 55) (L' := [(4, .int (0 : Int32)), (0, .ref h), (1, .int i1), (2, .int i2), (3, .int i3)]) X hl 31 rfl rfl (by decide) rfl (fun ls hl => ?_)
          obtain ⟨LL8, hL8, hne8, hX8⟩ := mL hM hne
          have KX8 : ∀ (b8 : (Nat → Int32)) (H : Heap) (locs : List Loc) (ls : Array Slot), some b8 = LL8 → rY G A s (wMS G h h_items h_lanes h_sizes h_firms h_kinds h_now h_before h_images h_tape h_trace h_readFirms h_readKinds h_readAt h_rows h_bests ((ms_status S0), (ms_points S0), (ms_home S0), (ms_men S0), (ms_hasTable S0), (ms_acts S0), (ms_imaged S0), (ms_length S0), (ms_fault S0), (ms_traced S0), (ms_spot S0), (ms_begins S0), (ms_token S0), (ms_number S0), (ms_readPoints S0), (ms_readHome S0), (ms_readMen S0), (ms_otherOne S0), (ms_otherKind S0), b8, (upd (ms_lanes S0) (i1).toNatClampNeg i2), (upd (ms_sizes S0) (i1).toNatClampNeg i3), (ms_firms S0), (ms_kinds S0), (ms_now S0), (ms_before S0), (ms_images S0), (ms_tape S0), (ms_trace S0), (ms_readFirms S0), (ms_readKinds S0), (ms_readAt S0), (ms_rows S0), (ms_bests S0))) H locs → lv_has ls 5 [(0, .ref h), (3, .int i3)] → W p l e q_X8_row s m args below meth c H locs 0 0 Q (F0 m 80 ls []) := by
            intro b8 H locs ls hM Y hl
            replace hM := hX8 _ hM
            refine r_aload_n (pc' := 81) X hl 0 rfl rfl 46 rfl rfl ?_
            refine r_iload_n (pc' := 82) X hl 1 rfl rfl 47 rfl rfl ?_
            refine r_callV (pc' := 85) (As := [.int i3]) (rest := []) X Y 48 rfl rfl mRX8_81 (c_X8_well l G h h_items h_lanes h_sizes h_firms h_kinds h_now h_before h_images h_tape h_trace h_readFirms h_readKinds h_readAt h_rows h_bests (((ms_status S0), (ms_points S0), (ms_home S0), (ms_men S0), (ms_hasTable S0), (ms_acts S0), (ms_imaged S0), (ms_length S0), (ms_fault S0), (ms_traced S0), (ms_spot S0), (ms_begins S0), (ms_token S0), (ms_number S0), (ms_readPoints S0), (ms_readHome S0), (ms_readMen S0), (ms_otherOne S0), (ms_otherKind S0), b8, (upd (ms_lanes S0) (i1).toNatClampNeg i2), (upd (ms_sizes S0) (i1).toNatClampNeg i3), (ms_firms S0), (ms_kinds S0), (ms_now S0), (ms_before S0), (ms_images S0), (ms_tape S0), (ms_trace S0), (ms_readFirms S0), (ms_readKinds S0), (ms_readAt S0), (ms_rows S0), (ms_bests S0))) i3) (mB hM hne) 0 rfl rfl [0, 1, 2, 3, 4, 5, 6, 7, 8, 9, 10, 11, 12, 13, 14, 15] [] [0, 1, 2, 3, 4, 5, 6, 7, 8, 9, 10, 11, 12, 13, 14, 15] rfl rfl ⟨rfl, rfl, rfl⟩ rfl (w2 := fun u9 => wMS G h h_items h_lanes h_sizes h_firms h_kinds h_now h_before h_images h_tape h_trace h_readFirms h_readKinds h_readAt h_rows h_bests u9.2) (fun _ => rfl) rfl (Nat.le_of_ble_eq_true rfl) ⟨rfl, rfl⟩ ⟨Nat.le_of_ble_eq_true rfl, Nat.le_of_ble_eq_true rfl⟩ ⟨Nat.zero_le _, Nat.zero_le _⟩ hl.1 (st' := fun u9 => [.int u9.1]) (fun _ => rfl) (fun u9 H locs huu9 Y => ?_)
            replace hM := mS hM huu9
            exact RT (u9.1, u9.2) _ _ _ _ _ hM (Or.inl ⟨rfl, rfl, _, rfl⟩) (X.d (k := 49) rfl) Y
          refine lp_rule (I := fun (st8 : Int32 × (Nat → Int32)) => ∀ (H : Heap) (locs : List Loc) (ls : Array Slot), rY G A s (wMS G h h_items h_lanes h_sizes h_firms h_kinds h_now h_before h_images h_tape h_trace h_readFirms h_readKinds h_readAt h_rows h_bests ((ms_status S0), (ms_points S0), (ms_home S0), (ms_men S0), (ms_hasTable S0), (ms_acts S0), (ms_imaged S0), (ms_length S0), (ms_fault S0), (ms_traced S0), (ms_spot S0), (ms_begins S0), (ms_token S0), (ms_number S0), (ms_readPoints S0), (ms_readHome S0), (ms_readMen S0), (ms_otherOne S0), (ms_otherKind S0), st8.2, (upd (ms_lanes S0) (i1).toNatClampNeg i2), (upd (ms_sizes S0) (i1).toNatClampNeg i3), (ms_firms S0), (ms_kinds S0), (ms_now S0), (ms_before S0), (ms_images S0), (ms_tape S0), (ms_trace S0), (ms_readFirms S0), (ms_readKinds S0), (ms_readAt S0), (ms_rows S0), (ms_bests S0))) H locs → lv_has ls 5 [(0, .ref h), (1, .int i1), (3, .int i3), (4, .int st8.1)] → W p l e q_X8_row s m args below meth c H locs 0 0 Q (F0 m 55 ls [])) hne8 (fun rec8 st8 IH8 hM => ?_) _ _ hL8 _ _ _ Y (lv_sub hl [1, 2, 4, 0] rfl)
          intro H locs ls Y hl
          refine r_iload (pc' := 57) X hl 3 rfl 32 rfl rfl ?_
          refine r_iload_n (pc' := 58) X hl 2 rfl rfl 33 rfl rfl ?_
          refine r_icmp_ge (pc' := 61) X 80 34 rfl rfl (by decide) (fun c10 => ?_) (fun c10 => ?_)
          · replace hM := mI hM c10
            exact KX8 _ _ _ _ hM Y (lv_sub hl [0, 2] rfl)
          · replace hM := mE hM c10
            refine r_aload_n (pc' := 62) X hl 0 rfl rfl 35 rfl rfl ?_
            refine r_get (pc' := 65) (v := .ref h_items) X Y 36 rfl rfl fRX8_7 0 rfl rfl ?_
            refine r_bipush (pc' := 67) X (40 : Int32) 37 rfl rfl rfl ?_
            refine r_iload_n (pc' := 68) X hl 1 rfl rfl 38 rfl rfl ?_
            refine r_imul (pc' := 69) X 39 rfl rfl ?_
            refine r_iload (pc' := 71) X hl 3 rfl 40 rfl rfl ?_
            refine r_iadd (pc' := 72) X 41 rfl rfl ?_
            refine r_iconst (pc' := 73) X (0 : Int32) 42 rfl rfl rfl ?_
            obtain ⟨g11, hM⟩ := mG hM hne8
            refine r_iast (pc' := 74) (ws' := wMS G h h_items h_lanes h_sizes h_firms h_kinds h_now h_before h_images h_tape h_trace h_readFirms h_readKinds h_readAt h_rows h_bests ((ms_status S0), (ms_points S0), (ms_home S0), (ms_men S0), (ms_hasTable S0), (ms_acts S0), (ms_imaged S0), (ms_length S0), (ms_fault S0), (ms_traced S0), (ms_spot S0), (ms_begins S0), (ms_token S0), (ms_number S0), (ms_readPoints S0), (ms_readHome S0), (ms_readMen S0), (ms_otherOne S0), (ms_otherKind S0), (upd st8.2 ((((40 : Int32) * i1) + st8.1)).toNatClampNeg (0 : Int32)), (upd (ms_lanes S0) (i1).toNatClampNeg i2), (upd (ms_sizes S0) (i1).toNatClampNeg i3), (ms_firms S0), (ms_kinds S0), (ms_now S0), (ms_before S0), (ms_images S0), (ms_tape S0), (ms_trace S0), (ms_readFirms S0), (ms_readKinds S0), (ms_readAt S0), (ms_rows S0), (ms_bests S0))) X Y 43 rfl rfl 1 rfl (vin g11) rfl (fun H locs Y => ?_)
            refine r_iinc (pc' := 77) (L' := [(4, .int (st8.1 + (1 : Int32))), (0, .ref h), (1, .int i1), (3, .int i3)]) X (st8.1 + (1 : Int32)) hl 3 rfl rfl 44 rfl rfl (by decide) rfl (fun ls hl => ?_)
            refine r_goto X 55 45 rfl (by decide) ?_
            exact IH8 _ hM _ _ _ Y (lv_sub hl [1, 2, 3, 0] rfl)
        · replace hM := mE hM c6
          refine r_aload_n (pc' := 33) X hl 0 rfl rfl 16 rfl rfl ?_
          refine r_iconst (pc' := 34) X (4 : Int32) 17 rfl rfl rfl ?_
          refine r_callV (pc' := 37) (As := [.int (4 : Int32)]) (rest := []) X Y 18 rfl rfl mRX8_77 (c_X8_found l G h h_items h_lanes h_sizes h_firms h_kinds h_now h_before h_images h_tape h_trace h_readFirms h_readKinds h_readAt h_rows h_bests S0 (4 : Int32)) (mB hM hne) 0 rfl rfl [0, 1, 2, 3, 4, 5, 6, 7, 8, 9, 10, 11, 12, 13, 14, 15] [] [0, 1, 2, 3, 4, 5, 6, 7, 8, 9, 10, 11, 12, 13, 14, 15] rfl rfl ⟨rfl, rfl, rfl⟩ rfl (w2 := fun u12 => wMS G h h_items h_lanes h_sizes h_firms h_kinds h_now h_before h_images h_tape h_trace h_readFirms h_readKinds h_readAt h_rows h_bests u12.2) (fun _ => rfl) rfl (Nat.le_of_ble_eq_true rfl) ⟨rfl, rfl⟩ ⟨Nat.le_of_ble_eq_true rfl, Nat.le_of_ble_eq_true rfl⟩ ⟨Nat.zero_le _, Nat.zero_le _⟩ hl.1 (st' := fun u12 => [.int u12.1]) (fun _ => rfl) (fun u12 H locs huu12 Y => ?_)
          replace hM := mS hM huu12
          exact RT (u12.1, u12.2) _ _ _ _ _ hM (Or.inl ⟨rfl, rfl, _, rfl⟩) (X.d (k := 19) rfl) Y
      · replace hM := mE hM c5
        refine r_ldc (pc' := 27) X mw546 12 rfl rfl ?_
        exact RT ((-1000001 : Int32), S0) _ _ _ _ _ hM (Or.inl ⟨rfl, rfl, _, rfl⟩) (X.d (k := 13) rfl) Y

def M_X8_set (S0 : MS) (i1 : Int32) (i2 : Int32) (i3 : Int32) : Option (Int32 × MS) :=
  ((M_X8_isRow i1).bind (fun u1 => (if u1 = 0 then (some ((-1000001 : Int32), S0)) else (if inb i1 8 = true then (if 0 ≤ ((ms_sizes S0) (i1).toNatClampNeg) then ((M_X8_in ((i2).toInt64) (0 : Int64) (((((ms_sizes S0) (i1).toNatClampNeg) - (1 : Int32))).toInt64)).bind (fun u5 => (if u5 = 0 then ((M_X8_found S0 (2 : Int32)).bind (fun u12 => (some (u12.1, u12.2)))) else (jn (σ := Int32) (fun v7 => (if inb (((40 : Int32) * i1) + i2) 320 = true then ((M_X8_well (((ms_status S0), (ms_points S0), (ms_home S0), (ms_men S0), (ms_hasTable S0), (ms_acts S0), (ms_imaged S0), (ms_length S0), (ms_fault S0), (ms_traced S0), (ms_spot S0), (ms_begins S0), (ms_token S0), (ms_number S0), (ms_readPoints S0), (ms_readHome S0), (ms_readMen S0), (ms_otherOne S0), (ms_otherKind S0), (upd (ms_items S0) ((((40 : Int32) * i1) + i2)).toNatClampNeg v7), (ms_lanes S0), (ms_sizes S0), (ms_firms S0), (ms_kinds S0), (ms_now S0), (ms_before S0), (ms_images S0), (ms_tape S0), (ms_trace S0), (ms_readFirms S0), (ms_readKinds S0), (ms_readAt S0), (ms_rows S0), (ms_bests S0))) (((upd (ms_items S0) ((((40 : Int32) * i1) + i2)).toNatClampNeg v7) ((((40 : Int32) * i1) + i2)).toNatClampNeg))).bind (fun u9 => (some (u9.1, u9.2)))) else none)) (fun J7 => (if ((ms_lanes S0) (i1).toNatClampNeg) = 0 then (J7 ((i3 <<< ((24 : Int32) &&& 31)) >>> ((24 : Int32) &&& 31))) else (if ((ms_lanes S0) (i1).toNatClampNeg) = (1 : Int32) then (J7 ((i3 <<< ((16 : Int32) &&& 31)) >>> ((16 : Int32) &&& 31))) else (J7 i3)))))))) else ((M_X8_found S0 (1 : Int32)).bind (fun u13 => (some (u13.1, u13.2))))) else none))))
def q_X8_set : Room := { frames := 3, cells := 0, slots := 0, locals := 105 }
set_option maxHeartbeats 4000000 in
set_option maxRecDepth 100000 in
theorem c_X8_set (l : Launch) (G : gT) (h h_items h_lanes h_sizes h_firms h_kinds h_now h_before h_images h_tape h_trace h_readFirms h_readKinds h_readAt h_rows h_bests : Nat) (S0 : MS) (i1 : Int32) (i2 : Int32) (i3 : Int32) : CT l G yX8_set cX8_set 4 (some .int) q_X8_set [.ref h, .int i1, .int i2, .int i3] (wMS G h h_items h_lanes h_sizes h_firms h_kinds h_now h_before h_images h_tape h_trace h_readFirms h_readKinds h_readAt h_rows h_bests S0) (M_X8_set S0 i1 i2 i3) (fun u => some (.int u.1)) (fun u => wMS G h h_items h_lanes h_sizes h_firms h_kinds h_now h_before h_images h_tape h_trace h_readFirms h_readKinds h_readAt h_rows h_bests u.2) := by
  refine CT.of (P := PX8_set) (by decide) dPX8_set (Nat.le_of_ble_eq_true rfl) ?_
  intro p e s m args below meth c A Q ls hne X RT Y hl
  have hl : lv_has ls 4 [(0, .ref h), (1, .int i1), (2, .int i2), (3, .int i3)] := hl
  generalize hM : M_X8_set S0 i1 i2 i3 = MM at hne RT
  unfold M_X8_set at hM
  refine r_iload_n (pc' := 1) X hl 1 rfl rfl 0 rfl rfl ?_
  refine r_callS0 (pc' := 4) (As := [.int i1]) (rest := []) X Y 1 rfl rfl mRX8_70 (c_X8_isRow l G i1) (mB hM hne) rfl [] rfl rfl rfl (Nat.le_of_ble_eq_true rfl) ⟨rfl, rfl⟩ ⟨Nat.le_of_ble_eq_true rfl, Nat.le_of_ble_eq_true rfl⟩ ⟨Nat.zero_le _, Nat.zero_le _⟩ hl.1 (st' := fun u1 => [.int u1]) (fun _ => rfl) (fun u1 H locs huu1 Y => ?_)
  replace hM := mS hM huu1
  refine r_if_ne (pc' := 7) X 10 2 rfl rfl (by decide) (fun c2 => ?_) (fun c2 => ?_)
  · replace hM := mE hM c2
    refine r_aload_n (pc' := 11) X hl 0 rfl rfl 5 rfl rfl ?_
    refine r_get (pc' := 14) (v := .ref h_sizes) X Y 6 rfl rfl fRX8_16 0 rfl rfl ?_
    refine r_iload_n (pc' := 15) X hl 1 rfl rfl 7 rfl rfl ?_
    obtain ⟨g3, hM⟩ := mG hM hne
    refine r_iald (pc' := 16) X Y 8 rfl rfl 3 rfl (vin g3) ?_
    refine r_if_ge (pc' := 19) X 25 9 rfl rfl (by decide) (fun c4 => ?_) (fun c4 => ?_)
    · replace hM := mI hM c4
      refine r_iload_n (pc' := 26) X hl 2 rfl rfl 14 rfl rfl ?_
      refine r_i2l (pc' := 27) X 15 rfl rfl ?_
      refine r_lconst (pc' := 28) X (0 : Int64) 16 rfl rfl rfl ?_
      refine r_aload_n (pc' := 29) X hl 0 rfl rfl 17 rfl rfl ?_
      refine r_get (pc' := 32) (v := .ref h_sizes) X Y 18 rfl rfl fRX8_16 0 rfl rfl ?_
      refine r_iload_n (pc' := 33) X hl 1 rfl rfl 19 rfl rfl ?_
      refine r_iald (pc' := 34) X Y 20 rfl rfl 3 rfl (vin g3) ?_
      refine r_iconst (pc' := 35) X (1 : Int32) 21 rfl rfl rfl ?_
      refine r_isub (pc' := 36) X 22 rfl rfl ?_
      refine r_i2l (pc' := 37) X 23 rfl rfl ?_
      refine r_callS0 (pc' := 40) (As := [.long (i2).toInt64, .long (0 : Int64), .long ((((ms_sizes S0) (i1).toNatClampNeg) - (1 : Int32))).toInt64]) (rest := []) X Y 24 rfl rfl mRX8_66 (c_X8_in l G ((i2).toInt64) (0 : Int64) (((((ms_sizes S0) (i1).toNatClampNeg) - (1 : Int32))).toInt64)) (mB hM hne) rfl [] rfl rfl rfl (Nat.le_of_ble_eq_true rfl) ⟨rfl, rfl⟩ ⟨Nat.le_of_ble_eq_true rfl, Nat.le_of_ble_eq_true rfl⟩ ⟨Nat.zero_le _, Nat.zero_le _⟩ hl.1 (st' := fun u5 => [.int u5]) (fun _ => rfl) (fun u5 H locs huu5 Y => ?_)
      replace hM := mS hM huu5
      refine r_if_ne (pc' := 43) X 49 25 rfl rfl (by decide) (fun c6 => ?_) (fun c6 => ?_)
      · replace hM := mE hM c6
        refine r_aload_n (pc' := 50) X hl 0 rfl rfl 30 rfl rfl ?_
        refine r_get (pc' := 53) (v := .ref h_items) X Y 31 rfl rfl fRX8_7 0 rfl rfl ?_
        refine r_bipush (pc' := 55) X (40 : Int32) 32 rfl rfl rfl ?_
        refine r_iload_n (pc' := 56) X hl 1 rfl rfl 33 rfl rfl ?_
        refine r_imul (pc' := 57) X 34 rfl rfl ?_
        refine r_iload_n (pc' := 58) X hl 2 rfl rfl 35 rfl rfl ?_
        refine r_iadd (pc' := 59) X 36 rfl rfl ?_
        refine r_aload_n (pc' := 60) X hl 0 rfl rfl 37 rfl rfl ?_
        refine r_get (pc' := 63) (v := .ref h_lanes) X Y 38 rfl rfl fRX8_13 0 rfl rfl ?_
        refine r_iload_n (pc' := 64) X hl 1 rfl rfl 39 rfl rfl ?_
        refine r_iald (pc' := 65) X Y 40 rfl rfl 2 rfl (vin g3) ?_
        obtain ⟨J7, hJ7, hM⟩ := mJ hM
        have KJ7 : ∀ (v7 : Int32) (H : Heap) (locs : List Loc) (ls : Array Slot), J7 v7 = MM → rY G A s (wMS G h h_items h_lanes h_sizes h_firms h_kinds h_now h_before h_images h_tape h_trace h_readFirms h_readKinds h_readAt h_rows h_bests S0) H locs → lv_has ls 4 [(0, .ref h), (1, .int i1), (2, .int i2)] → W p l e q_X8_set s m args below meth c H locs 0 0 Q (F0 m 99 ls [.int v7, .int (((40 : Int32) * i1) + i2), .ref h_items]) := by
          intro v7 H locs ls hM Y hl
          replace hM := (hJ7 _).symm.trans hM
          obtain ⟨g8, hM⟩ := mG hM hne
          refine r_iast (pc' := 100) (ws' := wMS G h h_items h_lanes h_sizes h_firms h_kinds h_now h_before h_images h_tape h_trace h_readFirms h_readKinds h_readAt h_rows h_bests ((ms_status S0), (ms_points S0), (ms_home S0), (ms_men S0), (ms_hasTable S0), (ms_acts S0), (ms_imaged S0), (ms_length S0), (ms_fault S0), (ms_traced S0), (ms_spot S0), (ms_begins S0), (ms_token S0), (ms_number S0), (ms_readPoints S0), (ms_readHome S0), (ms_readMen S0), (ms_otherOne S0), (ms_otherKind S0), (upd (ms_items S0) ((((40 : Int32) * i1) + i2)).toNatClampNeg v7), (ms_lanes S0), (ms_sizes S0), (ms_firms S0), (ms_kinds S0), (ms_now S0), (ms_before S0), (ms_images S0), (ms_tape S0), (ms_trace S0), (ms_readFirms S0), (ms_readKinds S0), (ms_readAt S0), (ms_rows S0), (ms_bests S0))) X Y 61 rfl rfl 1 rfl (vin g8) rfl (fun H locs Y => ?_)
          refine r_aload_n (pc' := 101) X hl 0 rfl rfl 62 rfl rfl ?_
          refine r_aload_n (pc' := 102) X hl 0 rfl rfl 63 rfl rfl ?_
          refine r_get (pc' := 105) (v := .ref h_items) X Y 64 rfl rfl fRX8_7 0 rfl rfl ?_
          refine r_bipush (pc' := 107) X (40 : Int32) 65 rfl rfl rfl ?_
          refine r_iload_n (pc' := 108) X hl 1 rfl rfl 66 rfl rfl ?_
          refine r_imul (pc' := 109) X 67 rfl rfl ?_
          refine r_iload_n (pc' := 110) X hl 2 rfl rfl 68 rfl rfl ?_
          refine r_iadd (pc' := 111) X 69 rfl rfl ?_
          refine r_iald (pc' := 112) X Y 70 rfl rfl 1 rfl (vin g8) ?_
          refine r_callV (pc' := 115) (As := [.int ((upd (ms_items S0) ((((40 : Int32) * i1) + i2)).toNatClampNeg v7) ((((40 : Int32) * i1) + i2)).toNatClampNeg)]) (rest := []) X Y 71 rfl rfl mRX8_81 (c_X8_well l G h h_items h_lanes h_sizes h_firms h_kinds h_now h_before h_images h_tape h_trace h_readFirms h_readKinds h_readAt h_rows h_bests (((ms_status S0), (ms_points S0), (ms_home S0), (ms_men S0), (ms_hasTable S0), (ms_acts S0), (ms_imaged S0), (ms_length S0), (ms_fault S0), (ms_traced S0), (ms_spot S0), (ms_begins S0), (ms_token S0), (ms_number S0), (ms_readPoints S0), (ms_readHome S0), (ms_readMen S0), (ms_otherOne S0), (ms_otherKind S0), (upd (ms_items S0) ((((40 : Int32) * i1) + i2)).toNatClampNeg v7), (ms_lanes S0), (ms_sizes S0), (ms_firms S0), (ms_kinds S0), (ms_now S0), (ms_before S0), (ms_images S0), (ms_tape S0), (ms_trace S0), (ms_readFirms S0), (ms_readKinds S0), (ms_readAt S0), (ms_rows S0), (ms_bests S0))) (((upd (ms_items S0) ((((40 : Int32) * i1) + i2)).toNatClampNeg v7) ((((40 : Int32) * i1) + i2)).toNatClampNeg))) (mB hM hne) 0 rfl rfl [0, 1, 2, 3, 4, 5, 6, 7, 8, 9, 10, 11, 12, 13, 14, 15] [] [0, 1, 2, 3, 4, 5, 6, 7, 8, 9, 10, 11, 12, 13, 14, 15] rfl rfl ⟨rfl, rfl, rfl⟩ rfl (w2 := fun u9 => wMS G h h_items h_lanes h_sizes h_firms h_kinds h_now h_before h_images h_tape h_trace h_readFirms h_readKinds h_readAt h_rows h_bests u9.2) (fun _ => rfl) rfl (Nat.le_of_ble_eq_true rfl) ⟨rfl, rfl⟩ ⟨Nat.le_of_ble_eq_true rfl, Nat.le_of_ble_eq_true rfl⟩ ⟨Nat.zero_le _, Nat.zero_le _⟩ hl.1 (st' := fun u9 => [.int u9.1]) (fun _ => rfl) (fun u9 H locs huu9 Y => ?_)
          replace hM := mS hM huu9
          exact RT (u9.1, u9.2) _ _ _ _ _ hM (Or.inl ⟨rfl, rfl, _, rfl⟩) (X.d (k := 72) rfl) Y
        refine r_if_ne (pc' := 68) X 78 41 rfl rfl (by decide) (fun c10 => ?_) (fun c10 => ?_)
        · replace hM := mE hM c10
          refine r_aload_n (pc' := 79) X hl 0 rfl rfl 48 rfl rfl ?_
          refine r_get (pc' := 82) (v := .ref h_lanes) X Y 49 rfl rfl fRX8_13 0 rfl rfl ?_
          refine r_iload_n (pc' := 83) X hl 1 rfl rfl 50 rfl rfl ?_
          refine r_iald (pc' := 84) X Y 51 rfl rfl 2 rfl (vin g3) ?_
          refine r_iconst (pc' := 85) X (1 : Int32) 52 rfl rfl rfl ?_
          refine r_icmp_ne (pc' := 88) X 98 53 rfl rfl (by decide) (fun c11 => ?_) (fun c11 => ?_)
          · replace hM := mE hM c11
            refine r_iload_n (pc' := 99) X hl 3 rfl rfl 60 rfl rfl ?_
            exact KJ7 i3 _ _ _ hM Y (lv_sub hl [0, 1, 2] rfl)
          · replace hM := mI hM c11
            refine r_iload_n (pc' := 89) X hl 3 rfl rfl 54 rfl rfl ?_
            refine r_bipush (pc' := 91) X (16 : Int32) 55 rfl rfl rfl ?_
            refine r_ishl (pc' := 92) X 56 rfl rfl ?_
            refine r_bipush (pc' := 94) X (16 : Int32) 57 rfl rfl rfl ?_
            refine r_ishr (pc' := 95) X 58 rfl rfl ?_
            refine r_goto X 99 59 rfl (by decide) ?_
            exact KJ7 ((i3 <<< ((16 : Int32) &&& 31)) >>> ((16 : Int32) &&& 31)) _ _ _ hM Y (lv_sub hl [0, 1, 2] rfl)
        · replace hM := mI hM c10
          refine r_iload_n (pc' := 69) X hl 3 rfl rfl 42 rfl rfl ?_
          refine r_bipush (pc' := 71) X (24 : Int32) 43 rfl rfl rfl ?_
          refine r_ishl (pc' := 72) X 44 rfl rfl ?_
          refine r_bipush (pc' := 74) X (24 : Int32) 45 rfl rfl rfl ?_
          refine r_ishr (pc' := 75) X 46 rfl rfl ?_
          refine r_goto X 99 47 rfl (by decide) ?_
          exact KJ7 ((i3 <<< ((24 : Int32) &&& 31)) >>> ((24 : Int32) &&& 31)) _ _ _ hM Y (lv_sub hl [0, 1, 2] rfl)
      · replace hM := mI hM c6
        refine r_aload_n (pc' := 44) X hl 0 rfl rfl 26 rfl rfl ?_
        refine r_iconst (pc' := 45) X (2 : Int32) 27 rfl rfl rfl ?_
        refine r_callV (pc' := 48) (As := [.int (2 : Int32)]) (rest := []) X Y 28 rfl rfl mRX8_77 (c_X8_found l G h h_items h_lanes h_sizes h_firms h_kinds h_now h_before h_images h_tape h_trace h_readFirms h_readKinds h_readAt h_rows h_bests S0 (2 : Int32)) (mB hM hne) 0 rfl rfl [0, 1, 2, 3, 4, 5, 6, 7, 8, 9, 10, 11, 12, 13, 14, 15] [] [0, 1, 2, 3, 4, 5, 6, 7, 8, 9, 10, 11, 12, 13, 14, 15] rfl rfl ⟨rfl, rfl, rfl⟩ rfl (w2 := fun u12 => wMS G h h_items h_lanes h_sizes h_firms h_kinds h_now h_before h_images h_tape h_trace h_readFirms h_readKinds h_readAt h_rows h_bests u12.2) (fun _ => rfl) rfl (Nat.le_of_ble_eq_true rfl) ⟨rfl, rfl⟩ ⟨Nat.le_of_ble_eq_true rfl, Nat.le_of_ble_eq_true rfl⟩ ⟨Nat.zero_le _, Nat.zero_le _⟩ hl.1 (st' := fun u12 => [.int u12.1]) (fun _ => rfl) (fun u12 H locs huu12 Y => ?_)
        replace hM := mS hM huu12
        exact RT (u12.1, u12.2) _ _ _ _ _ hM (Or.inl ⟨rfl, rfl, _, rfl⟩) (X.d (k := 29) rfl) Y
    · replace hM := mE hM c4
      refine r_aload_n (pc' := 20) X hl 0 rfl rfl 10 rfl rfl ?_
      refine r_iconst (pc' := 21) X (1 : Int32) 11 rfl rfl rfl ?_
      refine r_callV (pc' := 24) (As := [.int (1 : Int32)]) (rest := []) X Y 12 rfl rfl mRX8_77 (c_X8_found l G h h_items h_lanes h_sizes h_firms h_kinds h_now h_before h_images h_tape h_trace h_readFirms h_readKinds h_readAt h_rows h_bests S0 (1 : Int32)) (mB hM hne) 0 rfl rfl [0, 1, 2, 3, 4, 5, 6, 7, 8, 9, 10, 11, 12, 13, 14, 15] [] [0, 1, 2, 3, 4, 5, 6, 7, 8, 9, 10, 11, 12, 13, 14, 15] rfl rfl ⟨rfl, rfl, rfl⟩ rfl (w2 := fun u13 => wMS G h h_items h_lanes h_sizes h_firms h_kinds h_now h_before h_images h_tape h_trace h_readFirms h_readKinds h_readAt h_rows h_bests u13.2) (fun _ => rfl) rfl (Nat.le_of_ble_eq_true rfl) ⟨rfl, rfl⟩ ⟨Nat.le_of_ble_eq_true rfl, Nat.le_of_ble_eq_true rfl⟩ ⟨Nat.zero_le _, Nat.zero_le _⟩ hl.1 (st' := fun u13 => [.int u13.1]) (fun _ => rfl) (fun u13 H locs huu13 Y => ?_)
      replace hM := mS hM huu13
      exact RT (u13.1, u13.2) _ _ _ _ _ hM (Or.inl ⟨rfl, rfl, _, rfl⟩) (X.d (k := 13) rfl) Y
  · replace hM := mI hM c2
    refine r_ldc (pc' := 9) X mw546 3 rfl rfl ?_
    exact RT ((-1000001 : Int32), S0) _ _ _ _ _ hM (Or.inl ⟨rfl, rfl, _, rfl⟩) (X.d (k := 4) rfl) Y

def M_X8_isSpan (S0 : MS) (i1 : Int32) (i2 : Int32) (i3 : Int32) : Option (Int32) :=
  (if i2 < 0 then (some (0 : Int32)) else (if i3 < 0 then (some (0 : Int32)) else (if inb i1 8 = true then (if 0 < (lg_cmp ((i2).toInt64 + (i3).toInt64) (((ms_sizes S0) (i1).toNatClampNeg)).toInt64) then (some (0 : Int32)) else (some (1 : Int32))) else none)))
def q_X8_isSpan : Room := { frames := 1, cells := 0, slots := 0, locals := 60 }
set_option maxHeartbeats 4000000 in
set_option maxRecDepth 100000 in
theorem c_X8_isSpan (l : Launch) (G : gT) (h h_items h_lanes h_sizes h_firms h_kinds h_now h_before h_images h_tape h_trace h_readFirms h_readKinds h_readAt h_rows h_bests : Nat) (S0 : MS) (i1 : Int32) (i2 : Int32) (i3 : Int32) : CT l G yX8_isSpan cX8_isSpan 4 (some .boolean) q_X8_isSpan [.ref h, .int i1, .int i2, .int i3] (wMS G h h_items h_lanes h_sizes h_firms h_kinds h_now h_before h_images h_tape h_trace h_readFirms h_readKinds h_readAt h_rows h_bests S0) (M_X8_isSpan S0 i1 i2 i3) (fun u => some (.int u)) (fun u => wMS G h h_items h_lanes h_sizes h_firms h_kinds h_now h_before h_images h_tape h_trace h_readFirms h_readKinds h_readAt h_rows h_bests S0) := by
  refine CT.of (P := PX8_isSpan) (by decide) dPX8_isSpan (Nat.le_of_ble_eq_true rfl) ?_
  intro p e s m args below meth c A Q ls hne X RT Y hl
  have hl : lv_has ls 4 [(0, .ref h), (1, .int i1), (2, .int i2), (3, .int i3)] := hl
  generalize hM : M_X8_isSpan S0 i1 i2 i3 = MM at hne RT
  unfold M_X8_isSpan at hM
  refine r_iload_n (pc' := 1) X hl 2 rfl rfl 0 rfl rfl ?_
  refine r_if_lt (pc' := 4) X 28 1 rfl rfl (by decide) (fun c1 => ?_) (fun c1 => ?_)
  · replace hM := mI hM c1
    refine r_iconst (pc' := 29) X (0 : Int32) 18 rfl rfl rfl ?_
    exact RT (0 : Int32) _ _ _ _ _ hM (Or.inr (Or.inl ⟨rfl, rfl, _, rfl, nb (Or.inl rfl)⟩)) (X.d (k := 19) rfl) Y
  · replace hM := mE hM c1
    refine r_iload_n (pc' := 5) X hl 3 rfl rfl 2 rfl rfl ?_
    refine r_if_lt (pc' := 8) X 28 3 rfl rfl (by decide) (fun c2 => ?_) (fun c2 => ?_)
    · replace hM := mI hM c2
      refine r_iconst (pc' := 29) X (0 : Int32) 18 rfl rfl rfl ?_
      exact RT (0 : Int32) _ _ _ _ _ hM (Or.inr (Or.inl ⟨rfl, rfl, _, rfl, nb (Or.inl rfl)⟩)) (X.d (k := 19) rfl) Y
    · replace hM := mE hM c2
      refine r_iload_n (pc' := 9) X hl 2 rfl rfl 4 rfl rfl ?_
      refine r_i2l (pc' := 10) X 5 rfl rfl ?_
      refine r_iload_n (pc' := 11) X hl 3 rfl rfl 6 rfl rfl ?_
      refine r_i2l (pc' := 12) X 7 rfl rfl ?_
      refine r_ladd (pc' := 13) X 8 rfl rfl ?_
      refine r_aload_n (pc' := 14) X hl 0 rfl rfl 9 rfl rfl ?_
      refine r_get (pc' := 17) (v := .ref h_sizes) X Y 10 rfl rfl fRX8_16 0 rfl rfl ?_
      refine r_iload_n (pc' := 18) X hl 1 rfl rfl 11 rfl rfl ?_
      obtain ⟨g3, hM⟩ := mG hM hne
      refine r_iald (pc' := 19) X Y 12 rfl rfl 3 rfl (vin g3) ?_
      refine r_i2l (pc' := 20) X 13 rfl rfl ?_
      refine r_lcmp (pc' := 21) X 14 rfl rfl ?_
      refine r_if_gt (pc' := 24) X 28 15 rfl rfl (by decide) (fun c4 => ?_) (fun c4 => ?_)
      · replace hM := mI hM c4
        refine r_iconst (pc' := 29) X (0 : Int32) 18 rfl rfl rfl ?_
        exact RT (0 : Int32) _ _ _ _ _ hM (Or.inr (Or.inl ⟨rfl, rfl, _, rfl, nb (Or.inl rfl)⟩)) (X.d (k := 19) rfl) Y
      · replace hM := mE hM c4
        refine r_iconst (pc' := 25) X (1 : Int32) 16 rfl rfl rfl ?_
        refine r_goto X 29 17 rfl (by decide) ?_
        exact RT (1 : Int32) _ _ _ _ _ hM (Or.inr (Or.inl ⟨rfl, rfl, _, rfl, nb (Or.inr rfl)⟩)) (X.d (k := 19) rfl) Y

def M_X8_copy (S0 : MS) (i1 : Int32) (i2 : Int32) (i3 : Int32) (i4 : Int32) (i5 : Int32) : Option (Int32 × MS) :=
  ((M_X8_isRow i1).bind (fun u1 => (if u1 = 0 then (some ((-1000001 : Int32), S0)) else ((M_X8_isRow i3).bind (fun u3 => (if u3 = 0 then (some ((-1000001 : Int32), S0)) else (if inb i1 8 = true then (jn (σ := Unit) (fun v6 => ((M_X8_found S0 (1 : Int32)).bind (fun u7 => (some (u7.1, u7.2))))) (fun J6 => (if ((ms_sizes S0) (i1).toNatClampNeg) < 0 then (J6 ()) else (if inb i3 8 = true then (if 0 ≤ ((ms_sizes S0) (i3).toNatClampNeg) then (if ((ms_lanes S0) (i1).toNatClampNeg) = ((ms_lanes S0) (i3).toNatClampNeg) then ((M_X8_isSpan S0 i1 i2 i5).bind (fun u12 => (jn (σ := Unit) (fun v13 => ((M_X8_found S0 (2 : Int32)).bind (fun u14 => (some (u14.1, u14.2))))) (fun J13 => (if u12 = 0 then (J13 ()) else ((M_X8_isSpan S0 i3 i4 i5).bind (fun u16 => (if u16 = 0 then (J13 ()) else (jn (σ := Int32) (fun v18 => ((lp (σ := Int32 × (Nat → Int32)) (β := (Nat → Int32)) (fun rec19 st19 => (if i5 ≤ st19.1 then (some st19.2) else (jn (σ := Int32) (fun v22 => (if inb ((((40 : Int32) * i1) + i2) + v22) 320 = true then (if inb ((((40 : Int32) * i3) + i4) + v22) 320 = true then (rec19 ((st19.1 + (1 : Int32)), (upd st19.2 (((((40 : Int32) * i3) + i4) + v22)).toNatClampNeg (st19.2 (((((40 : Int32) * i1) + i2) + v22)).toNatClampNeg)))) else none) else none)) (fun J22 => (if v18 = 0 then (J22 ((i5 - (1 : Int32)) - st19.1)) else (J22 st19.1)))))) 1000000 ((0 : Int32), (ms_items S0))).bind (fun b19 => ((M_X8_well (((ms_status S0), (ms_points S0), (ms_home S0), (ms_men S0), (ms_hasTable S0), (ms_acts S0), (ms_imaged S0), (ms_length S0), (ms_fault S0), (ms_traced S0), (ms_spot S0), (ms_begins S0), (ms_token S0), (ms_number S0), (ms_readPoints S0), (ms_readHome S0), (ms_readMen S0), (ms_otherOne S0), (ms_otherKind S0), b19, (ms_lanes S0), (ms_sizes S0), (ms_firms S0), (ms_kinds S0), (ms_now S0), (ms_before S0), (ms_images S0), (ms_tape S0), (ms_trace S0), (ms_readFirms S0), (ms_readKinds S0), (ms_readAt S0), (ms_rows S0), (ms_bests S0))) i5).bind (fun u20 => (some (u20.1, u20.2))))))) (fun J18 => (if i2 < i4 then (J18 (0 : Int32)) else (J18 (1 : Int32))))))))))))) else ((M_X8_found S0 (5 : Int32)).bind (fun u27 => (some (u27.1, u27.2))))) else (J6 ())) else none)))) else none)))))))
def q_X8_copy : Room := { frames := 3, cells := 0, slots := 0, locals := 105 }
set_option maxHeartbeats 4000000 in
set_option maxRecDepth 100000 in
theorem c_X8_copy (l : Launch) (G : gT) (h h_items h_lanes h_sizes h_firms h_kinds h_now h_before h_images h_tape h_trace h_readFirms h_readKinds h_readAt h_rows h_bests : Nat) (S0 : MS) (i1 : Int32) (i2 : Int32) (i3 : Int32) (i4 : Int32) (i5 : Int32) : CT l G yX8_copy cX8_copy 9 (some .int) q_X8_copy [.ref h, .int i1, .int i2, .int i3, .int i4, .int i5] (wMS G h h_items h_lanes h_sizes h_firms h_kinds h_now h_before h_images h_tape h_trace h_readFirms h_readKinds h_readAt h_rows h_bests S0) (M_X8_copy S0 i1 i2 i3 i4 i5) (fun u => some (.int u.1)) (fun u => wMS G h h_items h_lanes h_sizes h_firms h_kinds h_now h_before h_images h_tape h_trace h_readFirms h_readKinds h_readAt h_rows h_bests u.2) := by
  refine CT.of (P := PX8_copy) (by decide) dPX8_copy (Nat.le_of_ble_eq_true rfl) ?_
  intro p e s m args below meth c A Q ls hne X RT Y hl
  have hl : lv_has ls 9 [(0, .ref h), (1, .int i1), (2, .int i2), (3, .int i3), (4, .int i4), (5, .int i5)] := hl
  generalize hM : M_X8_copy S0 i1 i2 i3 i4 i5 = MM at hne RT
  unfold M_X8_copy at hM
  refine r_iload_n (pc' := 1) X hl 1 rfl rfl 0 rfl rfl ?_
  refine r_callS0 (pc' := 4) (As := [.int i1]) (rest := []) X Y 1 rfl rfl mRX8_70 (c_X8_isRow l G i1) (mB hM hne) rfl [] rfl rfl rfl (Nat.le_of_ble_eq_true rfl) ⟨rfl, rfl⟩ ⟨Nat.le_of_ble_eq_true rfl, Nat.le_of_ble_eq_true rfl⟩ ⟨Nat.zero_le _, Nat.zero_le _⟩ hl.1 (st' := fun u1 => [.int u1]) (fun _ => rfl) (fun u1 H locs huu1 Y => ?_)
  replace hM := mS hM huu1
  refine r_if_eq (pc' := 7) X 14 2 rfl rfl (by decide) (fun c2 => ?_) (fun c2 => ?_)
  · replace hM := mI hM c2
    refine r_ldc (pc' := 16) X mw546 6 rfl rfl ?_
    exact RT ((-1000001 : Int32), S0) _ _ _ _ _ hM (Or.inl ⟨rfl, rfl, _, rfl⟩) (X.d (k := 7) rfl) Y
  · replace hM := mE hM c2
    refine r_iload_n (pc' := 8) X hl 3 rfl rfl 3 rfl rfl ?_
    refine r_callS0 (pc' := 11) (As := [.int i3]) (rest := []) X Y 4 rfl rfl mRX8_70 (c_X8_isRow l G i3) (mB hM hne) rfl [] rfl rfl rfl (Nat.le_of_ble_eq_true rfl) ⟨rfl, rfl⟩ ⟨Nat.le_of_ble_eq_true rfl, Nat.le_of_ble_eq_true rfl⟩ ⟨Nat.zero_le _, Nat.zero_le _⟩ hl.1 (st' := fun u3 => [.int u3]) (fun _ => rfl) (fun u3 H locs huu3 Y => ?_)
    replace hM := mS hM huu3
    refine r_if_ne (pc' := 14) X 17 5 rfl rfl (by decide) (fun c4 => ?_) (fun c4 => ?_)
    · replace hM := mE hM c4
      refine r_aload_n (pc' := 18) X hl 0 rfl rfl 8 rfl rfl ?_
      refine r_get (pc' := 21) (v := .ref h_sizes) X Y 9 rfl rfl fRX8_16 0 rfl rfl ?_
      refine r_iload_n (pc' := 22) X hl 1 rfl rfl 10 rfl rfl ?_
      obtain ⟨g5, hM⟩ := mG hM hne
      refine r_iald (pc' := 23) X Y 11 rfl rfl 3 rfl (vin g5) ?_
      obtain ⟨J6, hJ6, hM⟩ := mJ hM
      have KJ6 : ∀ (v6 : Unit) (H : Heap) (locs : List Loc) (ls : Array Slot), J6 v6 = MM → rY G A s (wMS G h h_items h_lanes h_sizes h_firms h_kinds h_now h_before h_images h_tape h_trace h_readFirms h_readKinds h_readAt h_rows h_bests S0) H locs → lv_has ls 9 [(0, .ref h)] → W p l e q_X8_copy s m args below meth c H locs 0 0 Q (F0 m 35 ls []) := by
        intro v6 H locs ls hM Y hl
        replace hM := (hJ6 _).symm.trans hM
        refine r_aload_n (pc' := 36) X hl 0 rfl rfl 18 rfl rfl ?_
        refine r_iconst (pc' := 37) X (1 : Int32) 19 rfl rfl rfl ?_
        refine r_callV (pc' := 40) (As := [.int (1 : Int32)]) (rest := []) X Y 20 rfl rfl mRX8_77 (c_X8_found l G h h_items h_lanes h_sizes h_firms h_kinds h_now h_before h_images h_tape h_trace h_readFirms h_readKinds h_readAt h_rows h_bests S0 (1 : Int32)) (mB hM hne) 0 rfl rfl [0, 1, 2, 3, 4, 5, 6, 7, 8, 9, 10, 11, 12, 13, 14, 15] [] [0, 1, 2, 3, 4, 5, 6, 7, 8, 9, 10, 11, 12, 13, 14, 15] rfl rfl ⟨rfl, rfl, rfl⟩ rfl (w2 := fun u7 => wMS G h h_items h_lanes h_sizes h_firms h_kinds h_now h_before h_images h_tape h_trace h_readFirms h_readKinds h_readAt h_rows h_bests u7.2) (fun _ => rfl) rfl (Nat.le_of_ble_eq_true rfl) ⟨rfl, rfl⟩ ⟨Nat.le_of_ble_eq_true rfl, Nat.le_of_ble_eq_true rfl⟩ ⟨Nat.zero_le _, Nat.zero_le _⟩ hl.1 (st' := fun u7 => [.int u7.1]) (fun _ => rfl) (fun u7 H locs huu7 Y => ?_)
        replace hM := mS hM huu7
        exact RT (u7.1, u7.2) _ _ _ _ _ hM (Or.inl ⟨rfl, rfl, _, rfl⟩) (X.d (k := 21) rfl) Y
      refine r_if_lt (pc' := 26) X 35 12 rfl rfl (by decide) (fun c8 => ?_) (fun c8 => ?_)
      · replace hM := mI hM c8
        exact KJ6 () _ _ _ hM Y (lv_sub hl [0] rfl)
      · replace hM := mE hM c8
        refine r_aload_n (pc' := 27) X hl 0 rfl rfl 13 rfl rfl ?_
        refine r_get (pc' := 30) (v := .ref h_sizes) X Y 14 rfl rfl fRX8_16 0 rfl rfl ?_
        refine r_iload_n (pc' := 31) X hl 3 rfl rfl 15 rfl rfl ?_
        obtain ⟨g9, hM⟩ := mG hM hne
        refine r_iald (pc' := 32) X Y 16 rfl rfl 3 rfl (vin g9) ?_
        refine r_if_ge (pc' := 35) X 41 17 rfl rfl (by decide) (fun c10 => ?_) (fun c10 => ?_)
        · replace hM := mI hM c10
          refine r_aload_n (pc' := 42) X hl 0 rfl rfl 22 rfl rfl ?_
          refine r_get (pc' := 45) (v := .ref h_lanes) X Y 23 rfl rfl fRX8_13 0 rfl rfl ?_
          refine r_iload_n (pc' := 46) X hl 1 rfl rfl 24 rfl rfl ?_
          refine r_iald (pc' := 47) X Y 25 rfl rfl 2 rfl (vin g5) ?_
          refine r_aload_n (pc' := 48) X hl 0 rfl rfl 26 rfl rfl ?_
          refine r_get (pc' := 51) (v := .ref h_lanes) X Y 27 rfl rfl fRX8_13 0 rfl rfl ?_
          refine r_iload_n (pc' := 52) X hl 3 rfl rfl 28 rfl rfl ?_
          refine r_iald (pc' := 53) X Y 29 rfl rfl 2 rfl (vin g9) ?_
          refine r_icmp_eq (pc' := 56) X 62 30 rfl rfl (by decide) (fun c11 => ?_) (fun c11 => ?_)
          · replace hM := mI hM c11
            refine r_aload_n (pc' := 63) X hl 0 rfl rfl 35 rfl rfl ?_
            refine r_iload_n (pc' := 64) X hl 1 rfl rfl 36 rfl rfl ?_
            refine r_iload_n (pc' := 65) X hl 2 rfl rfl 37 rfl rfl ?_
            refine r_iload (pc' := 67) X hl 5 rfl 38 rfl rfl ?_
            refine r_callV0 (pc' := 70) (As := [.int i1, .int i2, .int i5]) (rest := []) X Y 39 rfl rfl mRX8_84 (c_X8_isSpan l G h h_items h_lanes h_sizes h_firms h_kinds h_now h_before h_images h_tape h_trace h_readFirms h_readKinds h_readAt h_rows h_bests S0 i1 i2 i5) (mB hM hne) 0 rfl rfl [0, 1, 2, 3, 4, 5, 6, 7, 8, 9, 10, 11, 12, 13, 14, 15] rfl rfl rfl (Nat.le_of_ble_eq_true rfl) ⟨rfl, rfl⟩ ⟨Nat.le_of_ble_eq_true rfl, Nat.le_of_ble_eq_true rfl⟩ ⟨Nat.zero_le _, Nat.zero_le _⟩ hl.1 (st' := fun u12 => [.int u12]) (fun _ => rfl) (fun u12 H locs huu12 Y => ?_)
            replace hM := mS hM huu12
            obtain ⟨J13, hJ13, hM⟩ := mJ hM
            have KJ13 : ∀ (v13 : Unit) (H : Heap) (locs : List Loc) (ls : Array Slot), J13 v13 = MM → rY G A s (wMS G h h_items h_lanes h_sizes h_firms h_kinds h_now h_before h_images h_tape h_trace h_readFirms h_readKinds h_readAt h_rows h_bests S0) H locs → lv_has ls 9 [(0, .ref h)] → W p l e q_X8_copy s m args below meth c H locs 0 0 Q (F0 m 85 ls []) := by
              intro v13 H locs ls hM Y hl
              replace hM := (hJ13 _).symm.trans hM
              refine r_aload_n (pc' := 86) X hl 0 rfl rfl 47 rfl rfl ?_
              refine r_iconst (pc' := 87) X (2 : Int32) 48 rfl rfl rfl ?_
              refine r_callV (pc' := 90) (As := [.int (2 : Int32)]) (rest := []) X Y 49 rfl rfl mRX8_77 (c_X8_found l G h h_items h_lanes h_sizes h_firms h_kinds h_now h_before h_images h_tape h_trace h_readFirms h_readKinds h_readAt h_rows h_bests S0 (2 : Int32)) (mB hM hne) 0 rfl rfl [0, 1, 2, 3, 4, 5, 6, 7, 8, 9, 10, 11, 12, 13, 14, 15] [] [0, 1, 2, 3, 4, 5, 6, 7, 8, 9, 10, 11, 12, 13, 14, 15] rfl rfl ⟨rfl, rfl, rfl⟩ rfl (w2 := fun u14 => wMS G h h_items h_lanes h_sizes h_firms h_kinds h_now h_before h_images h_tape h_trace h_readFirms h_readKinds h_readAt h_rows h_bests u14.2) (fun _ => rfl) rfl (Nat.le_of_ble_eq_true rfl) ⟨rfl, rfl⟩ ⟨Nat.le_of_ble_eq_true rfl, Nat.le_of_ble_eq_true rfl⟩ ⟨Nat.zero_le _, Nat.zero_le _⟩ hl.1 (st' := fun u14 => [.int u14.1]) (fun _ => rfl) (fun u14 H locs huu14 Y => ?_)
              replace hM := mS hM huu14
              exact RT (u14.1, u14.2) _ _ _ _ _ hM (Or.inl ⟨rfl, rfl, _, rfl⟩) (X.d (k := 50) rfl) Y
            refine r_if_eq (pc' := 73) X 85 40 rfl rfl (by decide) (fun c15 => ?_) (fun c15 => ?_)
            · replace hM := mI hM c15
              exact KJ13 () _ _ _ hM Y (lv_sub hl [0] rfl)
            · replace hM := mE hM c15
              refine r_aload_n (pc' := 74) X hl 0 rfl rfl 41 rfl rfl ?_
              refine r_iload_n (pc' := 75) X hl 3 rfl rfl 42 rfl rfl ?_
              refine r_iload (pc' := 77) X hl 4 rfl 43 rfl rfl ?_
              refine r_iload (pc' := 79) X hl 5 rfl 44 rfl rfl ?_
              refine r_callV0 (pc' := 82) (As := [.int i3, .int i4, .int i5]) (rest := []) X Y 45 rfl rfl mRX8_84 (c_X8_isSpan l G h h_items h_lanes h_sizes h_firms h_kinds h_now h_before h_images h_tape h_trace h_readFirms h_readKinds h_readAt h_rows h_bests S0 i3 i4 i5) (mB hM hne) 0 rfl rfl [0, 1, 2, 3, 4, 5, 6, 7, 8, 9, 10, 11, 12, 13, 14, 15] rfl rfl rfl (Nat.le_of_ble_eq_true rfl) ⟨rfl, rfl⟩ ⟨Nat.le_of_ble_eq_true rfl, Nat.le_of_ble_eq_true rfl⟩ ⟨Nat.zero_le _, Nat.zero_le _⟩ hl.1 (st' := fun u16 => [.int u16]) (fun _ => rfl) (fun u16 H locs huu16 Y => ?_)
              replace hM := mS hM huu16
              refine r_if_ne (pc' := 85) X 91 46 rfl rfl (by decide) (fun c17 => ?_) (fun c17 => ?_)
              · replace hM := mE hM c17
                refine r_iload_n (pc' := 92) X hl 2 rfl rfl 51 rfl rfl ?_
                refine r_iload (pc' := 94) X hl 4 rfl 52 rfl rfl ?_
                obtain ⟨J18, hJ18, hM⟩ := mJ hM
                have KJ18 : ∀ (v18 : Int32) (H : Heap) (locs : List Loc) (ls : Array Slot), J18 v18 = MM → rY G A s (wMS G h h_items h_lanes h_sizes h_firms h_kinds h_now h_before h_images h_tape h_trace h_readFirms h_readKinds h_readAt h_rows h_bests S0) H locs → lv_has ls 9 [(0, .ref h), (1, .int i1), (2, .int i2), (3, .int i3), (4, .int i4), (5, .int i5)] → W p l e q_X8_copy s m args below meth c H locs 0 0 Q (F0 m 102 ls [.int v18]) := by
                  intro v18 H locs ls hM Y hl
                  replace hM := (hJ18 _).symm.trans hM
                  refine r_istore (pc' := 104) (L' := [(6, .int v18), (0, .ref h), (1, .int i1), (2, .int i2), (3, .int i3), (4, .int i4), (5, .int i5)]) X hl 57 rfl rfl (by decide) rfl (fun ls hl => ?_)
                  refine r_iconst (pc' := 105) X (0 : Int32) 58 rfl rfl rfl ?_
                  refine r_istore (pc' := 107) (L' := [(7, .int (0 : Int32)), (6, .int v18), (0, .ref h), (1, .int i1), (2, .int i2), (3, .int i3), (4, .int i4), (5, .int i5)]) X hl 59 rfl rfl (by decide) rfl (fun ls hl => ?_)
                  obtain ⟨LL19, hL19, hne19, hX19⟩ := mL hM hne
                  have KX19 : ∀ (b19 : (Nat → Int32)) (H : Heap) (locs : List Loc) (ls : Array Slot), some b19 = LL19 → rY G A s (wMS G h h_items h_lanes h_sizes h_firms h_kinds h_now h_before h_images h_tape h_trace h_readFirms h_readKinds h_readAt h_rows h_bests ((ms_status S0), (ms_points S0), (ms_home S0), (ms_men S0), (ms_hasTable S0), (ms_acts S0), (ms_imaged S0), (ms_length S0), (ms_fault S0), (ms_traced S0), (ms_spot S0), (ms_begins S0), (ms_token S0), (ms_number S0), (ms_readPoints S0), (ms_readHome S0), (ms_readMen S0), (ms_otherOne S0), (ms_otherKind S0), b19, (ms_lanes S0), (ms_sizes S0), (ms_firms S0), (ms_kinds S0), (ms_now S0), (ms_before S0), (ms_images S0), (ms_tape S0), (ms_trace S0), (ms_readFirms S0), (ms_readKinds S0), (ms_readAt S0), (ms_rows S0), (ms_bests S0))) H locs → lv_has ls 9 [(0, .ref h), (5, .int i5)] → W p l e q_X8_copy s m args below meth c H locs 0 0 Q (F0 m 168 ls []) := by
                    intro b19 H locs ls hM Y hl
                    replace hM := hX19 _ hM
                    refine r_aload_n (pc' := 169) X hl 0 rfl rfl 95 rfl rfl ?_
                    refine r_iload (pc' := 171) X hl 1 rfl 96 rfl rfl ?_
                    refine r_callV (pc' := 174) (As := [.int i5]) (rest := []) X Y 97 rfl rfl mRX8_81 (c_X8_well l G h h_items h_lanes h_sizes h_firms h_kinds h_now h_before h_images h_tape h_trace h_readFirms h_readKinds h_readAt h_rows h_bests (((ms_status S0), (ms_points S0), (ms_home S0), (ms_men S0), (ms_hasTable S0), (ms_acts S0), (ms_imaged S0), (ms_length S0), (ms_fault S0), (ms_traced S0), (ms_spot S0), (ms_begins S0), (ms_token S0), (ms_number S0), (ms_readPoints S0), (ms_readHome S0), (ms_readMen S0), (ms_otherOne S0), (ms_otherKind S0), b19, (ms_lanes S0), (ms_sizes S0), (ms_firms S0), (ms_kinds S0), (ms_now S0), (ms_before S0), (ms_images S0), (ms_tape S0), (ms_trace S0), (ms_readFirms S0), (ms_readKinds S0), (ms_readAt S0), (ms_rows S0), (ms_bests S0))) i5) (mB hM hne) 0 rfl rfl [0, 1, 2, 3, 4, 5, 6, 7, 8, 9, 10, 11, 12, 13, 14, 15] [] [0, 1, 2, 3, 4, 5, 6, 7, 8, 9, 10, 11, 12, 13, 14, 15] rfl rfl ⟨rfl, rfl, rfl⟩ rfl (w2 := fun u20 => wMS G h h_items h_lanes h_sizes h_firms h_kinds h_now h_before h_images h_tape h_trace h_readFirms h_readKinds h_readAt h_rows h_bests u20.2) (fun _ => rfl) rfl (Nat.le_of_ble_eq_true rfl) ⟨rfl, rfl⟩ ⟨Nat.le_of_ble_eq_true rfl, Nat.le_of_ble_eq_true rfl⟩ ⟨Nat.zero_le _, Nat.zero_le _⟩ hl.1 (st' := fun u20 => [.int u20.1]) (fun _ => rfl) (fun u20 H locs huu20 Y => ?_)
                    replace hM := mS hM huu20
                    exact RT (u20.1, u20.2) _ _ _ _ _ hM (Or.inl ⟨rfl, rfl, _, rfl⟩) (X.d (k := 98) rfl) Y
                  refine lp_rule (I := fun (st19 : Int32 × (Nat → Int32)) => ∀ (H : Heap) (locs : List Loc) (ls : Array Slot), rY G A s (wMS G h h_items h_lanes h_sizes h_firms h_kinds h_now h_before h_images h_tape h_trace h_readFirms h_readKinds h_readAt h_rows h_bests ((ms_status S0), (ms_points S0), (ms_home S0), (ms_men S0), (ms_hasTable S0), (ms_acts S0), (ms_imaged S0), (ms_length S0), (ms_fault S0), (ms_traced S0), (ms_spot S0), (ms_begins S0), (ms_token S0), (ms_number S0), (ms_readPoints S0), (ms_readHome S0), (ms_readMen S0), (ms_otherOne S0), (ms_otherKind S0), st19.2, (ms_lanes S0), (ms_sizes S0), (ms_firms S0), (ms_kinds S0), (ms_now S0), (ms_before S0), (ms_images S0), (ms_tape S0), (ms_trace S0), (ms_readFirms S0), (ms_readKinds S0), (ms_readAt S0), (ms_rows S0), (ms_bests S0))) H locs → lv_has ls 9 [(0, .ref h), (1, .int i1), (2, .int i2), (3, .int i3), (4, .int i4), (5, .int i5), (6, .int v18), (7, .int st19.1)] → W p l e q_X8_copy s m args below meth c H locs 0 0 Q (F0 m 107 ls [])) hne19 (fun rec19 st19 IH19 hM => ?_) _ _ hL19 _ _ _ Y (lv_sub hl [2, 3, 4, 5, 6, 7, 1, 0] rfl)
                  intro H locs ls Y hl
                  refine r_iload (pc' := 109) X hl 7 rfl 60 rfl rfl ?_
                  refine r_iload (pc' := 111) X hl 5 rfl 61 rfl rfl ?_
                  refine r_icmp_ge (pc' := 114) X 168 62 rfl rfl (by decide) (fun c21 => ?_) (fun c21 => ?_)
                  · replace hM := mI hM c21
                    exact KX19 _ _ _ _ hM Y (lv_sub hl [0, 5] rfl)
                  · replace hM := mE hM c21
                    refine r_iload (pc' := 116) X hl 6 rfl 63 rfl rfl ?_
                    obtain ⟨J22, hJ22, hM⟩ := mJ hM
                    have KJ22 : ∀ (v22 : Int32) (H : Heap) (locs : List Loc) (ls : Array Slot), J22 v22 = LL19 → rY G A s (wMS G h h_items h_lanes h_sizes h_firms h_kinds h_now h_before h_images h_tape h_trace h_readFirms h_readKinds h_readAt h_rows h_bests ((ms_status S0), (ms_points S0), (ms_home S0), (ms_men S0), (ms_hasTable S0), (ms_acts S0), (ms_imaged S0), (ms_length S0), (ms_fault S0), (ms_traced S0), (ms_spot S0), (ms_begins S0), (ms_token S0), (ms_number S0), (ms_readPoints S0), (ms_readHome S0), (ms_readMen S0), (ms_otherOne S0), (ms_otherKind S0), st19.2, (ms_lanes S0), (ms_sizes S0), (ms_firms S0), (ms_kinds S0), (ms_now S0), (ms_before S0), (ms_images S0), (ms_tape S0), (ms_trace S0), (ms_readFirms S0), (ms_readKinds S0), (ms_readAt S0), (ms_rows S0), (ms_bests S0))) H locs → lv_has ls 9 [(0, .ref h), (1, .int i1), (2, .int i2), (3, .int i3), (4, .int i4), (5, .int i5), (6, .int v18), (7, .int st19.1)] → W p l e q_X8_copy s m args below meth c H locs 0 0 Q (F0 m 131 ls [.int v22]) := by
                      intro v22 H locs ls hM Y hl
                      replace hM := (hJ22 _).symm.trans hM
                      refine r_istore (pc' := 133) (L' := [(8, .int v22), (0, .ref h), (1, .int i1), (2, .int i2), (3, .int i3), (4, .int i4), (5, .int i5), (6, .int v18), (7, .int st19.1)]) X hl 72 rfl rfl (by decide) rfl (fun ls hl => ?_)
                      refine r_aload_n (pc' := 134) X hl 1 rfl rfl 73 rfl rfl ?_
                      refine r_get (pc' := 137) (v := .ref h_items) X Y 74 rfl rfl fRX8_7 0 rfl rfl ?_
                      refine r_bipush (pc' := 139) X (40 : Int32) 75 rfl rfl rfl ?_
                      refine r_iload_n (pc' := 140) X hl 4 rfl rfl 76 rfl rfl ?_
                      refine r_imul (pc' := 141) X 77 rfl rfl ?_
                      refine r_iload (pc' := 143) X hl 5 rfl 78 rfl rfl ?_
                      refine r_iadd (pc' := 144) X 79 rfl rfl ?_
                      refine r_iload (pc' := 146) X hl 0 rfl 80 rfl rfl ?_
                      refine r_iadd (pc' := 147) X 81 rfl rfl ?_
                      refine r_aload_n (pc' := 148) X hl 1 rfl rfl 82 rfl rfl ?_
                      refine r_get (pc' := 151) (v := .ref h_items) X Y 83 rfl rfl fRX8_7 0 rfl rfl ?_
                      refine r_bipush (pc' := 153) X (40 : Int32) 84 rfl rfl rfl ?_
                      refine r_iload_n (pc' := 154) X hl 2 rfl rfl 85 rfl rfl ?_
                      refine r_imul (pc' := 155) X 86 rfl rfl ?_
                      refine r_iload_n (pc' := 156) X hl 3 rfl rfl 87 rfl rfl ?_
                      refine r_iadd (pc' := 157) X 88 rfl rfl ?_
                      refine r_iload (pc' := 159) X hl 0 rfl 89 rfl rfl ?_
                      refine r_iadd (pc' := 160) X 90 rfl rfl ?_
                      obtain ⟨g23, hM⟩ := mG hM hne19
                      refine r_iald (pc' := 161) X Y 91 rfl rfl 1 rfl (vin g23) ?_
                      obtain ⟨g24, hM⟩ := mG hM hne19
                      refine r_iast (pc' := 162) (ws' := wMS G h h_items h_lanes h_sizes h_firms h_kinds h_now h_before h_images h_tape h_trace h_readFirms h_readKinds h_readAt h_rows h_bests ((ms_status S0), (ms_points S0), (ms_home S0), (ms_men S0), (ms_hasTable S0), (ms_acts S0), (ms_imaged S0), (ms_length S0), (ms_fault S0), (ms_traced S0), (ms_spot S0), (ms_begins S0), (ms_token S0), (ms_number S0), (ms_readPoints S0), (ms_readHome S0), (ms_readMen S0), (ms_otherOne S0), (ms_otherKind S0), (upd st19.2 (((((40 : Int32) * i3) + i4) + v22)).toNatClampNeg (st19.2 (((((40 : Int32) * i1) + i2) + v22)).toNatClampNeg)), (ms_lanes S0), (ms_sizes S0), (ms_firms S0), (ms_kinds S0), (ms_now S0), (ms_before S0), (ms_images S0), (ms_tape S0), (ms_trace S0), (ms_readFirms S0), (ms_readKinds S0), (ms_readAt S0), (ms_rows S0), (ms_bests S0))) X Y 92 rfl rfl 1 rfl (vin g24) rfl (fun H locs Y => ?_)
                      refine r_iinc (pc' := 165) (L' := [(7, .int (st19.1 + (1 : Int32))), (8, .int v22), (0, .ref h), (1, .int i1), (2, .int i2), (3, .int i3), (4, .int i4), (5, .int i5), (6, .int v18)]) X (st19.1 + (1 : Int32)) hl 8 rfl rfl 93 rfl rfl (by decide) rfl (fun ls hl => ?_)
                      refine r_goto X 107 94 rfl (by decide) ?_
                      exact IH19 _ hM _ _ _ Y (lv_sub hl [2, 3, 4, 5, 6, 7, 8, 0] rfl)
                    refine r_if_eq (pc' := 119) X 124 64 rfl rfl (by decide) (fun c25 => ?_) (fun c25 => ?_)
                    · replace hM := mI hM c25
                      refine r_iload (pc' := 126) X hl 5 rfl 67 rfl rfl ?_
                      refine r_iconst (pc' := 127) X (1 : Int32) 68 rfl rfl rfl ?_
                      refine r_isub (pc' := 128) X 69 rfl rfl ?_
                      refine r_iload (pc' := 130) X hl 7 rfl 70 rfl rfl ?_
                      refine r_isub (pc' := 131) X 71 rfl rfl ?_
                      exact KJ22 ((i5 - (1 : Int32)) - st19.1) _ _ _ hM Y (lv_sub hl [0, 1, 2, 3, 4, 5, 6, 7] rfl)
                    · replace hM := mE hM c25
                      refine r_iload (pc' := 121) X hl 7 rfl 65 rfl rfl ?_
                      refine r_goto X 131 66 rfl (by decide) ?_
                      exact KJ22 st19.1 _ _ _ hM Y (lv_sub hl [0, 1, 2, 3, 4, 5, 6, 7] rfl)
                refine r_icmp_lt (pc' := 97) X 101 53 rfl rfl (by decide) (fun c26 => ?_) (fun c26 => ?_)
                · replace hM := mI hM c26
                  refine r_iconst (pc' := 102) X (0 : Int32) 56 rfl rfl rfl ?_
                  exact KJ18 (0 : Int32) _ _ _ hM Y (lv_sub hl [0, 1, 2, 3, 4, 5] rfl)
                · replace hM := mE hM c26
                  refine r_iconst (pc' := 98) X (1 : Int32) 54 rfl rfl rfl ?_
                  refine r_goto X 102 55 rfl (by decide) ?_
                  exact KJ18 (1 : Int32) _ _ _ hM Y (lv_sub hl [0, 1, 2, 3, 4, 5] rfl)
              · replace hM := mI hM c17
                exact KJ13 () _ _ _ hM Y (lv_sub hl [0] rfl)
          · replace hM := mE hM c11
            refine r_aload_n (pc' := 57) X hl 0 rfl rfl 31 rfl rfl ?_
            refine r_iconst (pc' := 58) X (5 : Int32) 32 rfl rfl rfl ?_
            refine r_callV (pc' := 61) (As := [.int (5 : Int32)]) (rest := []) X Y 33 rfl rfl mRX8_77 (c_X8_found l G h h_items h_lanes h_sizes h_firms h_kinds h_now h_before h_images h_tape h_trace h_readFirms h_readKinds h_readAt h_rows h_bests S0 (5 : Int32)) (mB hM hne) 0 rfl rfl [0, 1, 2, 3, 4, 5, 6, 7, 8, 9, 10, 11, 12, 13, 14, 15] [] [0, 1, 2, 3, 4, 5, 6, 7, 8, 9, 10, 11, 12, 13, 14, 15] rfl rfl ⟨rfl, rfl, rfl⟩ rfl (w2 := fun u27 => wMS G h h_items h_lanes h_sizes h_firms h_kinds h_now h_before h_images h_tape h_trace h_readFirms h_readKinds h_readAt h_rows h_bests u27.2) (fun _ => rfl) rfl (Nat.le_of_ble_eq_true rfl) ⟨rfl, rfl⟩ ⟨Nat.le_of_ble_eq_true rfl, Nat.le_of_ble_eq_true rfl⟩ ⟨Nat.zero_le _, Nat.zero_le _⟩ hl.1 (st' := fun u27 => [.int u27.1]) (fun _ => rfl) (fun u27 H locs huu27 Y => ?_)
            replace hM := mS hM huu27
            exact RT (u27.1, u27.2) _ _ _ _ _ hM (Or.inl ⟨rfl, rfl, _, rfl⟩) (X.d (k := 34) rfl) Y
        · replace hM := mE hM c10
          exact KJ6 () _ _ _ hM Y (lv_sub hl [0] rfl)
    · replace hM := mI hM c4
      refine r_ldc (pc' := 16) X mw546 6 rfl rfl ?_
      exact RT ((-1000001 : Int32), S0) _ _ _ _ _ hM (Or.inl ⟨rfl, rfl, _, rfl⟩) (X.d (k := 7) rfl) Y

def M_X8_drop (S0 : MS) (i1 : Int32) : Option (Int32 × MS) :=
  ((M_X8_isRow i1).bind (fun u1 => (if u1 = 0 then (some ((-1000001 : Int32), S0)) else (if inb i1 8 = true then (if 0 ≤ ((ms_sizes S0) (i1).toNatClampNeg) then ((M_X8_well (((ms_status S0), (ms_points S0), (ms_home S0), (ms_men S0), (ms_hasTable S0), (ms_acts S0), (ms_imaged S0), (ms_length S0), (ms_fault S0), (ms_traced S0), (ms_spot S0), (ms_begins S0), (ms_token S0), (ms_number S0), (ms_readPoints S0), (ms_readHome S0), (ms_readMen S0), (ms_otherOne S0), (ms_otherKind S0), (ms_items S0), (ms_lanes S0), (upd (ms_sizes S0) (i1).toNatClampNeg (-1 : Int32)), (ms_firms S0), (ms_kinds S0), (ms_now S0), (ms_before S0), (ms_images S0), (ms_tape S0), (ms_trace S0), (ms_readFirms S0), (ms_readKinds S0), (ms_readAt S0), (ms_rows S0), (ms_bests S0))) (((ms_sizes S0) (i1).toNatClampNeg))).bind (fun u5 => (some (u5.1, u5.2)))) else ((M_X8_found S0 (1 : Int32)).bind (fun u6 => (some (u6.1, u6.2))))) else none))))
def q_X8_drop : Room := { frames := 3, cells := 0, slots := 0, locals := 105 }
set_option maxHeartbeats 4000000 in
set_option maxRecDepth 100000 in
theorem c_X8_drop (l : Launch) (G : gT) (h h_items h_lanes h_sizes h_firms h_kinds h_now h_before h_images h_tape h_trace h_readFirms h_readKinds h_readAt h_rows h_bests : Nat) (S0 : MS) (i1 : Int32) : CT l G yX8_drop cX8_drop 3 (some .int) q_X8_drop [.ref h, .int i1] (wMS G h h_items h_lanes h_sizes h_firms h_kinds h_now h_before h_images h_tape h_trace h_readFirms h_readKinds h_readAt h_rows h_bests S0) (M_X8_drop S0 i1) (fun u => some (.int u.1)) (fun u => wMS G h h_items h_lanes h_sizes h_firms h_kinds h_now h_before h_images h_tape h_trace h_readFirms h_readKinds h_readAt h_rows h_bests u.2) := by
  refine CT.of (P := PX8_drop) (by decide) dPX8_drop (Nat.le_of_ble_eq_true rfl) ?_
  intro p e s m args below meth c A Q ls hne X RT Y hl
  have hl : lv_has ls 3 [(0, .ref h), (1, .int i1)] := hl
  generalize hM : M_X8_drop S0 i1 = MM at hne RT
  unfold M_X8_drop at hM
  refine r_iload_n (pc' := 1) X hl 1 rfl rfl 0 rfl rfl ?_
  refine r_callS0 (pc' := 4) (As := [.int i1]) (rest := []) X Y 1 rfl rfl mRX8_70 (c_X8_isRow l G i1) (mB hM hne) rfl [] rfl rfl rfl (Nat.le_of_ble_eq_true rfl) ⟨rfl, rfl⟩ ⟨Nat.le_of_ble_eq_true rfl, Nat.le_of_ble_eq_true rfl⟩ ⟨Nat.zero_le _, Nat.zero_le _⟩ hl.1 (st' := fun u1 => [.int u1]) (fun _ => rfl) (fun u1 H locs huu1 Y => ?_)
  replace hM := mS hM huu1
  refine r_if_ne (pc' := 7) X 10 2 rfl rfl (by decide) (fun c2 => ?_) (fun c2 => ?_)
  · replace hM := mE hM c2
    refine r_aload_n (pc' := 11) X hl 0 rfl rfl 5 rfl rfl ?_
    refine r_get (pc' := 14) (v := .ref h_sizes) X Y 6 rfl rfl fRX8_16 0 rfl rfl ?_
    refine r_iload_n (pc' := 15) X hl 1 rfl rfl 7 rfl rfl ?_
    obtain ⟨g3, hM⟩ := mG hM hne
    refine r_iald (pc' := 16) X Y 8 rfl rfl 3 rfl (vin g3) ?_
    refine r_if_ge (pc' := 19) X 25 9 rfl rfl (by decide) (fun c4 => ?_) (fun c4 => ?_)
    · replace hM := mI hM c4
      refine r_aload_n (pc' := 26) X hl 0 rfl rfl 14 rfl rfl ?_
      refine r_get (pc' := 29) (v := .ref h_sizes) X Y 15 rfl rfl fRX8_16 0 rfl rfl ?_
      refine r_iload_n (pc' := 30) X hl 1 rfl rfl 16 rfl rfl ?_
      refine r_iald (pc' := 31) X Y 17 rfl rfl 3 rfl (vin g3) ?_
      refine r_istore_n (pc' := 32) (L' := [(2, .int ((ms_sizes S0) (i1).toNatClampNeg)), (0, .ref h), (1, .int i1)]) X hl rfl 18 rfl rfl (by decide) rfl (fun ls hl => ?_)
      refine r_aload_n (pc' := 33) X hl 1 rfl rfl 19 rfl rfl ?_
      refine r_get (pc' := 36) (v := .ref h_sizes) X Y 20 rfl rfl fRX8_16 0 rfl rfl ?_
      refine r_iload_n (pc' := 37) X hl 2 rfl rfl 21 rfl rfl ?_
      refine r_iconst (pc' := 38) X (-1 : Int32) 22 rfl rfl rfl ?_
      refine r_iast (pc' := 39) (ws' := wMS G h h_items h_lanes h_sizes h_firms h_kinds h_now h_before h_images h_tape h_trace h_readFirms h_readKinds h_readAt h_rows h_bests ((ms_status S0), (ms_points S0), (ms_home S0), (ms_men S0), (ms_hasTable S0), (ms_acts S0), (ms_imaged S0), (ms_length S0), (ms_fault S0), (ms_traced S0), (ms_spot S0), (ms_begins S0), (ms_token S0), (ms_number S0), (ms_readPoints S0), (ms_readHome S0), (ms_readMen S0), (ms_otherOne S0), (ms_otherKind S0), (ms_items S0), (ms_lanes S0), (upd (ms_sizes S0) (i1).toNatClampNeg (-1 : Int32)), (ms_firms S0), (ms_kinds S0), (ms_now S0), (ms_before S0), (ms_images S0), (ms_tape S0), (ms_trace S0), (ms_readFirms S0), (ms_readKinds S0), (ms_readAt S0), (ms_rows S0), (ms_bests S0))) X Y 23 rfl rfl 3 rfl (vin g3) rfl (fun H locs Y => ?_)
      refine r_aload_n (pc' := 40) X hl 1 rfl rfl 24 rfl rfl ?_
      refine r_iload_n (pc' := 41) X hl 0 rfl rfl 25 rfl rfl ?_
      refine r_callV (pc' := 44) (As := [.int ((ms_sizes S0) (i1).toNatClampNeg)]) (rest := []) X Y 26 rfl rfl mRX8_81 (c_X8_well l G h h_items h_lanes h_sizes h_firms h_kinds h_now h_before h_images h_tape h_trace h_readFirms h_readKinds h_readAt h_rows h_bests (((ms_status S0), (ms_points S0), (ms_home S0), (ms_men S0), (ms_hasTable S0), (ms_acts S0), (ms_imaged S0), (ms_length S0), (ms_fault S0), (ms_traced S0), (ms_spot S0), (ms_begins S0), (ms_token S0), (ms_number S0), (ms_readPoints S0), (ms_readHome S0), (ms_readMen S0), (ms_otherOne S0), (ms_otherKind S0), (ms_items S0), (ms_lanes S0), (upd (ms_sizes S0) (i1).toNatClampNeg (-1 : Int32)), (ms_firms S0), (ms_kinds S0), (ms_now S0), (ms_before S0), (ms_images S0), (ms_tape S0), (ms_trace S0), (ms_readFirms S0), (ms_readKinds S0), (ms_readAt S0), (ms_rows S0), (ms_bests S0))) (((ms_sizes S0) (i1).toNatClampNeg))) (mB hM hne) 0 rfl rfl [0, 1, 2, 3, 4, 5, 6, 7, 8, 9, 10, 11, 12, 13, 14, 15] [] [0, 1, 2, 3, 4, 5, 6, 7, 8, 9, 10, 11, 12, 13, 14, 15] rfl rfl ⟨rfl, rfl, rfl⟩ rfl (w2 := fun u5 => wMS G h h_items h_lanes h_sizes h_firms h_kinds h_now h_before h_images h_tape h_trace h_readFirms h_readKinds h_readAt h_rows h_bests u5.2) (fun _ => rfl) rfl (Nat.le_of_ble_eq_true rfl) ⟨rfl, rfl⟩ ⟨Nat.le_of_ble_eq_true rfl, Nat.le_of_ble_eq_true rfl⟩ ⟨Nat.zero_le _, Nat.zero_le _⟩ hl.1 (st' := fun u5 => [.int u5.1]) (fun _ => rfl) (fun u5 H locs huu5 Y => ?_)
      replace hM := mS hM huu5
      exact RT (u5.1, u5.2) _ _ _ _ _ hM (Or.inl ⟨rfl, rfl, _, rfl⟩) (X.d (k := 27) rfl) Y
    · replace hM := mE hM c4
      refine r_aload_n (pc' := 20) X hl 0 rfl rfl 10 rfl rfl ?_
      refine r_iconst (pc' := 21) X (1 : Int32) 11 rfl rfl rfl ?_
      refine r_callV (pc' := 24) (As := [.int (1 : Int32)]) (rest := []) X Y 12 rfl rfl mRX8_77 (c_X8_found l G h h_items h_lanes h_sizes h_firms h_kinds h_now h_before h_images h_tape h_trace h_readFirms h_readKinds h_readAt h_rows h_bests S0 (1 : Int32)) (mB hM hne) 0 rfl rfl [0, 1, 2, 3, 4, 5, 6, 7, 8, 9, 10, 11, 12, 13, 14, 15] [] [0, 1, 2, 3, 4, 5, 6, 7, 8, 9, 10, 11, 12, 13, 14, 15] rfl rfl ⟨rfl, rfl, rfl⟩ rfl (w2 := fun u6 => wMS G h h_items h_lanes h_sizes h_firms h_kinds h_now h_before h_images h_tape h_trace h_readFirms h_readKinds h_readAt h_rows h_bests u6.2) (fun _ => rfl) rfl (Nat.le_of_ble_eq_true rfl) ⟨rfl, rfl⟩ ⟨Nat.le_of_ble_eq_true rfl, Nat.le_of_ble_eq_true rfl⟩ ⟨Nat.zero_le _, Nat.zero_le _⟩ hl.1 (st' := fun u6 => [.int u6.1]) (fun _ => rfl) (fun u6 H locs huu6 Y => ?_)
      replace hM := mS hM huu6
      exact RT (u6.1, u6.2) _ _ _ _ _ hM (Or.inl ⟨rfl, rfl, _, rfl⟩) (X.d (k := 13) rfl) Y
  · replace hM := mI hM c2
    refine r_ldc (pc' := 9) X mw546 3 rfl rfl ?_
    exact RT ((-1000001 : Int32), S0) _ _ _ _ _ hM (Or.inl ⟨rfl, rfl, _, rfl⟩) (X.d (k := 4) rfl) Y

def M_X8_feed (S0 : MS) (i1 : Int32) : Option (Int32 × MS) :=
  ((M_X8_in ((i1).toInt64) (0 : Int64) (255 : Int64)).bind (fun u1 => (if u1 = 0 then (some ((-1000001 : Int32), S0)) else (if (ms_length S0) = (90 : Int32) then (some ((-1000003 : Int32), S0)) else (if inb (ms_length S0) 90 = true then (some (((ms_length S0) + (1 : Int32)), ((ms_status S0), (ms_points S0), (ms_home S0), (ms_men S0), (ms_hasTable S0), (ms_acts S0), (ms_imaged S0), ((ms_length S0) + (1 : Int32)), (ms_fault S0), (ms_traced S0), (ms_spot S0), (ms_begins S0), (ms_token S0), (ms_number S0), (ms_readPoints S0), (ms_readHome S0), (ms_readMen S0), (ms_otherOne S0), (ms_otherKind S0), (ms_items S0), (ms_lanes S0), (ms_sizes S0), (ms_firms S0), (ms_kinds S0), (ms_now S0), (ms_before S0), (ms_images S0), (upd (ms_tape S0) ((ms_length S0)).toNatClampNeg i1), (ms_trace S0), (ms_readFirms S0), (ms_readKinds S0), (ms_readAt S0), (ms_rows S0), (ms_bests S0)))) else none)))))
def q_X8_feed : Room := { frames := 2, cells := 0, slots := 0, locals := 85 }
set_option maxHeartbeats 4000000 in
set_option maxRecDepth 100000 in
theorem c_X8_feed (l : Launch) (G : gT) (h h_items h_lanes h_sizes h_firms h_kinds h_now h_before h_images h_tape h_trace h_readFirms h_readKinds h_readAt h_rows h_bests : Nat) (S0 : MS) (i1 : Int32) : CT l G yX8_feed cX8_feed 2 (some .int) q_X8_feed [.ref h, .int i1] (wMS G h h_items h_lanes h_sizes h_firms h_kinds h_now h_before h_images h_tape h_trace h_readFirms h_readKinds h_readAt h_rows h_bests S0) (M_X8_feed S0 i1) (fun u => some (.int u.1)) (fun u => wMS G h h_items h_lanes h_sizes h_firms h_kinds h_now h_before h_images h_tape h_trace h_readFirms h_readKinds h_readAt h_rows h_bests u.2) := by
  refine CT.of (P := PX8_feed) (by decide) dPX8_feed (Nat.le_of_ble_eq_true rfl) ?_
  intro p e s m args below meth c A Q ls hne X RT Y hl
  have hl : lv_has ls 2 [(0, .ref h), (1, .int i1)] := hl
  generalize hM : M_X8_feed S0 i1 = MM at hne RT
  unfold M_X8_feed at hM
  refine r_iload_n (pc' := 1) X hl 1 rfl rfl 0 rfl rfl ?_
  refine r_i2l (pc' := 2) X 1 rfl rfl ?_
  refine r_lconst (pc' := 3) X (0 : Int64) 2 rfl rfl rfl ?_
  refine r_ldc2 (pc' := 6) X mw563 3 rfl rfl ?_
  refine r_callS0 (pc' := 9) (As := [.long (i1).toInt64, .long (0 : Int64), .long (255 : Int64)]) (rest := []) X Y 4 rfl rfl mRX8_66 (c_X8_in l G ((i1).toInt64) (0 : Int64) (255 : Int64)) (mB hM hne) rfl [] rfl rfl rfl (Nat.le_of_ble_eq_true rfl) ⟨rfl, rfl⟩ ⟨Nat.le_of_ble_eq_true rfl, Nat.le_of_ble_eq_true rfl⟩ ⟨Nat.zero_le _, Nat.zero_le _⟩ hl.1 (st' := fun u1 => [.int u1]) (fun _ => rfl) (fun u1 H locs huu1 Y => ?_)
  replace hM := mS hM huu1
  refine r_if_ne (pc' := 12) X 15 5 rfl rfl (by decide) (fun c2 => ?_) (fun c2 => ?_)
  · replace hM := mE hM c2
    refine r_aload_n (pc' := 16) X hl 0 rfl rfl 8 rfl rfl ?_
    refine r_get (pc' := 19) (v := .int (ms_length S0)) X Y 9 rfl rfl fRX8_90 0 rfl rfl ?_
    refine r_bipush (pc' := 21) X (90 : Int32) 10 rfl rfl rfl ?_
    refine r_icmp_ne (pc' := 24) X 27 11 rfl rfl (by decide) (fun c3 => ?_) (fun c3 => ?_)
    · replace hM := mE hM c3
      refine r_aload_n (pc' := 28) X hl 0 rfl rfl 14 rfl rfl ?_
      refine r_get (pc' := 31) (v := .ref h_tape) X Y 15 rfl rfl fRX8_34 0 rfl rfl ?_
      refine r_aload_n (pc' := 32) X hl 0 rfl rfl 16 rfl rfl ?_
      refine r_get (pc' := 35) (v := .int (ms_length S0)) X Y 17 rfl rfl fRX8_90 0 rfl rfl ?_
      refine r_iload_n (pc' := 36) X hl 1 rfl rfl 18 rfl rfl ?_
      obtain ⟨g4, hM⟩ := mG hM hne
      refine r_iast (pc' := 37) (ws' := wMS G h h_items h_lanes h_sizes h_firms h_kinds h_now h_before h_images h_tape h_trace h_readFirms h_readKinds h_readAt h_rows h_bests ((ms_status S0), (ms_points S0), (ms_home S0), (ms_men S0), (ms_hasTable S0), (ms_acts S0), (ms_imaged S0), (ms_length S0), (ms_fault S0), (ms_traced S0), (ms_spot S0), (ms_begins S0), (ms_token S0), (ms_number S0), (ms_readPoints S0), (ms_readHome S0), (ms_readMen S0), (ms_otherOne S0), (ms_otherKind S0), (ms_items S0), (ms_lanes S0), (ms_sizes S0), (ms_firms S0), (ms_kinds S0), (ms_now S0), (ms_before S0), (ms_images S0), (upd (ms_tape S0) ((ms_length S0)).toNatClampNeg i1), (ms_trace S0), (ms_readFirms S0), (ms_readKinds S0), (ms_readAt S0), (ms_rows S0), (ms_bests S0))) X Y 19 rfl rfl 9 rfl (vin g4) rfl (fun H locs Y => ?_)
      refine r_aload_n (pc' := 38) X hl 0 rfl rfl 20 rfl rfl ?_
      refine r_dup (pc' := 39) X 21 rfl rfl rfl ?_
      refine r_get (pc' := 42) (v := .int (ms_length S0)) X Y 22 rfl rfl fRX8_90 0 rfl rfl ?_
      refine r_iconst (pc' := 43) X (1 : Int32) 23 rfl rfl rfl ?_
      refine r_iadd (pc' := 44) X 24 rfl rfl ?_
      refine r_put (pc' := 47) (ws' := wMS G h h_items h_lanes h_sizes h_firms h_kinds h_now h_before h_images h_tape h_trace h_readFirms h_readKinds h_readAt h_rows h_bests ((ms_status S0), (ms_points S0), (ms_home S0), (ms_men S0), (ms_hasTable S0), (ms_acts S0), (ms_imaged S0), ((ms_length S0) + (1 : Int32)), (ms_fault S0), (ms_traced S0), (ms_spot S0), (ms_begins S0), (ms_token S0), (ms_number S0), (ms_readPoints S0), (ms_readHome S0), (ms_readMen S0), (ms_otherOne S0), (ms_otherKind S0), (ms_items S0), (ms_lanes S0), (ms_sizes S0), (ms_firms S0), (ms_kinds S0), (ms_now S0), (ms_before S0), (ms_images S0), (upd (ms_tape S0) ((ms_length S0)).toNatClampNeg i1), (ms_trace S0), (ms_readFirms S0), (ms_readKinds S0), (ms_readAt S0), (ms_rows S0), (ms_bests S0))) X Y 25 rfl rfl fRX8_90 0 rfl rfl rfl (Nat.le_of_ble_eq_true rfl) rfl (fun H locs Y => ?_)
      refine r_aload_n (pc' := 48) X hl 0 rfl rfl 26 rfl rfl ?_
      refine r_get (pc' := 51) (v := .int ((ms_length S0) + (1 : Int32))) X Y 27 rfl rfl fRX8_90 0 rfl rfl ?_
      exact RT (((ms_length S0) + (1 : Int32)), ((ms_status S0), (ms_points S0), (ms_home S0), (ms_men S0), (ms_hasTable S0), (ms_acts S0), (ms_imaged S0), ((ms_length S0) + (1 : Int32)), (ms_fault S0), (ms_traced S0), (ms_spot S0), (ms_begins S0), (ms_token S0), (ms_number S0), (ms_readPoints S0), (ms_readHome S0), (ms_readMen S0), (ms_otherOne S0), (ms_otherKind S0), (ms_items S0), (ms_lanes S0), (ms_sizes S0), (ms_firms S0), (ms_kinds S0), (ms_now S0), (ms_before S0), (ms_images S0), (upd (ms_tape S0) ((ms_length S0)).toNatClampNeg i1), (ms_trace S0), (ms_readFirms S0), (ms_readKinds S0), (ms_readAt S0), (ms_rows S0), (ms_bests S0))) _ _ _ _ _ hM (Or.inl ⟨rfl, rfl, _, rfl⟩) (X.d (k := 28) rfl) Y
    · replace hM := mI hM c3
      refine r_ldc (pc' := 26) X mw565 12 rfl rfl ?_
      exact RT ((-1000003 : Int32), S0) _ _ _ _ _ hM (Or.inl ⟨rfl, rfl, _, rfl⟩) (X.d (k := 13) rfl) Y
  · replace hM := mI hM c2
    refine r_ldc (pc' := 14) X mw546 6 rfl rfl ?_
    exact RT ((-1000001 : Int32), S0) _ _ _ _ _ hM (Or.inl ⟨rfl, rfl, _, rfl⟩) (X.d (k := 7) rfl) Y

def M_X8_isFigure (i0 : Int32) : Option (Int32) :=
  ((M_X8_in ((i0).toInt64) (48 : Int64) (57 : Int64)).bind (fun u1 => (if (u1 = 0 ∨ u1 = 1) then (some u1) else none)))
def q_X8_isFigure : Room := { frames := 2, cells := 0, slots := 0, locals := 85 }
set_option maxHeartbeats 4000000 in
set_option maxRecDepth 100000 in
theorem c_X8_isFigure (l : Launch) (G : gT) (i0 : Int32) : CT l G yX8_isFigure cX8_isFigure 1 (some .boolean) q_X8_isFigure [.int i0] ([]) (M_X8_isFigure i0) (fun u => some (.int u)) (fun u => []) := by
  refine CT.of (P := PX8_isFigure) (by decide) dPX8_isFigure (Nat.le_of_ble_eq_true rfl) ?_
  intro p e s m args below meth c A Q ls hne X RT Y hl
  have hl : lv_has ls 1 [(0, .int i0)] := hl
  generalize hM : M_X8_isFigure i0 = MM at hne RT
  unfold M_X8_isFigure at hM
  refine r_iload_n (pc' := 1) X hl 0 rfl rfl 0 rfl rfl ?_
  refine r_i2l (pc' := 2) X 1 rfl rfl ?_
  refine r_ldc2 (pc' := 5) X mw567 2 rfl rfl ?_
  refine r_ldc2 (pc' := 8) X mw568 3 rfl rfl ?_
  refine r_callS0 (pc' := 11) (As := [.long (i0).toInt64, .long (48 : Int64), .long (57 : Int64)]) (rest := []) X Y 4 rfl rfl mRX8_66 (c_X8_in l G ((i0).toInt64) (48 : Int64) (57 : Int64)) (mB hM hne) rfl [] rfl rfl rfl (Nat.le_of_ble_eq_true rfl) ⟨rfl, rfl⟩ ⟨Nat.le_of_ble_eq_true rfl, Nat.le_of_ble_eq_true rfl⟩ ⟨Nat.zero_le _, Nat.zero_le _⟩ hl.1 (st' := fun u1 => [.int u1]) (fun _ => rfl) (fun u1 H locs huu1 Y => ?_)
  replace hM := mS hM huu1
  obtain ⟨g2, hM⟩ := mG hM hne
  exact RT u1 _ _ _ _ _ hM (Or.inr (Or.inl ⟨rfl, rfl, _, rfl, nb g2⟩)) (X.d (k := 5) rfl) Y

def M_X8_next (S0 : MS) : Option (MS) :=
  (if (ms_spot S0) = (ms_length S0) then (some ((ms_status S0), (ms_points S0), (ms_home S0), (ms_men S0), (ms_hasTable S0), (ms_acts S0), (ms_imaged S0), (ms_length S0), (ms_fault S0), (ms_traced S0), (ms_spot S0), (ms_spot S0), (-1 : Int32), (0 : Int32), (ms_readPoints S0), (ms_readHome S0), (ms_readMen S0), (ms_otherOne S0), (ms_otherKind S0), (ms_items S0), (ms_lanes S0), (ms_sizes S0), (ms_firms S0), (ms_kinds S0), (ms_now S0), (ms_before S0), (ms_images S0), (ms_tape S0), (ms_trace S0), (ms_readFirms S0), (ms_readKinds S0), (ms_readAt S0), (ms_rows S0), (ms_bests S0))) else (if inb (ms_spot S0) 90 = true then ((M_X8_isFigure (((ms_tape S0) ((ms_spot S0)).toNatClampNeg))).bind (fun u3 => (if u3 = 0 then ((M_X8_in ((((ms_tape S0) ((ms_spot S0)).toNatClampNeg)).toInt64) (97 : Int64) (122 : Int64)).bind (fun u13 => (jn (σ := Int32) (fun v14 => (some ((ms_status S0), (ms_points S0), (ms_home S0), (ms_men S0), (ms_hasTable S0), (ms_acts S0), (ms_imaged S0), (ms_length S0), (ms_fault S0), (ms_traced S0), ((ms_spot S0) + (1 : Int32)), (ms_spot S0), v14, (0 : Int32), (ms_readPoints S0), (ms_readHome S0), (ms_readMen S0), (ms_otherOne S0), (ms_otherKind S0), (ms_items S0), (ms_lanes S0), (ms_sizes S0), (ms_firms S0), (ms_kinds S0), (ms_now S0), (ms_before S0), (ms_images S0), (ms_tape S0), (ms_trace S0), (ms_readFirms S0), (ms_readKinds S0), (ms_readAt S0), (ms_rows S0), (ms_bests S0)))) (fun J14 => (jn (σ := Unit) (fun v15 => (J14 ((ms_tape S0) ((ms_spot S0)).toNatClampNeg))) (fun J15 => (if u13 = 0 then (if ((ms_tape S0) ((ms_spot S0)).toNatClampNeg) = (44 : Int32) then (J15 ()) else (if ((ms_tape S0) ((ms_spot S0)).toNatClampNeg) = (59 : Int32) then (J15 ()) else (J14 (-1 : Int32)))) else (J15 ())))))))) else ((lp (σ := Int32 × Int32 × Int32) (β := Int32 × Int32 × Int32) (fun rec5 st5 => (if (ms_length S0) ≤ st5.2.1 then (some (st5.1, st5.2.1, st5.2.2)) else (if inb st5.2.1 90 = true then ((M_X8_isFigure (((ms_tape S0) (st5.2.1).toNatClampNeg))).bind (fun u9 => (if u9 = 0 then (some (st5.1, st5.2.1, st5.2.2)) else (jn (σ := Int32) (fun v11 => (rec5 ((st5.1 + (1 : Int32)), (st5.2.1 + (1 : Int32)), v11))) (fun J11 => (if (2 : Int32) ≤ st5.1 then (J11 st5.2.2) else (J11 ((((10 : Int32) * st5.2.2) + ((ms_tape S0) (st5.2.1).toNatClampNeg)) - (48 : Int32))))))))) else none))) 1000000 ((0 : Int32), (ms_spot S0), (0 : Int32))).bind (fun b5 => (if (3 : Int32) ≤ b5.1 then (some ((ms_status S0), (ms_points S0), (ms_home S0), (ms_men S0), (ms_hasTable S0), (ms_acts S0), (ms_imaged S0), (ms_length S0), (ms_fault S0), (ms_traced S0), b5.2.1, (ms_spot S0), (-1 : Int32), b5.2.2, (ms_readPoints S0), (ms_readHome S0), (ms_readMen S0), (ms_otherOne S0), (ms_otherKind S0), (ms_items S0), (ms_lanes S0), (ms_sizes S0), (ms_firms S0), (ms_kinds S0), (ms_now S0), (ms_before S0), (ms_images S0), (ms_tape S0), (ms_trace S0), (ms_readFirms S0), (ms_readKinds S0), (ms_readAt S0), (ms_rows S0), (ms_bests S0))) else (some ((ms_status S0), (ms_points S0), (ms_home S0), (ms_men S0), (ms_hasTable S0), (ms_acts S0), (ms_imaged S0), (ms_length S0), (ms_fault S0), (ms_traced S0), b5.2.1, (ms_spot S0), (0 : Int32), b5.2.2, (ms_readPoints S0), (ms_readHome S0), (ms_readMen S0), (ms_otherOne S0), (ms_otherKind S0), (ms_items S0), (ms_lanes S0), (ms_sizes S0), (ms_firms S0), (ms_kinds S0), (ms_now S0), (ms_before S0), (ms_images S0), (ms_tape S0), (ms_trace S0), (ms_readFirms S0), (ms_readKinds S0), (ms_readAt S0), (ms_rows S0), (ms_bests S0))))))))) else none))
def q_X8_next : Room := { frames := 3, cells := 0, slots := 0, locals := 105 }
set_option maxHeartbeats 4000000 in
set_option maxRecDepth 100000 in
theorem c_X8_next (l : Launch) (G : gT) (h h_items h_lanes h_sizes h_firms h_kinds h_now h_before h_images h_tape h_trace h_readFirms h_readKinds h_readAt h_rows h_bests : Nat) (S0 : MS) : CT l G yX8_next cX8_next 3 none q_X8_next [.ref h] (wMS G h h_items h_lanes h_sizes h_firms h_kinds h_now h_before h_images h_tape h_trace h_readFirms h_readKinds h_readAt h_rows h_bests S0) (M_X8_next S0) (fun u => none) (fun u => wMS G h h_items h_lanes h_sizes h_firms h_kinds h_now h_before h_images h_tape h_trace h_readFirms h_readKinds h_readAt h_rows h_bests u) := by
  refine CT.of (P := PX8_next) (by decide) dPX8_next (Nat.le_of_ble_eq_true rfl) ?_
  intro p e s m args below meth c A Q ls hne X RT Y hl
  have hl : lv_has ls 3 [(0, .ref h)] := hl
  generalize hM : M_X8_next S0 = MM at hne RT
  unfold M_X8_next at hM
  refine r_aload_n (pc' := 1) X hl 0 rfl rfl 0 rfl rfl ?_
  refine r_aload_n (pc' := 2) X hl 0 rfl rfl 1 rfl rfl ?_
  refine r_get (pc' := 5) (v := .int (ms_spot S0)) X Y 2 rfl rfl fRX8_98 0 rfl rfl ?_
  refine r_put (pc' := 8) (ws' := wMS G h h_items h_lanes h_sizes h_firms h_kinds h_now h_before h_images h_tape h_trace h_readFirms h_readKinds h_readAt h_rows h_bests ((ms_status S0), (ms_points S0), (ms_home S0), (ms_men S0), (ms_hasTable S0), (ms_acts S0), (ms_imaged S0), (ms_length S0), (ms_fault S0), (ms_traced S0), (ms_spot S0), (ms_spot S0), (ms_token S0), (ms_number S0), (ms_readPoints S0), (ms_readHome S0), (ms_readMen S0), (ms_otherOne S0), (ms_otherKind S0), (ms_items S0), (ms_lanes S0), (ms_sizes S0), (ms_firms S0), (ms_kinds S0), (ms_now S0), (ms_before S0), (ms_images S0), (ms_tape S0), (ms_trace S0), (ms_readFirms S0), (ms_readKinds S0), (ms_readAt S0), (ms_rows S0), (ms_bests S0))) X Y 3 rfl rfl fRX8_101 0 rfl rfl rfl (Nat.le_of_ble_eq_true rfl) rfl (fun H locs Y => ?_)
  refine r_aload_n (pc' := 9) X hl 0 rfl rfl 4 rfl rfl ?_
  refine r_iconst (pc' := 10) X (-1 : Int32) 5 rfl rfl rfl ?_
  refine r_put (pc' := 13) (ws' := wMS G h h_items h_lanes h_sizes h_firms h_kinds h_now h_before h_images h_tape h_trace h_readFirms h_readKinds h_readAt h_rows h_bests ((ms_status S0), (ms_points S0), (ms_home S0), (ms_men S0), (ms_hasTable S0), (ms_acts S0), (ms_imaged S0), (ms_length S0), (ms_fault S0), (ms_traced S0), (ms_spot S0), (ms_spot S0), (-1 : Int32), (ms_number S0), (ms_readPoints S0), (ms_readHome S0), (ms_readMen S0), (ms_otherOne S0), (ms_otherKind S0), (ms_items S0), (ms_lanes S0), (ms_sizes S0), (ms_firms S0), (ms_kinds S0), (ms_now S0), (ms_before S0), (ms_images S0), (ms_tape S0), (ms_trace S0), (ms_readFirms S0), (ms_readKinds S0), (ms_readAt S0), (ms_rows S0), (ms_bests S0))) X Y 6 rfl rfl fRX8_104 0 rfl rfl rfl (Nat.le_of_ble_eq_true rfl) rfl (fun H locs Y => ?_)
  refine r_aload_n (pc' := 14) X hl 0 rfl rfl 7 rfl rfl ?_
  refine r_iconst (pc' := 15) X (0 : Int32) 8 rfl rfl rfl ?_
  refine r_put (pc' := 18) (ws' := wMS G h h_items h_lanes h_sizes h_firms h_kinds h_now h_before h_images h_tape h_trace h_readFirms h_readKinds h_readAt h_rows h_bests ((ms_status S0), (ms_points S0), (ms_home S0), (ms_men S0), (ms_hasTable S0), (ms_acts S0), (ms_imaged S0), (ms_length S0), (ms_fault S0), (ms_traced S0), (ms_spot S0), (ms_spot S0), (-1 : Int32), (0 : Int32), (ms_readPoints S0), (ms_readHome S0), (ms_readMen S0), (ms_otherOne S0), (ms_otherKind S0), (ms_items S0), (ms_lanes S0), (ms_sizes S0), (ms_firms S0), (ms_kinds S0), (ms_now S0), (ms_before S0), (ms_images S0), (ms_tape S0), (ms_trace S0), (ms_readFirms S0), (ms_readKinds S0), (ms_readAt S0), (ms_rows S0), (ms_bests S0))) X Y 9 rfl rfl fRX8_107 0 rfl rfl rfl (Nat.le_of_ble_eq_true rfl) rfl (fun H locs Y => ?_)
  refine r_aload_n (pc' := 19) X hl 0 rfl rfl 10 rfl rfl ?_
  refine r_get (pc' := 22) (v := .int (ms_spot S0)) X Y 11 rfl rfl fRX8_98 0 rfl rfl ?_
  refine r_aload_n (pc' := 23) X hl 0 rfl rfl 12 rfl rfl ?_
  refine r_get (pc' := 26) (v := .int (ms_length S0)) X Y 13 rfl rfl fRX8_90 0 rfl rfl ?_
  refine r_icmp_ne (pc' := 29) X 30 14 rfl rfl (by decide) (fun c1 => ?_) (fun c1 => ?_)
  · replace hM := mE hM c1
    refine r_aload_n (pc' := 31) X hl 0 rfl rfl 16 rfl rfl ?_
    refine r_get (pc' := 34) (v := .ref h_tape) X Y 17 rfl rfl fRX8_34 0 rfl rfl ?_
    refine r_aload_n (pc' := 35) X hl 0 rfl rfl 18 rfl rfl ?_
    refine r_get (pc' := 38) (v := .int (ms_spot S0)) X Y 19 rfl rfl fRX8_98 0 rfl rfl ?_
    obtain ⟨g2, hM⟩ := mG hM hne
    refine r_iald (pc' := 39) X Y 20 rfl rfl 9 rfl (vin g2) ?_
    refine r_istore_n (pc' := 40) (L' := [(1, .int ((ms_tape S0) ((ms_spot S0)).toNatClampNeg)), (0, .ref h)]) X hl rfl 21 rfl rfl (by decide) rfl (fun ls hl => ?_)
    refine r_iload_n (pc' := 41) X hl 0 rfl rfl 22 rfl rfl ?_
    refine r_callS0 (pc' := 44) (As := [.int ((ms_tape S0) ((ms_spot S0)).toNatClampNeg)]) (rest := []) X Y 23 rfl rfl mRX8_110 (c_X8_isFigure l G (((ms_tape S0) ((ms_spot S0)).toNatClampNeg))) (mB hM hne) rfl [] rfl rfl rfl (Nat.le_of_ble_eq_true rfl) ⟨rfl, rfl⟩ ⟨Nat.le_of_ble_eq_true rfl, Nat.le_of_ble_eq_true rfl⟩ ⟨Nat.zero_le _, Nat.zero_le _⟩ hl.1 (st' := fun u3 => [.int u3]) (fun _ => rfl) (fun u3 H locs huu3 Y => ?_)
    replace hM := mS hM huu3
    refine r_if_ne (pc' := 47) X 93 24 rfl rfl (by decide) (fun c4 => ?_) (fun c4 => ?_)
    · replace hM := mE hM c4
      refine r_iconst (pc' := 94) X (0 : Int32) 49 rfl rfl rfl ?_
      refine r_istore_n (pc' := 95) (L' := [(2, .int (0 : Int32)), (1, .int ((ms_tape S0) ((ms_spot S0)).toNatClampNeg)), (0, .ref h)]) X hl rfl 50 rfl rfl (by decide) rfl (fun ls hl => ?_)
      obtain ⟨LL5, hL5, hne5, hX5⟩ := mL hM hne
      have KX5 : ∀ (b5 : Int32 × Int32 × Int32) (H : Heap) (locs : List Loc) (ls : Array Slot), some b5 = LL5 → rY G A s (wMS G h h_items h_lanes h_sizes h_firms h_kinds h_now h_before h_images h_tape h_trace h_readFirms h_readKinds h_readAt h_rows h_bests ((ms_status S0), (ms_points S0), (ms_home S0), (ms_men S0), (ms_hasTable S0), (ms_acts S0), (ms_imaged S0), (ms_length S0), (ms_fault S0), (ms_traced S0), b5.2.1, (ms_spot S0), (-1 : Int32), b5.2.2, (ms_readPoints S0), (ms_readHome S0), (ms_readMen S0), (ms_otherOne S0), (ms_otherKind S0), (ms_items S0), (ms_lanes S0), (ms_sizes S0), (ms_firms S0), (ms_kinds S0), (ms_now S0), (ms_before S0), (ms_images S0), (ms_tape S0), (ms_trace S0), (ms_readFirms S0), (ms_readKinds S0), (ms_readAt S0), (ms_rows S0), (ms_bests S0))) H locs → lv_has ls 3 [(0, .ref h), (2, .int b5.1)] → W p l e q_X8_next s m args below meth c H locs 0 0 Q (F0 m 173 ls []) := by
        intro b5 H locs ls hM Y hl
        replace hM := hX5 _ hM
        refine r_aload_n (pc' := 174) X hl 0 rfl rfl 91 rfl rfl ?_
        refine r_iload_n (pc' := 175) X hl 1 rfl rfl 92 rfl rfl ?_
        refine r_iconst (pc' := 176) X (3 : Int32) 93 rfl rfl rfl ?_
        refine r_icmp_ge (pc' := 179) X 183 94 rfl rfl (by decide) (fun c6 => ?_) (fun c6 => ?_)
        · replace hM := mI hM c6
          refine r_iconst (pc' := 184) X (-1 : Int32) 97 rfl rfl rfl ?_
          refine r_put (pc' := 187) (ws' := wMS G h h_items h_lanes h_sizes h_firms h_kinds h_now h_before h_images h_tape h_trace h_readFirms h_readKinds h_readAt h_rows h_bests ((ms_status S0), (ms_points S0), (ms_home S0), (ms_men S0), (ms_hasTable S0), (ms_acts S0), (ms_imaged S0), (ms_length S0), (ms_fault S0), (ms_traced S0), b5.2.1, (ms_spot S0), (-1 : Int32), b5.2.2, (ms_readPoints S0), (ms_readHome S0), (ms_readMen S0), (ms_otherOne S0), (ms_otherKind S0), (ms_items S0), (ms_lanes S0), (ms_sizes S0), (ms_firms S0), (ms_kinds S0), (ms_now S0), (ms_before S0), (ms_images S0), (ms_tape S0), (ms_trace S0), (ms_readFirms S0), (ms_readKinds S0), (ms_readAt S0), (ms_rows S0), (ms_bests S0))) X Y 98 rfl rfl fRX8_104 0 rfl rfl rfl (Nat.le_of_ble_eq_true rfl) rfl (fun H locs Y => ?_)
          exact RT ((ms_status S0), (ms_points S0), (ms_home S0), (ms_men S0), (ms_hasTable S0), (ms_acts S0), (ms_imaged S0), (ms_length S0), (ms_fault S0), (ms_traced S0), b5.2.1, (ms_spot S0), (-1 : Int32), b5.2.2, (ms_readPoints S0), (ms_readHome S0), (ms_readMen S0), (ms_otherOne S0), (ms_otherKind S0), (ms_items S0), (ms_lanes S0), (ms_sizes S0), (ms_firms S0), (ms_kinds S0), (ms_now S0), (ms_before S0), (ms_images S0), (ms_tape S0), (ms_trace S0), (ms_readFirms S0), (ms_readKinds S0), (ms_readAt S0), (ms_rows S0), (ms_bests S0)) _ _ _ _ _ hM (Or.inr (Or.inr (Or.inr (Or.inl ⟨rfl, rfl, rfl⟩)))) (X.d (k := 99) rfl) Y
        · replace hM := mE hM c6
          refine r_iconst (pc' := 180) X (0 : Int32) 95 rfl rfl rfl ?_
          refine r_goto X 184 96 rfl (by decide) ?_
          refine r_put (pc' := 187) (ws' := wMS G h h_items h_lanes h_sizes h_firms h_kinds h_now h_before h_images h_tape h_trace h_readFirms h_readKinds h_readAt h_rows h_bests ((ms_status S0), (ms_points S0), (ms_home S0), (ms_men S0), (ms_hasTable S0), (ms_acts S0), (ms_imaged S0), (ms_length S0), (ms_fault S0), (ms_traced S0), b5.2.1, (ms_spot S0), (0 : Int32), b5.2.2, (ms_readPoints S0), (ms_readHome S0), (ms_readMen S0), (ms_otherOne S0), (ms_otherKind S0), (ms_items S0), (ms_lanes S0), (ms_sizes S0), (ms_firms S0), (ms_kinds S0), (ms_now S0), (ms_before S0), (ms_images S0), (ms_tape S0), (ms_trace S0), (ms_readFirms S0), (ms_readKinds S0), (ms_readAt S0), (ms_rows S0), (ms_bests S0))) X Y 98 rfl rfl fRX8_104 0 rfl rfl rfl (Nat.le_of_ble_eq_true rfl) rfl (fun H locs Y => ?_)
          exact RT ((ms_status S0), (ms_points S0), (ms_home S0), (ms_men S0), (ms_hasTable S0), (ms_acts S0), (ms_imaged S0), (ms_length S0), (ms_fault S0), (ms_traced S0), b5.2.1, (ms_spot S0), (0 : Int32), b5.2.2, (ms_readPoints S0), (ms_readHome S0), (ms_readMen S0), (ms_otherOne S0), (ms_otherKind S0), (ms_items S0), (ms_lanes S0), (ms_sizes S0), (ms_firms S0), (ms_kinds S0), (ms_now S0), (ms_before S0), (ms_images S0), (ms_tape S0), (ms_trace S0), (ms_readFirms S0), (ms_readKinds S0), (ms_readAt S0), (ms_rows S0), (ms_bests S0)) _ _ _ _ _ hM (Or.inr (Or.inr (Or.inr (Or.inl ⟨rfl, rfl, rfl⟩)))) (X.d (k := 99) rfl) Y
      refine lp_rule (I := fun (st5 : Int32 × Int32 × Int32) => ∀ (H : Heap) (locs : List Loc) (ls : Array Slot), rY G A s (wMS G h h_items h_lanes h_sizes h_firms h_kinds h_now h_before h_images h_tape h_trace h_readFirms h_readKinds h_readAt h_rows h_bests ((ms_status S0), (ms_points S0), (ms_home S0), (ms_men S0), (ms_hasTable S0), (ms_acts S0), (ms_imaged S0), (ms_length S0), (ms_fault S0), (ms_traced S0), st5.2.1, (ms_spot S0), (-1 : Int32), st5.2.2, (ms_readPoints S0), (ms_readHome S0), (ms_readMen S0), (ms_otherOne S0), (ms_otherKind S0), (ms_items S0), (ms_lanes S0), (ms_sizes S0), (ms_firms S0), (ms_kinds S0), (ms_now S0), (ms_before S0), (ms_images S0), (ms_tape S0), (ms_trace S0), (ms_readFirms S0), (ms_readKinds S0), (ms_readAt S0), (ms_rows S0), (ms_bests S0))) H locs → lv_has ls 3 [(0, .ref h), (2, .int st5.1)] → W p l e q_X8_next s m args below meth c H locs 0 0 Q (F0 m 95 ls [])) hne5 (fun rec5 st5 IH5 hM => ?_) _ _ hL5 _ _ _ Y (lv_sub hl [2, 0] rfl)
      intro H locs ls Y hl
      refine r_aload_n (pc' := 96) X hl 0 rfl rfl 51 rfl rfl ?_
      refine r_get (pc' := 99) (v := .int st5.2.1) X Y 52 rfl rfl fRX8_98 0 rfl rfl ?_
      refine r_aload_n (pc' := 100) X hl 0 rfl rfl 53 rfl rfl ?_
      refine r_get (pc' := 103) (v := .int (ms_length S0)) X Y 54 rfl rfl fRX8_90 0 rfl rfl ?_
      refine r_icmp_ge (pc' := 106) X 173 55 rfl rfl (by decide) (fun c7 => ?_) (fun c7 => ?_)
      · replace hM := mI hM c7
        exact KX5 _ _ _ _ hM Y (lv_sub hl [0, 1] rfl)
      · replace hM := mE hM c7
        refine r_aload_n (pc' := 107) X hl 0 rfl rfl 56 rfl rfl ?_
        refine r_get (pc' := 110) (v := .ref h_tape) X Y 57 rfl rfl fRX8_34 0 rfl rfl ?_
        refine r_aload_n (pc' := 111) X hl 0 rfl rfl 58 rfl rfl ?_
        refine r_get (pc' := 114) (v := .int st5.2.1) X Y 59 rfl rfl fRX8_98 0 rfl rfl ?_
        obtain ⟨g8, hM⟩ := mG hM hne5
        refine r_iald (pc' := 115) X Y 60 rfl rfl 9 rfl (vin g8) ?_
        refine r_callS0 (pc' := 118) (As := [.int ((ms_tape S0) (st5.2.1).toNatClampNeg)]) (rest := []) X Y 61 rfl rfl mRX8_110 (c_X8_isFigure l G (((ms_tape S0) (st5.2.1).toNatClampNeg))) (mB hM hne5) rfl [] rfl rfl rfl (Nat.le_of_ble_eq_true rfl) ⟨rfl, rfl⟩ ⟨Nat.le_of_ble_eq_true rfl, Nat.le_of_ble_eq_true rfl⟩ ⟨Nat.zero_le _, Nat.zero_le _⟩ hl.1 (st' := fun u9 => [.int u9]) (fun _ => rfl) (fun u9 H locs huu9 Y => ?_)
        replace hM := mS hM huu9
        refine r_if_eq (pc' := 121) X 173 62 rfl rfl (by decide) (fun c10 => ?_) (fun c10 => ?_)
        · replace hM := mI hM c10
          exact KX5 _ _ _ _ hM Y (lv_sub hl [0, 1] rfl)
        · replace hM := mE hM c10
          refine r_aload_n (pc' := 122) X hl 0 rfl rfl 63 rfl rfl ?_
          refine r_iload_n (pc' := 123) X hl 1 rfl rfl 64 rfl rfl ?_
          refine r_iconst (pc' := 124) X (2 : Int32) 65 rfl rfl rfl ?_
          obtain ⟨J11, hJ11, hM⟩ := mJ hM
          have KJ11 : ∀ (v11 : Int32) (H : Heap) (locs : List Loc) (ls : Array Slot), J11 v11 = LL5 → rY G A s (wMS G h h_items h_lanes h_sizes h_firms h_kinds h_now h_before h_images h_tape h_trace h_readFirms h_readKinds h_readAt h_rows h_bests ((ms_status S0), (ms_points S0), (ms_home S0), (ms_men S0), (ms_hasTable S0), (ms_acts S0), (ms_imaged S0), (ms_length S0), (ms_fault S0), (ms_traced S0), st5.2.1, (ms_spot S0), (-1 : Int32), st5.2.2, (ms_readPoints S0), (ms_readHome S0), (ms_readMen S0), (ms_otherOne S0), (ms_otherKind S0), (ms_items S0), (ms_lanes S0), (ms_sizes S0), (ms_firms S0), (ms_kinds S0), (ms_now S0), (ms_before S0), (ms_images S0), (ms_tape S0), (ms_trace S0), (ms_readFirms S0), (ms_readKinds S0), (ms_readAt S0), (ms_rows S0), (ms_bests S0))) H locs → lv_has ls 3 [(0, .ref h), (2, .int st5.1)] → W p l e q_X8_next s m args below meth c H locs 0 0 Q (F0 m 154 ls [.int v11, .ref h]) := by
            intro v11 H locs ls hM Y hl
            replace hM := (hJ11 _).symm.trans hM
            refine r_put (pc' := 157) (ws' := wMS G h h_items h_lanes h_sizes h_firms h_kinds h_now h_before h_images h_tape h_trace h_readFirms h_readKinds h_readAt h_rows h_bests ((ms_status S0), (ms_points S0), (ms_home S0), (ms_men S0), (ms_hasTable S0), (ms_acts S0), (ms_imaged S0), (ms_length S0), (ms_fault S0), (ms_traced S0), st5.2.1, (ms_spot S0), (-1 : Int32), v11, (ms_readPoints S0), (ms_readHome S0), (ms_readMen S0), (ms_otherOne S0), (ms_otherKind S0), (ms_items S0), (ms_lanes S0), (ms_sizes S0), (ms_firms S0), (ms_kinds S0), (ms_now S0), (ms_before S0), (ms_images S0), (ms_tape S0), (ms_trace S0), (ms_readFirms S0), (ms_readKinds S0), (ms_readAt S0), (ms_rows S0), (ms_bests S0))) X Y 82 rfl rfl fRX8_107 0 rfl rfl rfl (Nat.le_of_ble_eq_true rfl) rfl (fun H locs Y => ?_)
            refine r_iinc (pc' := 160) (L' := [(2, .int (st5.1 + (1 : Int32))), (0, .ref h)]) X (st5.1 + (1 : Int32)) hl 1 rfl rfl 83 rfl rfl (by decide) rfl (fun ls hl => ?_)
            refine r_aload_n (pc' := 161) X hl 1 rfl rfl 84 rfl rfl ?_
            refine r_dup (pc' := 162) X 85 rfl rfl rfl ?_
            refine r_get (pc' := 165) (v := .int st5.2.1) X Y 86 rfl rfl fRX8_98 0 rfl rfl ?_
            refine r_iconst (pc' := 166) X (1 : Int32) 87 rfl rfl rfl ?_
            refine r_iadd (pc' := 167) X 88 rfl rfl ?_
            refine r_put (pc' := 170) (ws' := wMS G h h_items h_lanes h_sizes h_firms h_kinds h_now h_before h_images h_tape h_trace h_readFirms h_readKinds h_readAt h_rows h_bests ((ms_status S0), (ms_points S0), (ms_home S0), (ms_men S0), (ms_hasTable S0), (ms_acts S0), (ms_imaged S0), (ms_length S0), (ms_fault S0), (ms_traced S0), (st5.2.1 + (1 : Int32)), (ms_spot S0), (-1 : Int32), v11, (ms_readPoints S0), (ms_readHome S0), (ms_readMen S0), (ms_otherOne S0), (ms_otherKind S0), (ms_items S0), (ms_lanes S0), (ms_sizes S0), (ms_firms S0), (ms_kinds S0), (ms_now S0), (ms_before S0), (ms_images S0), (ms_tape S0), (ms_trace S0), (ms_readFirms S0), (ms_readKinds S0), (ms_readAt S0), (ms_rows S0), (ms_bests S0))) X Y 89 rfl rfl fRX8_98 0 rfl rfl rfl (Nat.le_of_ble_eq_true rfl) rfl (fun H locs Y => ?_)
            refine r_goto X 95 90 rfl (by decide) ?_
            exact IH5 _ hM _ _ _ Y (lv_sub hl [1, 0] rfl)
          refine r_icmp_ge (pc' := 127) X 150 66 rfl rfl (by decide) (fun c12 => ?_) (fun c12 => ?_)
          · replace hM := mI hM c12
            refine r_aload_n (pc' := 151) X hl 0 rfl rfl 80 rfl rfl ?_
            refine r_get (pc' := 154) (v := .int st5.2.2) X Y 81 rfl rfl fRX8_107 0 rfl rfl ?_
            exact KJ11 st5.2.2 _ _ _ hM Y (lv_sub hl [0, 1] rfl)
          · replace hM := mE hM c12
            refine r_bipush (pc' := 129) X (10 : Int32) 67 rfl rfl rfl ?_
            refine r_aload_n (pc' := 130) X hl 0 rfl rfl 68 rfl rfl ?_
            refine r_get (pc' := 133) (v := .int st5.2.2) X Y 69 rfl rfl fRX8_107 0 rfl rfl ?_
            refine r_imul (pc' := 134) X 70 rfl rfl ?_
            refine r_aload_n (pc' := 135) X hl 0 rfl rfl 71 rfl rfl ?_
            refine r_get (pc' := 138) (v := .ref h_tape) X Y 72 rfl rfl fRX8_34 0 rfl rfl ?_
            refine r_aload_n (pc' := 139) X hl 0 rfl rfl 73 rfl rfl ?_
            refine r_get (pc' := 142) (v := .int st5.2.1) X Y 74 rfl rfl fRX8_98 0 rfl rfl ?_
            refine r_iald (pc' := 143) X Y 75 rfl rfl 9 rfl (vin g8) ?_
            refine r_iadd (pc' := 144) X 76 rfl rfl ?_
            refine r_bipush (pc' := 146) X (48 : Int32) 77 rfl rfl rfl ?_
            refine r_isub (pc' := 147) X 78 rfl rfl ?_
            refine r_goto X 154 79 rfl (by decide) ?_
            exact KJ11 ((((10 : Int32) * st5.2.2) + ((ms_tape S0) (st5.2.1).toNatClampNeg)) - (48 : Int32)) _ _ _ hM Y (lv_sub hl [0, 1] rfl)
    · replace hM := mI hM c4
      refine r_aload_n (pc' := 48) X hl 1 rfl rfl 25 rfl rfl ?_
      refine r_iload_n (pc' := 49) X hl 0 rfl rfl 26 rfl rfl ?_
      refine r_i2l (pc' := 50) X 27 rfl rfl ?_
      refine r_ldc2 (pc' := 53) X mw574 28 rfl rfl ?_
      refine r_ldc2 (pc' := 56) X mw575 29 rfl rfl ?_
      refine r_callS0 (pc' := 59) (As := [.long (((ms_tape S0) ((ms_spot S0)).toNatClampNeg)).toInt64, .long (97 : Int64), .long (122 : Int64)]) (rest := [.ref h]) X Y 30 rfl rfl mRX8_66 (c_X8_in l G ((((ms_tape S0) ((ms_spot S0)).toNatClampNeg)).toInt64) (97 : Int64) (122 : Int64)) (mB hM hne) rfl [] rfl rfl rfl (Nat.le_of_ble_eq_true rfl) ⟨rfl, rfl⟩ ⟨Nat.le_of_ble_eq_true rfl, Nat.le_of_ble_eq_true rfl⟩ ⟨Nat.zero_le _, Nat.zero_le _⟩ hl.1 (st' := fun u13 => [.int u13, .ref h]) (fun _ => rfl) (fun u13 H locs huu13 Y => ?_)
      replace hM := mS hM huu13
      obtain ⟨J14, hJ14, hM⟩ := mJ hM
      have KJ14 : ∀ (v14 : Int32) (H : Heap) (locs : List Loc) (ls : Array Slot), J14 v14 = MM → rY G A s (wMS G h h_items h_lanes h_sizes h_firms h_kinds h_now h_before h_images h_tape h_trace h_readFirms h_readKinds h_readAt h_rows h_bests ((ms_status S0), (ms_points S0), (ms_home S0), (ms_men S0), (ms_hasTable S0), (ms_acts S0), (ms_imaged S0), (ms_length S0), (ms_fault S0), (ms_traced S0), (ms_spot S0), (ms_spot S0), (-1 : Int32), (0 : Int32), (ms_readPoints S0), (ms_readHome S0), (ms_readMen S0), (ms_otherOne S0), (ms_otherKind S0), (ms_items S0), (ms_lanes S0), (ms_sizes S0), (ms_firms S0), (ms_kinds S0), (ms_now S0), (ms_before S0), (ms_images S0), (ms_tape S0), (ms_trace S0), (ms_readFirms S0), (ms_readKinds S0), (ms_readAt S0), (ms_rows S0), (ms_bests S0))) H locs → lv_has ls 3 [(0, .ref h)] → W p l e q_X8_next s m args below meth c H locs 0 0 Q (F0 m 79 ls [.int v14, .ref h]) := by
        intro v14 H locs ls hM Y hl
        replace hM := (hJ14 _).symm.trans hM
        refine r_put (pc' := 82) (ws' := wMS G h h_items h_lanes h_sizes h_firms h_kinds h_now h_before h_images h_tape h_trace h_readFirms h_readKinds h_readAt h_rows h_bests ((ms_status S0), (ms_points S0), (ms_home S0), (ms_men S0), (ms_hasTable S0), (ms_acts S0), (ms_imaged S0), (ms_length S0), (ms_fault S0), (ms_traced S0), (ms_spot S0), (ms_spot S0), v14, (0 : Int32), (ms_readPoints S0), (ms_readHome S0), (ms_readMen S0), (ms_otherOne S0), (ms_otherKind S0), (ms_items S0), (ms_lanes S0), (ms_sizes S0), (ms_firms S0), (ms_kinds S0), (ms_now S0), (ms_before S0), (ms_images S0), (ms_tape S0), (ms_trace S0), (ms_readFirms S0), (ms_readKinds S0), (ms_readAt S0), (ms_rows S0), (ms_bests S0))) X Y 41 rfl rfl fRX8_104 0 rfl rfl rfl (Nat.le_of_ble_eq_true rfl) rfl (fun H locs Y => ?_)
        refine r_aload_n (pc' := 83) X hl 0 rfl rfl 42 rfl rfl ?_
        refine r_dup (pc' := 84) X 43 rfl rfl rfl ?_
        refine r_get (pc' := 87) (v := .int (ms_spot S0)) X Y 44 rfl rfl fRX8_98 0 rfl rfl ?_
        refine r_iconst (pc' := 88) X (1 : Int32) 45 rfl rfl rfl ?_
        refine r_iadd (pc' := 89) X 46 rfl rfl ?_
        refine r_put (pc' := 92) (ws' := wMS G h h_items h_lanes h_sizes h_firms h_kinds h_now h_before h_images h_tape h_trace h_readFirms h_readKinds h_readAt h_rows h_bests ((ms_status S0), (ms_points S0), (ms_home S0), (ms_men S0), (ms_hasTable S0), (ms_acts S0), (ms_imaged S0), (ms_length S0), (ms_fault S0), (ms_traced S0), ((ms_spot S0) + (1 : Int32)), (ms_spot S0), v14, (0 : Int32), (ms_readPoints S0), (ms_readHome S0), (ms_readMen S0), (ms_otherOne S0), (ms_otherKind S0), (ms_items S0), (ms_lanes S0), (ms_sizes S0), (ms_firms S0), (ms_kinds S0), (ms_now S0), (ms_before S0), (ms_images S0), (ms_tape S0), (ms_trace S0), (ms_readFirms S0), (ms_readKinds S0), (ms_readAt S0), (ms_rows S0), (ms_bests S0))) X Y 47 rfl rfl fRX8_98 0 rfl rfl rfl (Nat.le_of_ble_eq_true rfl) rfl (fun H locs Y => ?_)
        exact RT ((ms_status S0), (ms_points S0), (ms_home S0), (ms_men S0), (ms_hasTable S0), (ms_acts S0), (ms_imaged S0), (ms_length S0), (ms_fault S0), (ms_traced S0), ((ms_spot S0) + (1 : Int32)), (ms_spot S0), v14, (0 : Int32), (ms_readPoints S0), (ms_readHome S0), (ms_readMen S0), (ms_otherOne S0), (ms_otherKind S0), (ms_items S0), (ms_lanes S0), (ms_sizes S0), (ms_firms S0), (ms_kinds S0), (ms_now S0), (ms_before S0), (ms_images S0), (ms_tape S0), (ms_trace S0), (ms_readFirms S0), (ms_readKinds S0), (ms_readAt S0), (ms_rows S0), (ms_bests S0)) _ _ _ _ _ hM (Or.inr (Or.inr (Or.inr (Or.inl ⟨rfl, rfl, rfl⟩)))) (X.d (k := 48) rfl) Y
      obtain ⟨J15, hJ15, hM⟩ := mJ hM
      have KJ15 : ∀ (v15 : Unit) (H : Heap) (locs : List Loc) (ls : Array Slot), J15 v15 = MM → rY G A s (wMS G h h_items h_lanes h_sizes h_firms h_kinds h_now h_before h_images h_tape h_trace h_readFirms h_readKinds h_readAt h_rows h_bests ((ms_status S0), (ms_points S0), (ms_home S0), (ms_men S0), (ms_hasTable S0), (ms_acts S0), (ms_imaged S0), (ms_length S0), (ms_fault S0), (ms_traced S0), (ms_spot S0), (ms_spot S0), (-1 : Int32), (0 : Int32), (ms_readPoints S0), (ms_readHome S0), (ms_readMen S0), (ms_otherOne S0), (ms_otherKind S0), (ms_items S0), (ms_lanes S0), (ms_sizes S0), (ms_firms S0), (ms_kinds S0), (ms_now S0), (ms_before S0), (ms_images S0), (ms_tape S0), (ms_trace S0), (ms_readFirms S0), (ms_readKinds S0), (ms_readAt S0), (ms_rows S0), (ms_bests S0))) H locs → lv_has ls 3 [(0, .ref h), (1, .int ((ms_tape S0) ((ms_spot S0)).toNatClampNeg))] → W p l e q_X8_next s m args below meth c H locs 0 0 Q (F0 m 74 ls [.ref h]) := by
        intro v15 H locs ls hM Y hl
        replace hM := (hJ15 _).symm.trans hM
        refine r_iload_n (pc' := 75) X hl 1 rfl rfl 38 rfl rfl ?_
        refine r_goto X 79 39 rfl (by decide) ?_
        exact KJ14 ((ms_tape S0) ((ms_spot S0)).toNatClampNeg) _ _ _ hM Y (lv_sub hl [0] rfl)
      refine r_if_ne (pc' := 62) X 74 31 rfl rfl (by decide) (fun c16 => ?_) (fun c16 => ?_)
      · replace hM := mE hM c16
        exact KJ15 () _ _ _ hM Y (lv_sub hl [1, 0] rfl)
      · replace hM := mI hM c16
        refine r_iload_n (pc' := 63) X hl 0 rfl rfl 32 rfl rfl ?_
        refine r_bipush (pc' := 65) X (44 : Int32) 33 rfl rfl rfl ?_
        refine r_icmp_eq (pc' := 68) X 74 34 rfl rfl (by decide) (fun c17 => ?_) (fun c17 => ?_)
        · replace hM := mI hM c17
          exact KJ15 () _ _ _ hM Y (lv_sub hl [1, 0] rfl)
        · replace hM := mE hM c17
          refine r_iload_n (pc' := 69) X hl 0 rfl rfl 35 rfl rfl ?_
          refine r_bipush (pc' := 71) X (59 : Int32) 36 rfl rfl rfl ?_
          refine r_icmp_ne (pc' := 74) X 78 37 rfl rfl (by decide) (fun c18 => ?_) (fun c18 => ?_)
          · replace hM := mE hM c18
            refine r_iconst (pc' := 79) X (-1 : Int32) 40 rfl rfl rfl ?_
            exact KJ14 (-1 : Int32) _ _ _ hM Y (lv_sub hl [1] rfl)
          · replace hM := mI hM c18
            exact KJ15 () _ _ _ hM Y (lv_sub hl [1, 0] rfl)
  · replace hM := mI hM c1
    exact RT ((ms_status S0), (ms_points S0), (ms_home S0), (ms_men S0), (ms_hasTable S0), (ms_acts S0), (ms_imaged S0), (ms_length S0), (ms_fault S0), (ms_traced S0), (ms_spot S0), (ms_spot S0), (-1 : Int32), (0 : Int32), (ms_readPoints S0), (ms_readHome S0), (ms_readMen S0), (ms_otherOne S0), (ms_otherKind S0), (ms_items S0), (ms_lanes S0), (ms_sizes S0), (ms_firms S0), (ms_kinds S0), (ms_now S0), (ms_before S0), (ms_images S0), (ms_tape S0), (ms_trace S0), (ms_readFirms S0), (ms_readKinds S0), (ms_readAt S0), (ms_rows S0), (ms_bests S0)) _ _ _ _ _ hM (Or.inr (Or.inr (Or.inr (Or.inl ⟨rfl, rfl, rfl⟩)))) (X.d (k := 15) rfl) Y

def M_X8_sign (S0 : MS) (i1 : Int32) : Option (Int32 × MS) :=
  ((M_X8_next S0).bind (fun u1 => (if (ms_token u1) = i1 then (some ((0 : Int32), u1)) else (some ((1 : Int32), u1)))))
def q_X8_sign : Room := { frames := 4, cells := 0, slots := 0, locals := 127 }
set_option maxHeartbeats 4000000 in
set_option maxRecDepth 100000 in
theorem c_X8_sign (l : Launch) (G : gT) (h h_items h_lanes h_sizes h_firms h_kinds h_now h_before h_images h_tape h_trace h_readFirms h_readKinds h_readAt h_rows h_bests : Nat) (S0 : MS) (i1 : Int32) : CT l G yX8_sign cX8_sign 2 (some .int) q_X8_sign [.ref h, .int i1] (wMS G h h_items h_lanes h_sizes h_firms h_kinds h_now h_before h_images h_tape h_trace h_readFirms h_readKinds h_readAt h_rows h_bests S0) (M_X8_sign S0 i1) (fun u => some (.int u.1)) (fun u => wMS G h h_items h_lanes h_sizes h_firms h_kinds h_now h_before h_images h_tape h_trace h_readFirms h_readKinds h_readAt h_rows h_bests u.2) := by
  refine CT.of (P := PX8_sign) (by decide) dPX8_sign (Nat.le_of_ble_eq_true rfl) ?_
  intro p e s m args below meth c A Q ls hne X RT Y hl
  have hl : lv_has ls 2 [(0, .ref h), (1, .int i1)] := hl
  generalize hM : M_X8_sign S0 i1 = MM at hne RT
  unfold M_X8_sign at hM
  refine r_aload_n (pc' := 1) X hl 0 rfl rfl 0 rfl rfl ?_
  refine r_callV (pc' := 4) (As := []) (rest := []) X Y 1 rfl rfl mRX8_117 (c_X8_next l G h h_items h_lanes h_sizes h_firms h_kinds h_now h_before h_images h_tape h_trace h_readFirms h_readKinds h_readAt h_rows h_bests S0) (mB hM hne) 0 rfl rfl [0, 1, 2, 3, 4, 5, 6, 7, 8, 9, 10, 11, 12, 13, 14, 15] [] [0, 1, 2, 3, 4, 5, 6, 7, 8, 9, 10, 11, 12, 13, 14, 15] rfl rfl ⟨rfl, rfl, rfl⟩ rfl (w2 := fun u1 => wMS G h h_items h_lanes h_sizes h_firms h_kinds h_now h_before h_images h_tape h_trace h_readFirms h_readKinds h_readAt h_rows h_bests u1) (fun _ => rfl) rfl (Nat.le_of_ble_eq_true rfl) ⟨rfl, rfl⟩ ⟨Nat.le_of_ble_eq_true rfl, Nat.le_of_ble_eq_true rfl⟩ ⟨Nat.zero_le _, Nat.zero_le _⟩ hl.1 (st' := fun u1 => []) (fun _ => rfl) (fun u1 H locs huu1 Y => ?_)
  replace hM := mS hM huu1
  refine r_aload_n (pc' := 5) X hl 0 rfl rfl 2 rfl rfl ?_
  refine r_get (pc' := 8) (v := .int (ms_token u1)) X Y 3 rfl rfl fRX8_104 0 rfl rfl ?_
  refine r_iload_n (pc' := 9) X hl 1 rfl rfl 4 rfl rfl ?_
  refine r_icmp_ne (pc' := 12) X 16 5 rfl rfl (by decide) (fun c2 => ?_) (fun c2 => ?_)
  · replace hM := mE hM c2
    refine r_iconst (pc' := 17) X (1 : Int32) 8 rfl rfl rfl ?_
    exact RT ((1 : Int32), u1) _ _ _ _ _ hM (Or.inl ⟨rfl, rfl, _, rfl⟩) (X.d (k := 9) rfl) Y
  · replace hM := mI hM c2
    refine r_iconst (pc' := 13) X (0 : Int32) 6 rfl rfl rfl ?_
    refine r_goto X 17 7 rfl (by decide) ?_
    exact RT ((0 : Int32), u1) _ _ _ _ _ hM (Or.inl ⟨rfl, rfl, _, rfl⟩) (X.d (k := 9) rfl) Y

def M_X8_numberIn (S0 : MS) (i1 : Int32) (i2 : Int32) : Option (Int32 × MS) :=
  ((M_X8_next S0).bind (fun u1 => (if (ms_token u1) = 0 then ((M_X8_in (((ms_number u1)).toInt64) ((i1).toInt64) ((i2).toInt64)).bind (fun u3 => (if u3 = 0 then (some ((2 : Int32), u1)) else (some ((0 : Int32), u1))))) else (some ((1 : Int32), u1)))))
def q_X8_numberIn : Room := { frames := 4, cells := 0, slots := 0, locals := 127 }
set_option maxHeartbeats 4000000 in
set_option maxRecDepth 100000 in
theorem c_X8_numberIn (l : Launch) (G : gT) (h h_items h_lanes h_sizes h_firms h_kinds h_now h_before h_images h_tape h_trace h_readFirms h_readKinds h_readAt h_rows h_bests : Nat) (S0 : MS) (i1 : Int32) (i2 : Int32) : CT l G yX8_numberIn cX8_numberIn 3 (some .int) q_X8_numberIn [.ref h, .int i1, .int i2] (wMS G h h_items h_lanes h_sizes h_firms h_kinds h_now h_before h_images h_tape h_trace h_readFirms h_readKinds h_readAt h_rows h_bests S0) (M_X8_numberIn S0 i1 i2) (fun u => some (.int u.1)) (fun u => wMS G h h_items h_lanes h_sizes h_firms h_kinds h_now h_before h_images h_tape h_trace h_readFirms h_readKinds h_readAt h_rows h_bests u.2) := by
  refine CT.of (P := PX8_numberIn) (by decide) dPX8_numberIn (Nat.le_of_ble_eq_true rfl) ?_
  intro p e s m args below meth c A Q ls hne X RT Y hl
  have hl : lv_has ls 3 [(0, .ref h), (1, .int i1), (2, .int i2)] := hl
  generalize hM : M_X8_numberIn S0 i1 i2 = MM at hne RT
  unfold M_X8_numberIn at hM
  refine r_aload_n (pc' := 1) X hl 0 rfl rfl 0 rfl rfl ?_
  refine r_callV (pc' := 4) (As := []) (rest := []) X Y 1 rfl rfl mRX8_117 (c_X8_next l G h h_items h_lanes h_sizes h_firms h_kinds h_now h_before h_images h_tape h_trace h_readFirms h_readKinds h_readAt h_rows h_bests S0) (mB hM hne) 0 rfl rfl [0, 1, 2, 3, 4, 5, 6, 7, 8, 9, 10, 11, 12, 13, 14, 15] [] [0, 1, 2, 3, 4, 5, 6, 7, 8, 9, 10, 11, 12, 13, 14, 15] rfl rfl ⟨rfl, rfl, rfl⟩ rfl (w2 := fun u1 => wMS G h h_items h_lanes h_sizes h_firms h_kinds h_now h_before h_images h_tape h_trace h_readFirms h_readKinds h_readAt h_rows h_bests u1) (fun _ => rfl) rfl (Nat.le_of_ble_eq_true rfl) ⟨rfl, rfl⟩ ⟨Nat.le_of_ble_eq_true rfl, Nat.le_of_ble_eq_true rfl⟩ ⟨Nat.zero_le _, Nat.zero_le _⟩ hl.1 (st' := fun u1 => []) (fun _ => rfl) (fun u1 H locs huu1 Y => ?_)
  replace hM := mS hM huu1
  refine r_aload_n (pc' := 5) X hl 0 rfl rfl 2 rfl rfl ?_
  refine r_get (pc' := 8) (v := .int (ms_token u1)) X Y 3 rfl rfl fRX8_104 0 rfl rfl ?_
  refine r_if_eq (pc' := 11) X 15 4 rfl rfl (by decide) (fun c2 => ?_) (fun c2 => ?_)
  · replace hM := mI hM c2
    refine r_aload_n (pc' := 16) X hl 0 rfl rfl 7 rfl rfl ?_
    refine r_get (pc' := 19) (v := .int (ms_number u1)) X Y 8 rfl rfl fRX8_107 0 rfl rfl ?_
    refine r_i2l (pc' := 20) X 9 rfl rfl ?_
    refine r_iload_n (pc' := 21) X hl 1 rfl rfl 10 rfl rfl ?_
    refine r_i2l (pc' := 22) X 11 rfl rfl ?_
    refine r_iload_n (pc' := 23) X hl 2 rfl rfl 12 rfl rfl ?_
    refine r_i2l (pc' := 24) X 13 rfl rfl ?_
    refine r_callS0 (pc' := 27) (As := [.long ((ms_number u1)).toInt64, .long (i1).toInt64, .long (i2).toInt64]) (rest := []) X Y 14 rfl rfl mRX8_66 (c_X8_in l G (((ms_number u1)).toInt64) ((i1).toInt64) ((i2).toInt64)) (mB hM hne) rfl [] rfl rfl rfl (Nat.le_of_ble_eq_true rfl) ⟨rfl, rfl⟩ ⟨Nat.le_of_ble_eq_true rfl, Nat.le_of_ble_eq_true rfl⟩ ⟨Nat.zero_le _, Nat.zero_le _⟩ hl.1 (st' := fun u3 => [.int u3]) (fun _ => rfl) (fun u3 H locs huu3 Y => ?_)
    replace hM := mS hM huu3
    refine r_if_eq (pc' := 30) X 34 15 rfl rfl (by decide) (fun c4 => ?_) (fun c4 => ?_)
    · replace hM := mI hM c4
      refine r_iconst (pc' := 35) X (2 : Int32) 18 rfl rfl rfl ?_
      exact RT ((2 : Int32), u1) _ _ _ _ _ hM (Or.inl ⟨rfl, rfl, _, rfl⟩) (X.d (k := 19) rfl) Y
    · replace hM := mE hM c4
      refine r_iconst (pc' := 31) X (0 : Int32) 16 rfl rfl rfl ?_
      refine r_goto X 35 17 rfl (by decide) ?_
      exact RT ((0 : Int32), u1) _ _ _ _ _ hM (Or.inl ⟨rfl, rfl, _, rfl⟩) (X.d (k := 19) rfl) Y
  · replace hM := mE hM c2
    refine r_iconst (pc' := 12) X (1 : Int32) 5 rfl rfl rfl ?_
    refine r_goto X 35 6 rfl (by decide) ?_
    exact RT ((1 : Int32), u1) _ _ _ _ _ hM (Or.inl ⟨rfl, rfl, _, rfl⟩) (X.d (k := 19) rfl) Y

def M_X8_law (S0 : MS) : Option (Int32 × MS) :=
  ((M_X8_sign S0 (116 : Int32)).bind (fun u1 => (jn (σ := Int32 × MS) (fun v2 => (jn (σ := MS × Int32) (fun v3 => (jn (σ := Int32 × MS) (fun v4 => (if v4.1 = 0 then ((M_X8_sign v4.2 (59 : Int32)).bind (fun u6 => (some (u6.1, u6.2)))) else (some (v4.1, v4.2)))) (fun J4 => (if v3.2 = 0 then ((M_X8_numberIn v3.1 (1 : Int32) (4 : Int32)).bind (fun u8 => (J4 (u8.1, ((ms_status u8.2), (ms_points u8.2), (ms_home u8.2), (ms_men u8.2), (ms_hasTable u8.2), (ms_acts u8.2), (ms_imaged u8.2), (ms_length u8.2), (ms_fault u8.2), (ms_traced u8.2), (ms_spot u8.2), (ms_begins u8.2), (ms_token u8.2), (ms_number u8.2), (ms_readPoints u8.2), (ms_number u8.2), (ms_readMen u8.2), (ms_otherOne u8.2), (ms_otherKind u8.2), (ms_items u8.2), (ms_lanes u8.2), (ms_sizes u8.2), (ms_firms u8.2), (ms_kinds u8.2), (ms_now u8.2), (ms_before u8.2), (ms_images u8.2), (ms_tape u8.2), (ms_trace u8.2), (ms_readFirms u8.2), (ms_readKinds u8.2), (ms_readAt u8.2), (ms_rows u8.2), (ms_bests u8.2)))))) else (J4 (v3.2, v3.1)))))) (fun J3 => (if v2.1 = 0 then ((M_X8_sign v2.2 (44 : Int32)).bind (fun u10 => (J3 (u10.2, u10.1)))) else (J3 (v2.2, v2.1)))))) (fun J2 => (if u1.1 = 0 then ((M_X8_numberIn u1.2 (4 : Int32) (12 : Int32)).bind (fun u12 => (J2 (u12.1, ((ms_status u12.2), (ms_points u12.2), (ms_home u12.2), (ms_men u12.2), (ms_hasTable u12.2), (ms_acts u12.2), (ms_imaged u12.2), (ms_length u12.2), (ms_fault u12.2), (ms_traced u12.2), (ms_spot u12.2), (ms_begins u12.2), (ms_token u12.2), (ms_number u12.2), (ms_number u12.2), (ms_readHome u12.2), (ms_readMen u12.2), (ms_otherOne u12.2), (ms_otherKind u12.2), (ms_items u12.2), (ms_lanes u12.2), (ms_sizes u12.2), (ms_firms u12.2), (ms_kinds u12.2), (ms_now u12.2), (ms_before u12.2), (ms_images u12.2), (ms_tape u12.2), (ms_trace u12.2), (ms_readFirms u12.2), (ms_readKinds u12.2), (ms_readAt u12.2), (ms_rows u12.2), (ms_bests u12.2)))))) else (J2 (u1.1, u1.2)))))))
def q_X8_law : Room := { frames := 5, cells := 0, slots := 0, locals := 149 }
set_option maxHeartbeats 4000000 in
set_option maxRecDepth 100000 in
theorem c_X8_law (l : Launch) (G : gT) (h h_items h_lanes h_sizes h_firms h_kinds h_now h_before h_images h_tape h_trace h_readFirms h_readKinds h_readAt h_rows h_bests : Nat) (S0 : MS) : CT l G yX8_law cX8_law 2 (some .int) q_X8_law [.ref h] (wMS G h h_items h_lanes h_sizes h_firms h_kinds h_now h_before h_images h_tape h_trace h_readFirms h_readKinds h_readAt h_rows h_bests S0) (M_X8_law S0) (fun u => some (.int u.1)) (fun u => wMS G h h_items h_lanes h_sizes h_firms h_kinds h_now h_before h_images h_tape h_trace h_readFirms h_readKinds h_readAt h_rows h_bests u.2) := by
  refine CT.of (P := PX8_law) (by decide) dPX8_law (Nat.le_of_ble_eq_true rfl) ?_
  intro p e s m args below meth c A Q ls hne X RT Y hl
  have hl : lv_has ls 2 [(0, .ref h)] := hl
  generalize hM : M_X8_law S0 = MM at hne RT
  unfold M_X8_law at hM
  refine r_aload_n (pc' := 1) X hl 0 rfl rfl 0 rfl rfl ?_
  refine r_bipush (pc' := 3) X (116 : Int32) 1 rfl rfl rfl ?_
  refine r_callV (pc' := 6) (As := [.int (116 : Int32)]) (rest := []) X Y 2 rfl rfl mRX8_120 (c_X8_sign l G h h_items h_lanes h_sizes h_firms h_kinds h_now h_before h_images h_tape h_trace h_readFirms h_readKinds h_readAt h_rows h_bests S0 (116 : Int32)) (mB hM hne) 0 rfl rfl [0, 1, 2, 3, 4, 5, 6, 7, 8, 9, 10, 11, 12, 13, 14, 15] [] [0, 1, 2, 3, 4, 5, 6, 7, 8, 9, 10, 11, 12, 13, 14, 15] rfl rfl ⟨rfl, rfl, rfl⟩ rfl (w2 := fun u1 => wMS G h h_items h_lanes h_sizes h_firms h_kinds h_now h_before h_images h_tape h_trace h_readFirms h_readKinds h_readAt h_rows h_bests u1.2) (fun _ => rfl) rfl (Nat.le_of_ble_eq_true rfl) ⟨rfl, rfl⟩ ⟨Nat.le_of_ble_eq_true rfl, Nat.le_of_ble_eq_true rfl⟩ ⟨Nat.zero_le _, Nat.zero_le _⟩ hl.1 (st' := fun u1 => [.int u1.1]) (fun _ => rfl) (fun u1 H locs huu1 Y => ?_)
  replace hM := mS hM huu1
  refine r_istore_n (pc' := 7) (L' := [(1, .int u1.1), (0, .ref h)]) X hl rfl 3 rfl rfl (by decide) rfl (fun ls hl => ?_)
  refine r_iload_n (pc' := 8) X hl 0 rfl rfl 4 rfl rfl ?_
  obtain ⟨J2, hJ2, hM⟩ := mJ hM
  have KJ2 : ∀ (v2 : Int32 × MS) (H : Heap) (locs : List Loc) (ls : Array Slot), J2 v2 = MM → rY G A s (wMS G h h_items h_lanes h_sizes h_firms h_kinds h_now h_before h_images h_tape h_trace h_readFirms h_readKinds h_readAt h_rows h_bests v2.2) H locs → lv_has ls 2 [(0, .ref h), (1, .int v2.1)] → W p l e q_X8_law s m args below meth c H locs 0 0 Q (F0 m 27 ls []) := by
    intro v2 H locs ls hM Y hl
    replace hM := (hJ2 _).symm.trans hM
    refine r_iload_n (pc' := 28) X hl 1 rfl rfl 15 rfl rfl ?_
    obtain ⟨J3, hJ3, hM⟩ := mJ hM
    have KJ3 : ∀ (v3 : MS × Int32) (H : Heap) (locs : List Loc) (ls : Array Slot), J3 v3 = MM → rY G A s (wMS G h h_items h_lanes h_sizes h_firms h_kinds h_now h_before h_images h_tape h_trace h_readFirms h_readKinds h_readAt h_rows h_bests v3.1) H locs → lv_has ls 2 [(0, .ref h)] → W p l e q_X8_law s m args below meth c H locs 0 0 Q (F0 m 41 ls [.int v3.2]) := by
      intro v3 H locs ls hM Y hl
      replace hM := (hJ3 _).symm.trans hM
      refine r_istore_n (pc' := 42) (L' := [(1, .int v3.2), (0, .ref h)]) X hl rfl 22 rfl rfl (by decide) rfl (fun ls hl => ?_)
      refine r_iload_n (pc' := 43) X hl 0 rfl rfl 23 rfl rfl ?_
      obtain ⟨J4, hJ4, hM⟩ := mJ hM
      have KJ4 : ∀ (v4 : Int32 × MS) (H : Heap) (locs : List Loc) (ls : Array Slot), J4 v4 = MM → rY G A s (wMS G h h_items h_lanes h_sizes h_firms h_kinds h_now h_before h_images h_tape h_trace h_readFirms h_readKinds h_readAt h_rows h_bests v4.2) H locs → lv_has ls 2 [(0, .ref h), (1, .int v4.1)] → W p l e q_X8_law s m args below meth c H locs 0 0 Q (F0 m 61 ls []) := by
        intro v4 H locs ls hM Y hl
        replace hM := (hJ4 _).symm.trans hM
        refine r_iload_n (pc' := 62) X hl 1 rfl rfl 34 rfl rfl ?_
        refine r_if_ne (pc' := 65) X 74 35 rfl rfl (by decide) (fun c5 => ?_) (fun c5 => ?_)
        · replace hM := mE hM c5
          refine r_iload_n (pc' := 75) X hl 1 rfl rfl 40 rfl rfl ?_
          exact RT (v4.1, v4.2) _ _ _ _ _ hM (Or.inl ⟨rfl, rfl, _, rfl⟩) (X.d (k := 41) rfl) Y
        · replace hM := mI hM c5
          refine r_aload_n (pc' := 66) X hl 0 rfl rfl 36 rfl rfl ?_
          refine r_bipush (pc' := 68) X (59 : Int32) 37 rfl rfl rfl ?_
          refine r_callV (pc' := 71) (As := [.int (59 : Int32)]) (rest := []) X Y 38 rfl rfl mRX8_120 (c_X8_sign l G h h_items h_lanes h_sizes h_firms h_kinds h_now h_before h_images h_tape h_trace h_readFirms h_readKinds h_readAt h_rows h_bests v4.2 (59 : Int32)) (mB hM hne) 0 rfl rfl [0, 1, 2, 3, 4, 5, 6, 7, 8, 9, 10, 11, 12, 13, 14, 15] [] [0, 1, 2, 3, 4, 5, 6, 7, 8, 9, 10, 11, 12, 13, 14, 15] rfl rfl ⟨rfl, rfl, rfl⟩ rfl (w2 := fun u6 => wMS G h h_items h_lanes h_sizes h_firms h_kinds h_now h_before h_images h_tape h_trace h_readFirms h_readKinds h_readAt h_rows h_bests u6.2) (fun _ => rfl) rfl (Nat.le_of_ble_eq_true rfl) ⟨rfl, rfl⟩ ⟨Nat.le_of_ble_eq_true rfl, Nat.le_of_ble_eq_true rfl⟩ ⟨Nat.zero_le _, Nat.zero_le _⟩ hl.1 (st' := fun u6 => [.int u6.1]) (fun _ => rfl) (fun u6 H locs huu6 Y => ?_)
          replace hM := mS hM huu6
          refine r_goto X 75 39 rfl (by decide) ?_
          exact RT (u6.1, u6.2) _ _ _ _ _ hM (Or.inl ⟨rfl, rfl, _, rfl⟩) (X.d (k := 41) rfl) Y
      refine r_if_ne (pc' := 46) X 61 24 rfl rfl (by decide) (fun c7 => ?_) (fun c7 => ?_)
      · replace hM := mE hM c7
        exact KJ4 (v3.2, v3.1) _ _ _ hM Y (lv_sub hl [1, 0] rfl)
      · replace hM := mI hM c7
        refine r_aload_n (pc' := 47) X hl 1 rfl rfl 25 rfl rfl ?_
        refine r_iconst (pc' := 48) X (1 : Int32) 26 rfl rfl rfl ?_
        refine r_iconst (pc' := 49) X (4 : Int32) 27 rfl rfl rfl ?_
        refine r_callV (pc' := 52) (As := [.int (1 : Int32), .int (4 : Int32)]) (rest := []) X Y 28 rfl rfl mRX8_123 (c_X8_numberIn l G h h_items h_lanes h_sizes h_firms h_kinds h_now h_before h_images h_tape h_trace h_readFirms h_readKinds h_readAt h_rows h_bests v3.1 (1 : Int32) (4 : Int32)) (mB hM hne) 0 rfl rfl [0, 1, 2, 3, 4, 5, 6, 7, 8, 9, 10, 11, 12, 13, 14, 15] [] [0, 1, 2, 3, 4, 5, 6, 7, 8, 9, 10, 11, 12, 13, 14, 15] rfl rfl ⟨rfl, rfl, rfl⟩ rfl (w2 := fun u8 => wMS G h h_items h_lanes h_sizes h_firms h_kinds h_now h_before h_images h_tape h_trace h_readFirms h_readKinds h_readAt h_rows h_bests u8.2) (fun _ => rfl) rfl (Nat.le_of_ble_eq_true rfl) ⟨rfl, rfl⟩ ⟨Nat.le_of_ble_eq_true rfl, Nat.le_of_ble_eq_true rfl⟩ ⟨Nat.zero_le _, Nat.zero_le _⟩ hl.1 (st' := fun u8 => [.int u8.1]) (fun _ => rfl) (fun u8 H locs huu8 Y => ?_)
        replace hM := mS hM huu8
        refine r_istore_n (pc' := 53) (L' := [(1, .int u8.1), (0, .ref h)]) X hl rfl 29 rfl rfl (by decide) rfl (fun ls hl => ?_)
        refine r_aload_n (pc' := 54) X hl 1 rfl rfl 30 rfl rfl ?_
        refine r_aload_n (pc' := 55) X hl 1 rfl rfl 31 rfl rfl ?_
        refine r_get (pc' := 58) (v := .int (ms_number u8.2)) X Y 32 rfl rfl fRX8_107 0 rfl rfl ?_
        refine r_put (pc' := 61) (ws' := wMS G h h_items h_lanes h_sizes h_firms h_kinds h_now h_before h_images h_tape h_trace h_readFirms h_readKinds h_readAt h_rows h_bests ((ms_status u8.2), (ms_points u8.2), (ms_home u8.2), (ms_men u8.2), (ms_hasTable u8.2), (ms_acts u8.2), (ms_imaged u8.2), (ms_length u8.2), (ms_fault u8.2), (ms_traced u8.2), (ms_spot u8.2), (ms_begins u8.2), (ms_token u8.2), (ms_number u8.2), (ms_readPoints u8.2), (ms_number u8.2), (ms_readMen u8.2), (ms_otherOne u8.2), (ms_otherKind u8.2), (ms_items u8.2), (ms_lanes u8.2), (ms_sizes u8.2), (ms_firms u8.2), (ms_kinds u8.2), (ms_now u8.2), (ms_before u8.2), (ms_images u8.2), (ms_tape u8.2), (ms_trace u8.2), (ms_readFirms u8.2), (ms_readKinds u8.2), (ms_readAt u8.2), (ms_rows u8.2), (ms_bests u8.2))) X Y 33 rfl rfl fRX8_130 0 rfl rfl rfl (Nat.le_of_ble_eq_true rfl) rfl (fun H locs Y => ?_)
        exact KJ4 (u8.1, ((ms_status u8.2), (ms_points u8.2), (ms_home u8.2), (ms_men u8.2), (ms_hasTable u8.2), (ms_acts u8.2), (ms_imaged u8.2), (ms_length u8.2), (ms_fault u8.2), (ms_traced u8.2), (ms_spot u8.2), (ms_begins u8.2), (ms_token u8.2), (ms_number u8.2), (ms_readPoints u8.2), (ms_number u8.2), (ms_readMen u8.2), (ms_otherOne u8.2), (ms_otherKind u8.2), (ms_items u8.2), (ms_lanes u8.2), (ms_sizes u8.2), (ms_firms u8.2), (ms_kinds u8.2), (ms_now u8.2), (ms_before u8.2), (ms_images u8.2), (ms_tape u8.2), (ms_trace u8.2), (ms_readFirms u8.2), (ms_readKinds u8.2), (ms_readAt u8.2), (ms_rows u8.2), (ms_bests u8.2))) _ _ _ hM Y (lv_sub hl [1, 0] rfl)
    refine r_if_ne (pc' := 31) X 40 16 rfl rfl (by decide) (fun c9 => ?_) (fun c9 => ?_)
    · replace hM := mE hM c9
      refine r_iload_n (pc' := 41) X hl 1 rfl rfl 21 rfl rfl ?_
      exact KJ3 (v2.2, v2.1) _ _ _ hM Y (lv_sub hl [0] rfl)
    · replace hM := mI hM c9
      refine r_aload_n (pc' := 32) X hl 0 rfl rfl 17 rfl rfl ?_
      refine r_bipush (pc' := 34) X (44 : Int32) 18 rfl rfl rfl ?_
      refine r_callV (pc' := 37) (As := [.int (44 : Int32)]) (rest := []) X Y 19 rfl rfl mRX8_120 (c_X8_sign l G h h_items h_lanes h_sizes h_firms h_kinds h_now h_before h_images h_tape h_trace h_readFirms h_readKinds h_readAt h_rows h_bests v2.2 (44 : Int32)) (mB hM hne) 0 rfl rfl [0, 1, 2, 3, 4, 5, 6, 7, 8, 9, 10, 11, 12, 13, 14, 15] [] [0, 1, 2, 3, 4, 5, 6, 7, 8, 9, 10, 11, 12, 13, 14, 15] rfl rfl ⟨rfl, rfl, rfl⟩ rfl (w2 := fun u10 => wMS G h h_items h_lanes h_sizes h_firms h_kinds h_now h_before h_images h_tape h_trace h_readFirms h_readKinds h_readAt h_rows h_bests u10.2) (fun _ => rfl) rfl (Nat.le_of_ble_eq_true rfl) ⟨rfl, rfl⟩ ⟨Nat.le_of_ble_eq_true rfl, Nat.le_of_ble_eq_true rfl⟩ ⟨Nat.zero_le _, Nat.zero_le _⟩ hl.1 (st' := fun u10 => [.int u10.1]) (fun _ => rfl) (fun u10 H locs huu10 Y => ?_)
      replace hM := mS hM huu10
      refine r_goto X 41 20 rfl (by decide) ?_
      exact KJ3 (u10.2, u10.1) _ _ _ hM Y (lv_sub hl [0] rfl)
  refine r_if_ne (pc' := 11) X 27 5 rfl rfl (by decide) (fun c11 => ?_) (fun c11 => ?_)
  · replace hM := mE hM c11
    exact KJ2 (u1.1, u1.2) _ _ _ hM Y (lv_sub hl [1, 0] rfl)
  · replace hM := mI hM c11
    refine r_aload_n (pc' := 12) X hl 1 rfl rfl 6 rfl rfl ?_
    refine r_iconst (pc' := 13) X (4 : Int32) 7 rfl rfl rfl ?_
    refine r_bipush (pc' := 15) X (12 : Int32) 8 rfl rfl rfl ?_
    refine r_callV (pc' := 18) (As := [.int (4 : Int32), .int (12 : Int32)]) (rest := []) X Y 9 rfl rfl mRX8_123 (c_X8_numberIn l G h h_items h_lanes h_sizes h_firms h_kinds h_now h_before h_images h_tape h_trace h_readFirms h_readKinds h_readAt h_rows h_bests u1.2 (4 : Int32) (12 : Int32)) (mB hM hne) 0 rfl rfl [0, 1, 2, 3, 4, 5, 6, 7, 8, 9, 10, 11, 12, 13, 14, 15] [] [0, 1, 2, 3, 4, 5, 6, 7, 8, 9, 10, 11, 12, 13, 14, 15] rfl rfl ⟨rfl, rfl, rfl⟩ rfl (w2 := fun u12 => wMS G h h_items h_lanes h_sizes h_firms h_kinds h_now h_before h_images h_tape h_trace h_readFirms h_readKinds h_readAt h_rows h_bests u12.2) (fun _ => rfl) rfl (Nat.le_of_ble_eq_true rfl) ⟨rfl, rfl⟩ ⟨Nat.le_of_ble_eq_true rfl, Nat.le_of_ble_eq_true rfl⟩ ⟨Nat.zero_le _, Nat.zero_le _⟩ hl.1 (st' := fun u12 => [.int u12.1]) (fun _ => rfl) (fun u12 H locs huu12 Y => ?_)
    replace hM := mS hM huu12
    refine r_istore_n (pc' := 19) (L' := [(1, .int u12.1), (0, .ref h)]) X hl rfl 10 rfl rfl (by decide) rfl (fun ls hl => ?_)
    refine r_aload_n (pc' := 20) X hl 1 rfl rfl 11 rfl rfl ?_
    refine r_aload_n (pc' := 21) X hl 1 rfl rfl 12 rfl rfl ?_
    refine r_get (pc' := 24) (v := .int (ms_number u12.2)) X Y 13 rfl rfl fRX8_107 0 rfl rfl ?_
    refine r_put (pc' := 27) (ws' := wMS G h h_items h_lanes h_sizes h_firms h_kinds h_now h_before h_images h_tape h_trace h_readFirms h_readKinds h_readAt h_rows h_bests ((ms_status u12.2), (ms_points u12.2), (ms_home u12.2), (ms_men u12.2), (ms_hasTable u12.2), (ms_acts u12.2), (ms_imaged u12.2), (ms_length u12.2), (ms_fault u12.2), (ms_traced u12.2), (ms_spot u12.2), (ms_begins u12.2), (ms_token u12.2), (ms_number u12.2), (ms_number u12.2), (ms_readHome u12.2), (ms_readMen u12.2), (ms_otherOne u12.2), (ms_otherKind u12.2), (ms_items u12.2), (ms_lanes u12.2), (ms_sizes u12.2), (ms_firms u12.2), (ms_kinds u12.2), (ms_now u12.2), (ms_before u12.2), (ms_images u12.2), (ms_tape u12.2), (ms_trace u12.2), (ms_readFirms u12.2), (ms_readKinds u12.2), (ms_readAt u12.2), (ms_rows u12.2), (ms_bests u12.2))) X Y 14 rfl rfl fRX8_127 0 rfl rfl rfl (Nat.le_of_ble_eq_true rfl) rfl (fun H locs Y => ?_)
    exact KJ2 (u12.1, ((ms_status u12.2), (ms_points u12.2), (ms_home u12.2), (ms_men u12.2), (ms_hasTable u12.2), (ms_acts u12.2), (ms_imaged u12.2), (ms_length u12.2), (ms_fault u12.2), (ms_traced u12.2), (ms_spot u12.2), (ms_begins u12.2), (ms_token u12.2), (ms_number u12.2), (ms_number u12.2), (ms_readHome u12.2), (ms_readMen u12.2), (ms_otherOne u12.2), (ms_otherKind u12.2), (ms_items u12.2), (ms_lanes u12.2), (ms_sizes u12.2), (ms_firms u12.2), (ms_kinds u12.2), (ms_now u12.2), (ms_before u12.2), (ms_images u12.2), (ms_tape u12.2), (ms_trace u12.2), (ms_readFirms u12.2), (ms_readKinds u12.2), (ms_readAt u12.2), (ms_rows u12.2), (ms_bests u12.2))) _ _ _ hM Y (lv_sub hl [1, 0] rfl)

def M_X8_kindOf (i0 : Int32) : Option (Int32) :=
  (if i0 = (99 : Int32) then (some (1 : Int32)) else (if i0 = (114 : Int32) then (some (2 : Int32)) else (if i0 = (111 : Int32) then (some (3 : Int32)) else (if i0 = (112 : Int32) then (some (4 : Int32)) else (if i0 = (98 : Int32) then (some (5 : Int32)) else (some (0 : Int32)))))))
def q_X8_kindOf : Room := { frames := 1, cells := 0, slots := 0, locals := 60 }
set_option maxHeartbeats 4000000 in
set_option maxRecDepth 100000 in
theorem c_X8_kindOf (l : Launch) (G : gT) (i0 : Int32) : CT l G yX8_kindOf cX8_kindOf 1 (some .int) q_X8_kindOf [.int i0] ([]) (M_X8_kindOf i0) (fun u => some (.int u)) (fun u => []) := by
  refine CT.of (P := PX8_kindOf) (by decide) dPX8_kindOf (Nat.le_of_ble_eq_true rfl) ?_
  intro p e s m args below meth c A Q ls hne X RT Y hl
  have hl : lv_has ls 1 [(0, .int i0)] := hl
  generalize hM : M_X8_kindOf i0 = MM at hne RT
  unfold M_X8_kindOf at hM
  refine r_iload_n (pc' := 1) X hl 0 rfl rfl 0 rfl rfl ?_
  refine r_bipush (pc' := 3) X (99 : Int32) 1 rfl rfl rfl ?_
  refine r_icmp_ne (pc' := 6) X 10 2 rfl rfl (by decide) (fun c1 => ?_) (fun c1 => ?_)
  · replace hM := mE hM c1
    refine r_iload_n (pc' := 11) X hl 0 rfl rfl 5 rfl rfl ?_
    refine r_bipush (pc' := 13) X (114 : Int32) 6 rfl rfl rfl ?_
    refine r_icmp_ne (pc' := 16) X 20 7 rfl rfl (by decide) (fun c2 => ?_) (fun c2 => ?_)
    · replace hM := mE hM c2
      refine r_iload_n (pc' := 21) X hl 0 rfl rfl 10 rfl rfl ?_
      refine r_bipush (pc' := 23) X (111 : Int32) 11 rfl rfl rfl ?_
      refine r_icmp_ne (pc' := 26) X 30 12 rfl rfl (by decide) (fun c3 => ?_) (fun c3 => ?_)
      · replace hM := mE hM c3
        refine r_iload_n (pc' := 31) X hl 0 rfl rfl 15 rfl rfl ?_
        refine r_bipush (pc' := 33) X (112 : Int32) 16 rfl rfl rfl ?_
        refine r_icmp_ne (pc' := 36) X 40 17 rfl rfl (by decide) (fun c4 => ?_) (fun c4 => ?_)
        · replace hM := mE hM c4
          refine r_iload_n (pc' := 41) X hl 0 rfl rfl 20 rfl rfl ?_
          refine r_bipush (pc' := 43) X (98 : Int32) 21 rfl rfl rfl ?_
          refine r_icmp_ne (pc' := 46) X 50 22 rfl rfl (by decide) (fun c5 => ?_) (fun c5 => ?_)
          · replace hM := mE hM c5
            refine r_iconst (pc' := 51) X (0 : Int32) 25 rfl rfl rfl ?_
            exact RT (0 : Int32) _ _ _ _ _ hM (Or.inl ⟨rfl, rfl, _, rfl⟩) (X.d (k := 26) rfl) Y
          · replace hM := mI hM c5
            refine r_iconst (pc' := 47) X (5 : Int32) 23 rfl rfl rfl ?_
            refine r_goto X 51 24 rfl (by decide) ?_
            exact RT (5 : Int32) _ _ _ _ _ hM (Or.inl ⟨rfl, rfl, _, rfl⟩) (X.d (k := 26) rfl) Y
        · replace hM := mI hM c4
          refine r_iconst (pc' := 37) X (4 : Int32) 18 rfl rfl rfl ?_
          refine r_goto X 51 19 rfl (by decide) ?_
          exact RT (4 : Int32) _ _ _ _ _ hM (Or.inl ⟨rfl, rfl, _, rfl⟩) (X.d (k := 26) rfl) Y
      · replace hM := mI hM c3
        refine r_iconst (pc' := 27) X (3 : Int32) 13 rfl rfl rfl ?_
        refine r_goto X 51 14 rfl (by decide) ?_
        exact RT (3 : Int32) _ _ _ _ _ hM (Or.inl ⟨rfl, rfl, _, rfl⟩) (X.d (k := 26) rfl) Y
    · replace hM := mI hM c2
      refine r_iconst (pc' := 17) X (2 : Int32) 8 rfl rfl rfl ?_
      refine r_goto X 51 9 rfl (by decide) ?_
      exact RT (2 : Int32) _ _ _ _ _ hM (Or.inl ⟨rfl, rfl, _, rfl⟩) (X.d (k := 26) rfl) Y
  · replace hM := mI hM c1
    refine r_iconst (pc' := 7) X (1 : Int32) 3 rfl rfl rfl ?_
    refine r_goto X 51 4 rfl (by decide) ?_
    exact RT (1 : Int32) _ _ _ _ _ hM (Or.inl ⟨rfl, rfl, _, rfl⟩) (X.d (k := 26) rfl) Y

def M_X8_manItem (S0 : MS) : Option (Int32 × MS) :=
  ((M_X8_next S0).bind (fun u1 => ((M_X8_kindOf (ms_token u1)).bind (fun u2 => (if u2 = 0 then (some ((1 : Int32), u1)) else (if (ms_readMen u1) = (8 : Int32) then (some ((3 : Int32), u1)) else (if inb (ms_readMen u1) 8 = true then ((M_X8_numberIn (((ms_status u1), (ms_points u1), (ms_home u1), (ms_men u1), (ms_hasTable u1), (ms_acts u1), (ms_imaged u1), (ms_length u1), (ms_fault u1), (ms_traced u1), (ms_spot u1), (ms_begins u1), (ms_token u1), (ms_number u1), (ms_readPoints u1), (ms_readHome u1), (ms_readMen u1), (ms_otherOne u1), (ms_otherKind u1), (ms_items u1), (ms_lanes u1), (ms_sizes u1), (ms_firms u1), (ms_kinds u1), (ms_now u1), (ms_before u1), (ms_images u1), (ms_tape u1), (ms_trace u1), (ms_readFirms u1), (upd (ms_readKinds u1) ((ms_readMen u1)).toNatClampNeg u2), (ms_readAt u1), (ms_rows u1), (ms_bests u1))) (0 : Int32) (1 : Int32)).bind (fun u6 => (if inb (ms_readMen u6.2) 8 = true then (jn (σ := MS × Int32) (fun v8 => (jn (σ := Int32 × MS) (fun v9 => (jn (σ := MS × Int32) (fun v10 => (some (v10.2, ((ms_status v10.1), (ms_points v10.1), (ms_home v10.1), (ms_men v10.1), (ms_hasTable v10.1), (ms_acts v10.1), (ms_imaged v10.1), (ms_length v10.1), (ms_fault v10.1), (ms_traced v10.1), (ms_spot v10.1), (ms_begins v10.1), (ms_token v10.1), (ms_number v10.1), (ms_readPoints v10.1), (ms_readHome v10.1), ((ms_readMen v10.1) + (1 : Int32)), (ms_otherOne v10.1), (ms_otherKind v10.1), (ms_items v10.1), (ms_lanes v10.1), (ms_sizes v10.1), (ms_firms v10.1), (ms_kinds v10.1), (ms_now v10.1), (ms_before v10.1), (ms_images v10.1), (ms_tape v10.1), (ms_trace v10.1), (ms_readFirms v10.1), (ms_readKinds v10.1), (ms_readAt v10.1), (ms_rows v10.1), (ms_bests v10.1))))) (fun J10 => (if v9.1 = 0 then ((M_X8_sign v9.2 (59 : Int32)).bind (fun u12 => (J10 (u12.2, u12.1)))) else (J10 (v9.2, v9.1)))))) (fun J9 => (if v8.2 = 0 then ((M_X8_numberIn v8.1 (0 : Int32) (ms_readPoints v8.1)).bind (fun u14 => (if inb (ms_readMen u14.2) 8 = true then (J9 (u14.1, ((ms_status u14.2), (ms_points u14.2), (ms_home u14.2), (ms_men u14.2), (ms_hasTable u14.2), (ms_acts u14.2), (ms_imaged u14.2), (ms_length u14.2), (ms_fault u14.2), (ms_traced u14.2), (ms_spot u14.2), (ms_begins u14.2), (ms_token u14.2), (ms_number u14.2), (ms_readPoints u14.2), (ms_readHome u14.2), (ms_readMen u14.2), (ms_otherOne u14.2), (ms_otherKind u14.2), (ms_items u14.2), (ms_lanes u14.2), (ms_sizes u14.2), (ms_firms u14.2), (ms_kinds u14.2), (ms_now u14.2), (ms_before u14.2), (ms_images u14.2), (ms_tape u14.2), (ms_trace u14.2), (ms_readFirms u14.2), (ms_readKinds u14.2), (upd (ms_readAt u14.2) ((ms_readMen u14.2)).toNatClampNeg (ms_number u14.2)), (ms_rows u14.2), (ms_bests u14.2)))) else none))) else (J9 (v8.2, v8.1)))))) (fun J8 => (if u6.1 = 0 then ((M_X8_sign (((ms_status u6.2), (ms_points u6.2), (ms_home u6.2), (ms_men u6.2), (ms_hasTable u6.2), (ms_acts u6.2), (ms_imaged u6.2), (ms_length u6.2), (ms_fault u6.2), (ms_traced u6.2), (ms_spot u6.2), (ms_begins u6.2), (ms_token u6.2), (ms_number u6.2), (ms_readPoints u6.2), (ms_readHome u6.2), (ms_readMen u6.2), (ms_otherOne u6.2), (ms_otherKind u6.2), (ms_items u6.2), (ms_lanes u6.2), (ms_sizes u6.2), (ms_firms u6.2), (ms_kinds u6.2), (ms_now u6.2), (ms_before u6.2), (ms_images u6.2), (ms_tape u6.2), (ms_trace u6.2), (upd (ms_readFirms u6.2) ((ms_readMen u6.2)).toNatClampNeg (ms_number u6.2)), (ms_readKinds u6.2), (ms_readAt u6.2), (ms_rows u6.2), (ms_bests u6.2))) (44 : Int32)).bind (fun u17 => (J8 (u17.2, u17.1)))) else (J8 (((ms_status u6.2), (ms_points u6.2), (ms_home u6.2), (ms_men u6.2), (ms_hasTable u6.2), (ms_acts u6.2), (ms_imaged u6.2), (ms_length u6.2), (ms_fault u6.2), (ms_traced u6.2), (ms_spot u6.2), (ms_begins u6.2), (ms_token u6.2), (ms_number u6.2), (ms_readPoints u6.2), (ms_readHome u6.2), (ms_readMen u6.2), (ms_otherOne u6.2), (ms_otherKind u6.2), (ms_items u6.2), (ms_lanes u6.2), (ms_sizes u6.2), (ms_firms u6.2), (ms_kinds u6.2), (ms_now u6.2), (ms_before u6.2), (ms_images u6.2), (ms_tape u6.2), (ms_trace u6.2), (upd (ms_readFirms u6.2) ((ms_readMen u6.2)).toNatClampNeg (ms_number u6.2)), (ms_readKinds u6.2), (ms_readAt u6.2), (ms_rows u6.2), (ms_bests u6.2)), u6.1))))) else none))) else none)))))))
def q_X8_manItem : Room := { frames := 5, cells := 0, slots := 0, locals := 149 }
set_option maxHeartbeats 4000000 in
set_option maxRecDepth 100000 in
theorem c_X8_manItem (l : Launch) (G : gT) (h h_items h_lanes h_sizes h_firms h_kinds h_now h_before h_images h_tape h_trace h_readFirms h_readKinds h_readAt h_rows h_bests : Nat) (S0 : MS) : CT l G yX8_manItem cX8_manItem 3 (some .int) q_X8_manItem [.ref h] (wMS G h h_items h_lanes h_sizes h_firms h_kinds h_now h_before h_images h_tape h_trace h_readFirms h_readKinds h_readAt h_rows h_bests S0) (M_X8_manItem S0) (fun u => some (.int u.1)) (fun u => wMS G h h_items h_lanes h_sizes h_firms h_kinds h_now h_before h_images h_tape h_trace h_readFirms h_readKinds h_readAt h_rows h_bests u.2) := by
  refine CT.of (P := PX8_manItem) (by decide) dPX8_manItem (Nat.le_of_ble_eq_true rfl) ?_
  intro p e s m args below meth c A Q ls hne X RT Y hl
  have hl : lv_has ls 3 [(0, .ref h)] := hl
  generalize hM : M_X8_manItem S0 = MM at hne RT
  unfold M_X8_manItem at hM
  refine r_aload_n (pc' := 1) X hl 0 rfl rfl 0 rfl rfl ?_
  refine r_callV (pc' := 4) (As := []) (rest := []) X Y 1 rfl rfl mRX8_117 (c_X8_next l G h h_items h_lanes h_sizes h_firms h_kinds h_now h_before h_images h_tape h_trace h_readFirms h_readKinds h_readAt h_rows h_bests S0) (mB hM hne) 0 rfl rfl [0, 1, 2, 3, 4, 5, 6, 7, 8, 9, 10, 11, 12, 13, 14, 15] [] [0, 1, 2, 3, 4, 5, 6, 7, 8, 9, 10, 11, 12, 13, 14, 15] rfl rfl ⟨rfl, rfl, rfl⟩ rfl (w2 := fun u1 => wMS G h h_items h_lanes h_sizes h_firms h_kinds h_now h_before h_images h_tape h_trace h_readFirms h_readKinds h_readAt h_rows h_bests u1) (fun _ => rfl) rfl (Nat.le_of_ble_eq_true rfl) ⟨rfl, rfl⟩ ⟨Nat.le_of_ble_eq_true rfl, Nat.le_of_ble_eq_true rfl⟩ ⟨Nat.zero_le _, Nat.zero_le _⟩ hl.1 (st' := fun u1 => []) (fun _ => rfl) (fun u1 H locs huu1 Y => ?_)
  replace hM := mS hM huu1
  refine r_aload_n (pc' := 5) X hl 0 rfl rfl 2 rfl rfl ?_
  refine r_get (pc' := 8) (v := .int (ms_token u1)) X Y 3 rfl rfl fRX8_104 0 rfl rfl ?_
  refine r_callS0 (pc' := 11) (As := [.int (ms_token u1)]) (rest := []) X Y 4 rfl rfl mRX8_133 (c_X8_kindOf l G (ms_token u1)) (mB hM hne) rfl [] rfl rfl rfl (Nat.le_of_ble_eq_true rfl) ⟨rfl, rfl⟩ ⟨Nat.le_of_ble_eq_true rfl, Nat.le_of_ble_eq_true rfl⟩ ⟨Nat.zero_le _, Nat.zero_le _⟩ hl.1 (st' := fun u2 => [.int u2]) (fun _ => rfl) (fun u2 H locs huu2 Y => ?_)
  replace hM := mS hM huu2
  refine r_istore_n (pc' := 12) (L' := [(1, .int u2), (0, .ref h)]) X hl rfl 5 rfl rfl (by decide) rfl (fun ls hl => ?_)
  refine r_iload_n (pc' := 13) X hl 0 rfl rfl 6 rfl rfl ?_
  refine r_if_ne (pc' := 16) X 18 7 rfl rfl (by decide) (fun c3 => ?_) (fun c3 => ?_)
  · replace hM := mE hM c3
    refine r_aload_n (pc' := 19) X hl 1 rfl rfl 10 rfl rfl ?_
    refine r_get (pc' := 22) (v := .int (ms_readMen u1)) X Y 11 rfl rfl fRX8_136 0 rfl rfl ?_
    refine r_bipush (pc' := 24) X (8 : Int32) 12 rfl rfl rfl ?_
    refine r_icmp_ne (pc' := 27) X 29 13 rfl rfl (by decide) (fun c4 => ?_) (fun c4 => ?_)
    · replace hM := mE hM c4
      refine r_aload_n (pc' := 30) X hl 1 rfl rfl 16 rfl rfl ?_
      refine r_get (pc' := 33) (v := .ref h_readKinds) X Y 17 rfl rfl fRX8_43 0 rfl rfl ?_
      refine r_aload_n (pc' := 34) X hl 1 rfl rfl 18 rfl rfl ?_
      refine r_get (pc' := 37) (v := .int (ms_readMen u1)) X Y 19 rfl rfl fRX8_136 0 rfl rfl ?_
      refine r_iload_n (pc' := 38) X hl 0 rfl rfl 20 rfl rfl ?_
      obtain ⟨g5, hM⟩ := mG hM hne
      refine r_iast (pc' := 39) (ws' := wMS G h h_items h_lanes h_sizes h_firms h_kinds h_now h_before h_images h_tape h_trace h_readFirms h_readKinds h_readAt h_rows h_bests ((ms_status u1), (ms_points u1), (ms_home u1), (ms_men u1), (ms_hasTable u1), (ms_acts u1), (ms_imaged u1), (ms_length u1), (ms_fault u1), (ms_traced u1), (ms_spot u1), (ms_begins u1), (ms_token u1), (ms_number u1), (ms_readPoints u1), (ms_readHome u1), (ms_readMen u1), (ms_otherOne u1), (ms_otherKind u1), (ms_items u1), (ms_lanes u1), (ms_sizes u1), (ms_firms u1), (ms_kinds u1), (ms_now u1), (ms_before u1), (ms_images u1), (ms_tape u1), (ms_trace u1), (ms_readFirms u1), (upd (ms_readKinds u1) ((ms_readMen u1)).toNatClampNeg u2), (ms_readAt u1), (ms_rows u1), (ms_bests u1))) X Y 21 rfl rfl 12 rfl (vin g5) rfl (fun H locs Y => ?_)
      refine r_aload_n (pc' := 40) X hl 1 rfl rfl 22 rfl rfl ?_
      refine r_iconst (pc' := 41) X (0 : Int32) 23 rfl rfl rfl ?_
      refine r_iconst (pc' := 42) X (1 : Int32) 24 rfl rfl rfl ?_
      refine r_callV (pc' := 45) (As := [.int (0 : Int32), .int (1 : Int32)]) (rest := []) X Y 25 rfl rfl mRX8_123 (c_X8_numberIn l G h h_items h_lanes h_sizes h_firms h_kinds h_now h_before h_images h_tape h_trace h_readFirms h_readKinds h_readAt h_rows h_bests (((ms_status u1), (ms_points u1), (ms_home u1), (ms_men u1), (ms_hasTable u1), (ms_acts u1), (ms_imaged u1), (ms_length u1), (ms_fault u1), (ms_traced u1), (ms_spot u1), (ms_begins u1), (ms_token u1), (ms_number u1), (ms_readPoints u1), (ms_readHome u1), (ms_readMen u1), (ms_otherOne u1), (ms_otherKind u1), (ms_items u1), (ms_lanes u1), (ms_sizes u1), (ms_firms u1), (ms_kinds u1), (ms_now u1), (ms_before u1), (ms_images u1), (ms_tape u1), (ms_trace u1), (ms_readFirms u1), (upd (ms_readKinds u1) ((ms_readMen u1)).toNatClampNeg u2), (ms_readAt u1), (ms_rows u1), (ms_bests u1))) (0 : Int32) (1 : Int32)) (mB hM hne) 0 rfl rfl [0, 1, 2, 3, 4, 5, 6, 7, 8, 9, 10, 11, 12, 13, 14, 15] [] [0, 1, 2, 3, 4, 5, 6, 7, 8, 9, 10, 11, 12, 13, 14, 15] rfl rfl ⟨rfl, rfl, rfl⟩ rfl (w2 := fun u6 => wMS G h h_items h_lanes h_sizes h_firms h_kinds h_now h_before h_images h_tape h_trace h_readFirms h_readKinds h_readAt h_rows h_bests u6.2) (fun _ => rfl) rfl (Nat.le_of_ble_eq_true rfl) ⟨rfl, rfl⟩ ⟨Nat.le_of_ble_eq_true rfl, Nat.le_of_ble_eq_true rfl⟩ ⟨Nat.zero_le _, Nat.zero_le _⟩ hl.1 (st' := fun u6 => [.int u6.1]) (fun _ => rfl) (fun u6 H locs huu6 Y => ?_)
      replace hM := mS hM huu6
      refine r_istore_n (pc' := 46) (L' := [(2, .int u6.1), (1, .int u2), (0, .ref h)]) X hl rfl 26 rfl rfl (by decide) rfl (fun ls hl => ?_)
      refine r_aload_n (pc' := 47) X hl 2 rfl rfl 27 rfl rfl ?_
      refine r_get (pc' := 50) (v := .ref h_readFirms) X Y 28 rfl rfl fRX8_40 0 rfl rfl ?_
      refine r_aload_n (pc' := 51) X hl 2 rfl rfl 29 rfl rfl ?_
      refine r_get (pc' := 54) (v := .int (ms_readMen u6.2)) X Y 30 rfl rfl fRX8_136 0 rfl rfl ?_
      refine r_aload_n (pc' := 55) X hl 2 rfl rfl 31 rfl rfl ?_
      refine r_get (pc' := 58) (v := .int (ms_number u6.2)) X Y 32 rfl rfl fRX8_107 0 rfl rfl ?_
      obtain ⟨g7, hM⟩ := mG hM hne
      refine r_iast (pc' := 59) (ws' := wMS G h h_items h_lanes h_sizes h_firms h_kinds h_now h_before h_images h_tape h_trace h_readFirms h_readKinds h_readAt h_rows h_bests ((ms_status u6.2), (ms_points u6.2), (ms_home u6.2), (ms_men u6.2), (ms_hasTable u6.2), (ms_acts u6.2), (ms_imaged u6.2), (ms_length u6.2), (ms_fault u6.2), (ms_traced u6.2), (ms_spot u6.2), (ms_begins u6.2), (ms_token u6.2), (ms_number u6.2), (ms_readPoints u6.2), (ms_readHome u6.2), (ms_readMen u6.2), (ms_otherOne u6.2), (ms_otherKind u6.2), (ms_items u6.2), (ms_lanes u6.2), (ms_sizes u6.2), (ms_firms u6.2), (ms_kinds u6.2), (ms_now u6.2), (ms_before u6.2), (ms_images u6.2), (ms_tape u6.2), (ms_trace u6.2), (upd (ms_readFirms u6.2) ((ms_readMen u6.2)).toNatClampNeg (ms_number u6.2)), (ms_readKinds u6.2), (ms_readAt u6.2), (ms_rows u6.2), (ms_bests u6.2))) X Y 33 rfl rfl 11 rfl (vin g7) rfl (fun H locs Y => ?_)
      refine r_iload_n (pc' := 60) X hl 0 rfl rfl 34 rfl rfl ?_
      obtain ⟨J8, hJ8, hM⟩ := mJ hM
      have KJ8 : ∀ (v8 : MS × Int32) (H : Heap) (locs : List Loc) (ls : Array Slot), J8 v8 = MM → rY G A s (wMS G h h_items h_lanes h_sizes h_firms h_kinds h_now h_before h_images h_tape h_trace h_readFirms h_readKinds h_readAt h_rows h_bests v8.1) H locs → lv_has ls 3 [(0, .ref h)] → W p l e q_X8_manItem s m args below meth c H locs 0 0 Q (F0 m 73 ls [.int v8.2]) := by
        intro v8 H locs ls hM Y hl
        replace hM := (hJ8 _).symm.trans hM
        refine r_istore_n (pc' := 74) (L' := [(2, .int v8.2), (0, .ref h)]) X hl rfl 41 rfl rfl (by decide) rfl (fun ls hl => ?_)
        refine r_iload_n (pc' := 75) X hl 0 rfl rfl 42 rfl rfl ?_
        obtain ⟨J9, hJ9, hM⟩ := mJ hM
        have KJ9 : ∀ (v9 : Int32 × MS) (H : Heap) (locs : List Loc) (ls : Array Slot), J9 v9 = MM → rY G A s (wMS G h h_items h_lanes h_sizes h_firms h_kinds h_now h_before h_images h_tape h_trace h_readFirms h_readKinds h_readAt h_rows h_bests v9.2) H locs → lv_has ls 3 [(0, .ref h), (2, .int v9.1)] → W p l e q_X8_manItem s m args below meth c H locs 0 0 Q (F0 m 101 ls []) := by
          intro v9 H locs ls hM Y hl
          replace hM := (hJ9 _).symm.trans hM
          refine r_iload_n (pc' := 102) X hl 1 rfl rfl 57 rfl rfl ?_
          obtain ⟨J10, hJ10, hM⟩ := mJ hM
          have KJ10 : ∀ (v10 : MS × Int32) (H : Heap) (locs : List Loc) (ls : Array Slot), J10 v10 = MM → rY G A s (wMS G h h_items h_lanes h_sizes h_firms h_kinds h_now h_before h_images h_tape h_trace h_readFirms h_readKinds h_readAt h_rows h_bests v10.1) H locs → lv_has ls 3 [(0, .ref h)] → W p l e q_X8_manItem s m args below meth c H locs 0 0 Q (F0 m 115 ls [.int v10.2]) := by
            intro v10 H locs ls hM Y hl
            replace hM := (hJ10 _).symm.trans hM
            refine r_istore_n (pc' := 116) (L' := [(2, .int v10.2), (0, .ref h)]) X hl rfl 64 rfl rfl (by decide) rfl (fun ls hl => ?_)
            refine r_aload_n (pc' := 117) X hl 1 rfl rfl 65 rfl rfl ?_
            refine r_dup (pc' := 118) X 66 rfl rfl rfl ?_
            refine r_get (pc' := 121) (v := .int (ms_readMen v10.1)) X Y 67 rfl rfl fRX8_136 0 rfl rfl ?_
            refine r_iconst (pc' := 122) X (1 : Int32) 68 rfl rfl rfl ?_
            refine r_iadd (pc' := 123) X 69 rfl rfl ?_
            refine r_put (pc' := 126) (ws' := wMS G h h_items h_lanes h_sizes h_firms h_kinds h_now h_before h_images h_tape h_trace h_readFirms h_readKinds h_readAt h_rows h_bests ((ms_status v10.1), (ms_points v10.1), (ms_home v10.1), (ms_men v10.1), (ms_hasTable v10.1), (ms_acts v10.1), (ms_imaged v10.1), (ms_length v10.1), (ms_fault v10.1), (ms_traced v10.1), (ms_spot v10.1), (ms_begins v10.1), (ms_token v10.1), (ms_number v10.1), (ms_readPoints v10.1), (ms_readHome v10.1), ((ms_readMen v10.1) + (1 : Int32)), (ms_otherOne v10.1), (ms_otherKind v10.1), (ms_items v10.1), (ms_lanes v10.1), (ms_sizes v10.1), (ms_firms v10.1), (ms_kinds v10.1), (ms_now v10.1), (ms_before v10.1), (ms_images v10.1), (ms_tape v10.1), (ms_trace v10.1), (ms_readFirms v10.1), (ms_readKinds v10.1), (ms_readAt v10.1), (ms_rows v10.1), (ms_bests v10.1))) X Y 70 rfl rfl fRX8_136 0 rfl rfl rfl (Nat.le_of_ble_eq_true rfl) rfl (fun H locs Y => ?_)
            refine r_iload_n (pc' := 127) X hl 0 rfl rfl 71 rfl rfl ?_
            exact RT (v10.2, ((ms_status v10.1), (ms_points v10.1), (ms_home v10.1), (ms_men v10.1), (ms_hasTable v10.1), (ms_acts v10.1), (ms_imaged v10.1), (ms_length v10.1), (ms_fault v10.1), (ms_traced v10.1), (ms_spot v10.1), (ms_begins v10.1), (ms_token v10.1), (ms_number v10.1), (ms_readPoints v10.1), (ms_readHome v10.1), ((ms_readMen v10.1) + (1 : Int32)), (ms_otherOne v10.1), (ms_otherKind v10.1), (ms_items v10.1), (ms_lanes v10.1), (ms_sizes v10.1), (ms_firms v10.1), (ms_kinds v10.1), (ms_now v10.1), (ms_before v10.1), (ms_images v10.1), (ms_tape v10.1), (ms_trace v10.1), (ms_readFirms v10.1), (ms_readKinds v10.1), (ms_readAt v10.1), (ms_rows v10.1), (ms_bests v10.1))) _ _ _ _ _ hM (Or.inl ⟨rfl, rfl, _, rfl⟩) (X.d (k := 72) rfl) Y
          refine r_if_ne (pc' := 105) X 114 58 rfl rfl (by decide) (fun c11 => ?_) (fun c11 => ?_)
          · replace hM := mE hM c11
            refine r_iload_n (pc' := 115) X hl 1 rfl rfl 63 rfl rfl ?_
            exact KJ10 (v9.2, v9.1) _ _ _ hM Y (lv_sub hl [0] rfl)
          · replace hM := mI hM c11
            refine r_aload_n (pc' := 106) X hl 0 rfl rfl 59 rfl rfl ?_
            refine r_bipush (pc' := 108) X (59 : Int32) 60 rfl rfl rfl ?_
            refine r_callV (pc' := 111) (As := [.int (59 : Int32)]) (rest := []) X Y 61 rfl rfl mRX8_120 (c_X8_sign l G h h_items h_lanes h_sizes h_firms h_kinds h_now h_before h_images h_tape h_trace h_readFirms h_readKinds h_readAt h_rows h_bests v9.2 (59 : Int32)) (mB hM hne) 0 rfl rfl [0, 1, 2, 3, 4, 5, 6, 7, 8, 9, 10, 11, 12, 13, 14, 15] [] [0, 1, 2, 3, 4, 5, 6, 7, 8, 9, 10, 11, 12, 13, 14, 15] rfl rfl ⟨rfl, rfl, rfl⟩ rfl (w2 := fun u12 => wMS G h h_items h_lanes h_sizes h_firms h_kinds h_now h_before h_images h_tape h_trace h_readFirms h_readKinds h_readAt h_rows h_bests u12.2) (fun _ => rfl) rfl (Nat.le_of_ble_eq_true rfl) ⟨rfl, rfl⟩ ⟨Nat.le_of_ble_eq_true rfl, Nat.le_of_ble_eq_true rfl⟩ ⟨Nat.zero_le _, Nat.zero_le _⟩ hl.1 (st' := fun u12 => [.int u12.1]) (fun _ => rfl) (fun u12 H locs huu12 Y => ?_)
            replace hM := mS hM huu12
            refine r_goto X 115 62 rfl (by decide) ?_
            exact KJ10 (u12.2, u12.1) _ _ _ hM Y (lv_sub hl [0] rfl)
        refine r_if_ne (pc' := 78) X 101 43 rfl rfl (by decide) (fun c13 => ?_) (fun c13 => ?_)
        · replace hM := mE hM c13
          exact KJ9 (v8.2, v8.1) _ _ _ hM Y (lv_sub hl [1, 0] rfl)
        · replace hM := mI hM c13
          refine r_aload_n (pc' := 79) X hl 1 rfl rfl 44 rfl rfl ?_
          refine r_iconst (pc' := 80) X (0 : Int32) 45 rfl rfl rfl ?_
          refine r_aload_n (pc' := 81) X hl 1 rfl rfl 46 rfl rfl ?_
          refine r_get (pc' := 84) (v := .int (ms_readPoints v8.1)) X Y 47 rfl rfl fRX8_127 0 rfl rfl ?_
          refine r_callV (pc' := 87) (As := [.int (0 : Int32), .int (ms_readPoints v8.1)]) (rest := []) X Y 48 rfl rfl mRX8_123 (c_X8_numberIn l G h h_items h_lanes h_sizes h_firms h_kinds h_now h_before h_images h_tape h_trace h_readFirms h_readKinds h_readAt h_rows h_bests v8.1 (0 : Int32) (ms_readPoints v8.1)) (mB hM hne) 0 rfl rfl [0, 1, 2, 3, 4, 5, 6, 7, 8, 9, 10, 11, 12, 13, 14, 15] [] [0, 1, 2, 3, 4, 5, 6, 7, 8, 9, 10, 11, 12, 13, 14, 15] rfl rfl ⟨rfl, rfl, rfl⟩ rfl (w2 := fun u14 => wMS G h h_items h_lanes h_sizes h_firms h_kinds h_now h_before h_images h_tape h_trace h_readFirms h_readKinds h_readAt h_rows h_bests u14.2) (fun _ => rfl) rfl (Nat.le_of_ble_eq_true rfl) ⟨rfl, rfl⟩ ⟨Nat.le_of_ble_eq_true rfl, Nat.le_of_ble_eq_true rfl⟩ ⟨Nat.zero_le _, Nat.zero_le _⟩ hl.1 (st' := fun u14 => [.int u14.1]) (fun _ => rfl) (fun u14 H locs huu14 Y => ?_)
          replace hM := mS hM huu14
          refine r_istore_n (pc' := 88) (L' := [(2, .int u14.1), (0, .ref h)]) X hl rfl 49 rfl rfl (by decide) rfl (fun ls hl => ?_)
          refine r_aload_n (pc' := 89) X hl 1 rfl rfl 50 rfl rfl ?_
          refine r_get (pc' := 92) (v := .ref h_readAt) X Y 51 rfl rfl fRX8_46 0 rfl rfl ?_
          refine r_aload_n (pc' := 93) X hl 1 rfl rfl 52 rfl rfl ?_
          refine r_get (pc' := 96) (v := .int (ms_readMen u14.2)) X Y 53 rfl rfl fRX8_136 0 rfl rfl ?_
          refine r_aload_n (pc' := 97) X hl 1 rfl rfl 54 rfl rfl ?_
          refine r_get (pc' := 100) (v := .int (ms_number u14.2)) X Y 55 rfl rfl fRX8_107 0 rfl rfl ?_
          obtain ⟨g15, hM⟩ := mG hM hne
          refine r_iast (pc' := 101) (ws' := wMS G h h_items h_lanes h_sizes h_firms h_kinds h_now h_before h_images h_tape h_trace h_readFirms h_readKinds h_readAt h_rows h_bests ((ms_status u14.2), (ms_points u14.2), (ms_home u14.2), (ms_men u14.2), (ms_hasTable u14.2), (ms_acts u14.2), (ms_imaged u14.2), (ms_length u14.2), (ms_fault u14.2), (ms_traced u14.2), (ms_spot u14.2), (ms_begins u14.2), (ms_token u14.2), (ms_number u14.2), (ms_readPoints u14.2), (ms_readHome u14.2), (ms_readMen u14.2), (ms_otherOne u14.2), (ms_otherKind u14.2), (ms_items u14.2), (ms_lanes u14.2), (ms_sizes u14.2), (ms_firms u14.2), (ms_kinds u14.2), (ms_now u14.2), (ms_before u14.2), (ms_images u14.2), (ms_tape u14.2), (ms_trace u14.2), (ms_readFirms u14.2), (ms_readKinds u14.2), (upd (ms_readAt u14.2) ((ms_readMen u14.2)).toNatClampNeg (ms_number u14.2)), (ms_rows u14.2), (ms_bests u14.2))) X Y 56 rfl rfl 13 rfl (vin g15) rfl (fun H locs Y => ?_)
          exact KJ9 (u14.1, ((ms_status u14.2), (ms_points u14.2), (ms_home u14.2), (ms_men u14.2), (ms_hasTable u14.2), (ms_acts u14.2), (ms_imaged u14.2), (ms_length u14.2), (ms_fault u14.2), (ms_traced u14.2), (ms_spot u14.2), (ms_begins u14.2), (ms_token u14.2), (ms_number u14.2), (ms_readPoints u14.2), (ms_readHome u14.2), (ms_readMen u14.2), (ms_otherOne u14.2), (ms_otherKind u14.2), (ms_items u14.2), (ms_lanes u14.2), (ms_sizes u14.2), (ms_firms u14.2), (ms_kinds u14.2), (ms_now u14.2), (ms_before u14.2), (ms_images u14.2), (ms_tape u14.2), (ms_trace u14.2), (ms_readFirms u14.2), (ms_readKinds u14.2), (upd (ms_readAt u14.2) ((ms_readMen u14.2)).toNatClampNeg (ms_number u14.2)), (ms_rows u14.2), (ms_bests u14.2))) _ _ _ hM Y (lv_sub hl [1, 0] rfl)
      refine r_if_ne (pc' := 63) X 72 35 rfl rfl (by decide) (fun c16 => ?_) (fun c16 => ?_)
      · replace hM := mE hM c16
        refine r_iload_n (pc' := 73) X hl 0 rfl rfl 40 rfl rfl ?_
        exact KJ8 (((ms_status u6.2), (ms_points u6.2), (ms_home u6.2), (ms_men u6.2), (ms_hasTable u6.2), (ms_acts u6.2), (ms_imaged u6.2), (ms_length u6.2), (ms_fault u6.2), (ms_traced u6.2), (ms_spot u6.2), (ms_begins u6.2), (ms_token u6.2), (ms_number u6.2), (ms_readPoints u6.2), (ms_readHome u6.2), (ms_readMen u6.2), (ms_otherOne u6.2), (ms_otherKind u6.2), (ms_items u6.2), (ms_lanes u6.2), (ms_sizes u6.2), (ms_firms u6.2), (ms_kinds u6.2), (ms_now u6.2), (ms_before u6.2), (ms_images u6.2), (ms_tape u6.2), (ms_trace u6.2), (upd (ms_readFirms u6.2) ((ms_readMen u6.2)).toNatClampNeg (ms_number u6.2)), (ms_readKinds u6.2), (ms_readAt u6.2), (ms_rows u6.2), (ms_bests u6.2)), u6.1) _ _ _ hM Y (lv_sub hl [2] rfl)
      · replace hM := mI hM c16
        refine r_aload_n (pc' := 64) X hl 2 rfl rfl 36 rfl rfl ?_
        refine r_bipush (pc' := 66) X (44 : Int32) 37 rfl rfl rfl ?_
        refine r_callV (pc' := 69) (As := [.int (44 : Int32)]) (rest := []) X Y 38 rfl rfl mRX8_120 (c_X8_sign l G h h_items h_lanes h_sizes h_firms h_kinds h_now h_before h_images h_tape h_trace h_readFirms h_readKinds h_readAt h_rows h_bests (((ms_status u6.2), (ms_points u6.2), (ms_home u6.2), (ms_men u6.2), (ms_hasTable u6.2), (ms_acts u6.2), (ms_imaged u6.2), (ms_length u6.2), (ms_fault u6.2), (ms_traced u6.2), (ms_spot u6.2), (ms_begins u6.2), (ms_token u6.2), (ms_number u6.2), (ms_readPoints u6.2), (ms_readHome u6.2), (ms_readMen u6.2), (ms_otherOne u6.2), (ms_otherKind u6.2), (ms_items u6.2), (ms_lanes u6.2), (ms_sizes u6.2), (ms_firms u6.2), (ms_kinds u6.2), (ms_now u6.2), (ms_before u6.2), (ms_images u6.2), (ms_tape u6.2), (ms_trace u6.2), (upd (ms_readFirms u6.2) ((ms_readMen u6.2)).toNatClampNeg (ms_number u6.2)), (ms_readKinds u6.2), (ms_readAt u6.2), (ms_rows u6.2), (ms_bests u6.2))) (44 : Int32)) (mB hM hne) 0 rfl rfl [0, 1, 2, 3, 4, 5, 6, 7, 8, 9, 10, 11, 12, 13, 14, 15] [] [0, 1, 2, 3, 4, 5, 6, 7, 8, 9, 10, 11, 12, 13, 14, 15] rfl rfl ⟨rfl, rfl, rfl⟩ rfl (w2 := fun u17 => wMS G h h_items h_lanes h_sizes h_firms h_kinds h_now h_before h_images h_tape h_trace h_readFirms h_readKinds h_readAt h_rows h_bests u17.2) (fun _ => rfl) rfl (Nat.le_of_ble_eq_true rfl) ⟨rfl, rfl⟩ ⟨Nat.le_of_ble_eq_true rfl, Nat.le_of_ble_eq_true rfl⟩ ⟨Nat.zero_le _, Nat.zero_le _⟩ hl.1 (st' := fun u17 => [.int u17.1]) (fun _ => rfl) (fun u17 H locs huu17 Y => ?_)
        replace hM := mS hM huu17
        refine r_goto X 73 39 rfl (by decide) ?_
        exact KJ8 (u17.2, u17.1) _ _ _ hM Y (lv_sub hl [2] rfl)
    · replace hM := mI hM c4
      refine r_iconst (pc' := 28) X (3 : Int32) 14 rfl rfl rfl ?_
      exact RT ((3 : Int32), u1) _ _ _ _ _ hM (Or.inl ⟨rfl, rfl, _, rfl⟩) (X.d (k := 15) rfl) Y
  · replace hM := mI hM c3
    refine r_iconst (pc' := 17) X (1 : Int32) 8 rfl rfl rfl ?_
    exact RT ((1 : Int32), u1) _ _ _ _ _ hM (Or.inl ⟨rfl, rfl, _, rfl⟩) (X.d (k := 9) rfl) Y

def M_X8_readAll (S0 : MS) : Option (Int32 × MS) :=
  ((M_X8_law (((ms_status S0), (ms_points S0), (ms_home S0), (ms_men S0), (ms_hasTable S0), (ms_acts S0), (ms_imaged S0), (ms_length S0), (ms_fault S0), (ms_traced S0), (0 : Int32), (ms_begins S0), (ms_token S0), (ms_number S0), (ms_readPoints S0), (ms_readHome S0), (0 : Int32), (ms_otherOne S0), (ms_otherKind S0), (ms_items S0), (ms_lanes S0), (ms_sizes S0), (ms_firms S0), (ms_kinds S0), (ms_now S0), (ms_before S0), (ms_images S0), (ms_tape S0), (ms_trace S0), (ms_readFirms S0), (ms_readKinds S0), (ms_readAt S0), (ms_rows S0), (ms_bests S0)))).bind (fun u1 => ((lp (σ := Int32 × Int32 × MS) (β := Int32 × MS) (fun rec2 st2 => (if st2.1 = 0 then (if st2.2.1 = 0 then (some (st2.1, st2.2.2)) else ((M_X8_manItem st2.2.2).bind (fun u5 => (if (ms_length u5.2) ≤ (ms_spot u5.2) then (rec2 (u5.1, (0 : Int32), u5.2)) else (rec2 (u5.1, (1 : Int32), u5.2)))))) else (some (st2.1, st2.2.2)))) 1000000 (u1.1, (1 : Int32), u1.2)).bind (fun b2 => (some (b2.1, b2.2))))))
def q_X8_readAll : Room := { frames := 6, cells := 0, slots := 0, locals := 171 }
set_option maxHeartbeats 4000000 in
set_option maxRecDepth 100000 in
theorem c_X8_readAll (l : Launch) (G : gT) (h h_items h_lanes h_sizes h_firms h_kinds h_now h_before h_images h_tape h_trace h_readFirms h_readKinds h_readAt h_rows h_bests : Nat) (S0 : MS) : CT l G yX8_readAll cX8_readAll 3 (some .int) q_X8_readAll [.ref h] (wMS G h h_items h_lanes h_sizes h_firms h_kinds h_now h_before h_images h_tape h_trace h_readFirms h_readKinds h_readAt h_rows h_bests S0) (M_X8_readAll S0) (fun u => some (.int u.1)) (fun u => wMS G h h_items h_lanes h_sizes h_firms h_kinds h_now h_before h_images h_tape h_trace h_readFirms h_readKinds h_readAt h_rows h_bests u.2) := by
  refine CT.of (P := PX8_readAll) (by decide) dPX8_readAll (Nat.le_of_ble_eq_true rfl) ?_
  intro p e s m args below meth c A Q ls hne X RT Y hl
  have hl : lv_has ls 3 [(0, .ref h)] := hl
  generalize hM : M_X8_readAll S0 = MM at hne RT
  unfold M_X8_readAll at hM
  refine r_aload_n (pc' := 1) X hl 0 rfl rfl 0 rfl rfl ?_
  refine r_iconst (pc' := 2) X (0 : Int32) 1 rfl rfl rfl ?_
  refine r_put (pc' := 5) (ws' := wMS G h h_items h_lanes h_sizes h_firms h_kinds h_now h_before h_images h_tape h_trace h_readFirms h_readKinds h_readAt h_rows h_bests ((ms_status S0), (ms_points S0), (ms_home S0), (ms_men S0), (ms_hasTable S0), (ms_acts S0), (ms_imaged S0), (ms_length S0), (ms_fault S0), (ms_traced S0), (0 : Int32), (ms_begins S0), (ms_token S0), (ms_number S0), (ms_readPoints S0), (ms_readHome S0), (ms_readMen S0), (ms_otherOne S0), (ms_otherKind S0), (ms_items S0), (ms_lanes S0), (ms_sizes S0), (ms_firms S0), (ms_kinds S0), (ms_now S0), (ms_before S0), (ms_images S0), (ms_tape S0), (ms_trace S0), (ms_readFirms S0), (ms_readKinds S0), (ms_readAt S0), (ms_rows S0), (ms_bests S0))) X Y 2 rfl rfl fRX8_98 0 rfl rfl rfl (Nat.le_of_ble_eq_true rfl) rfl (fun H locs Y => ?_)
  refine r_aload_n (pc' := 6) X hl 0 rfl rfl 3 rfl rfl ?_
  refine r_iconst (pc' := 7) X (0 : Int32) 4 rfl rfl rfl ?_
  refine r_put (pc' := 10) (ws' := wMS G h h_items h_lanes h_sizes h_firms h_kinds h_now h_before h_images h_tape h_trace h_readFirms h_readKinds h_readAt h_rows h_bests ((ms_status S0), (ms_points S0), (ms_home S0), (ms_men S0), (ms_hasTable S0), (ms_acts S0), (ms_imaged S0), (ms_length S0), (ms_fault S0), (ms_traced S0), (0 : Int32), (ms_begins S0), (ms_token S0), (ms_number S0), (ms_readPoints S0), (ms_readHome S0), (0 : Int32), (ms_otherOne S0), (ms_otherKind S0), (ms_items S0), (ms_lanes S0), (ms_sizes S0), (ms_firms S0), (ms_kinds S0), (ms_now S0), (ms_before S0), (ms_images S0), (ms_tape S0), (ms_trace S0), (ms_readFirms S0), (ms_readKinds S0), (ms_readAt S0), (ms_rows S0), (ms_bests S0))) X Y 5 rfl rfl fRX8_136 0 rfl rfl rfl (Nat.le_of_ble_eq_true rfl) rfl (fun H locs Y => ?_)
  refine r_aload_n (pc' := 11) X hl 0 rfl rfl 6 rfl rfl ?_
  refine r_callV (pc' := 14) (As := []) (rest := []) X Y 7 rfl rfl mRX8_139 (c_X8_law l G h h_items h_lanes h_sizes h_firms h_kinds h_now h_before h_images h_tape h_trace h_readFirms h_readKinds h_readAt h_rows h_bests (((ms_status S0), (ms_points S0), (ms_home S0), (ms_men S0), (ms_hasTable S0), (ms_acts S0), (ms_imaged S0), (ms_length S0), (ms_fault S0), (ms_traced S0), (0 : Int32), (ms_begins S0), (ms_token S0), (ms_number S0), (ms_readPoints S0), (ms_readHome S0), (0 : Int32), (ms_otherOne S0), (ms_otherKind S0), (ms_items S0), (ms_lanes S0), (ms_sizes S0), (ms_firms S0), (ms_kinds S0), (ms_now S0), (ms_before S0), (ms_images S0), (ms_tape S0), (ms_trace S0), (ms_readFirms S0), (ms_readKinds S0), (ms_readAt S0), (ms_rows S0), (ms_bests S0)))) (mB hM hne) 0 rfl rfl [0, 1, 2, 3, 4, 5, 6, 7, 8, 9, 10, 11, 12, 13, 14, 15] [] [0, 1, 2, 3, 4, 5, 6, 7, 8, 9, 10, 11, 12, 13, 14, 15] rfl rfl ⟨rfl, rfl, rfl⟩ rfl (w2 := fun u1 => wMS G h h_items h_lanes h_sizes h_firms h_kinds h_now h_before h_images h_tape h_trace h_readFirms h_readKinds h_readAt h_rows h_bests u1.2) (fun _ => rfl) rfl (Nat.le_of_ble_eq_true rfl) ⟨rfl, rfl⟩ ⟨Nat.le_of_ble_eq_true rfl, Nat.le_of_ble_eq_true rfl⟩ ⟨Nat.zero_le _, Nat.zero_le _⟩ hl.1 (st' := fun u1 => [.int u1.1]) (fun _ => rfl) (fun u1 H locs huu1 Y => ?_)
  replace hM := mS hM huu1
  refine r_istore_n (pc' := 15) (L' := [(1, .int u1.1), (0, .ref h)]) X hl rfl 8 rfl rfl (by decide) rfl (fun ls hl => ?_)
  refine r_iconst (pc' := 16) X (1 : Int32) 9 rfl rfl rfl ?_
  refine r_istore_n (pc' := 17) (L' := [(2, .int (1 : Int32)), (1, .int u1.1), (0, .ref h)]) X hl rfl 10 rfl rfl (by decide) rfl (fun ls hl => ?_)
  obtain ⟨LL2, hL2, hne2, hX2⟩ := mL hM hne
  have KX2 : ∀ (b2 : Int32 × MS) (H : Heap) (locs : List Loc) (ls : Array Slot), some b2 = LL2 → rY G A s (wMS G h h_items h_lanes h_sizes h_firms h_kinds h_now h_before h_images h_tape h_trace h_readFirms h_readKinds h_readAt h_rows h_bests b2.2) H locs → lv_has ls 3 [(1, .int b2.1)] → W p l e q_X8_readAll s m args below meth c H locs 0 0 Q (F0 m 50 ls []) := by
    intro b2 H locs ls hM Y hl
    replace hM := hX2 _ hM
    refine r_iload_n (pc' := 51) X hl 0 rfl rfl 28 rfl rfl ?_
    exact RT (b2.1, b2.2) _ _ _ _ _ hM (Or.inl ⟨rfl, rfl, _, rfl⟩) (X.d (k := 29) rfl) Y
  refine lp_rule (I := fun (st2 : Int32 × Int32 × MS) => ∀ (H : Heap) (locs : List Loc) (ls : Array Slot), rY G A s (wMS G h h_items h_lanes h_sizes h_firms h_kinds h_now h_before h_images h_tape h_trace h_readFirms h_readKinds h_readAt h_rows h_bests st2.2.2) H locs → lv_has ls 3 [(0, .ref h), (1, .int st2.1), (2, .int st2.2.1)] → W p l e q_X8_readAll s m args below meth c H locs 0 0 Q (F0 m 17 ls [])) hne2 (fun rec2 st2 IH2 hM => ?_) _ _ hL2 _ _ _ Y (lv_sub hl [2, 1, 0] rfl)
  intro H locs ls Y hl
  refine r_iload_n (pc' := 18) X hl 1 rfl rfl 11 rfl rfl ?_
  refine r_if_ne (pc' := 21) X 50 12 rfl rfl (by decide) (fun c3 => ?_) (fun c3 => ?_)
  · replace hM := mE hM c3
    exact KX2 _ _ _ _ hM Y (lv_sub hl [1] rfl)
  · replace hM := mI hM c3
    refine r_iload_n (pc' := 22) X hl 2 rfl rfl 13 rfl rfl ?_
    refine r_if_eq (pc' := 25) X 50 14 rfl rfl (by decide) (fun c4 => ?_) (fun c4 => ?_)
    · replace hM := mI hM c4
      exact KX2 _ _ _ _ hM Y (lv_sub hl [1] rfl)
    · replace hM := mE hM c4
      refine r_aload_n (pc' := 26) X hl 0 rfl rfl 15 rfl rfl ?_
      refine r_callV (pc' := 29) (As := []) (rest := []) X Y 16 rfl rfl mRX8_143 (c_X8_manItem l G h h_items h_lanes h_sizes h_firms h_kinds h_now h_before h_images h_tape h_trace h_readFirms h_readKinds h_readAt h_rows h_bests st2.2.2) (mB hM hne2) 0 rfl rfl [0, 1, 2, 3, 4, 5, 6, 7, 8, 9, 10, 11, 12, 13, 14, 15] [] [0, 1, 2, 3, 4, 5, 6, 7, 8, 9, 10, 11, 12, 13, 14, 15] rfl rfl ⟨rfl, rfl, rfl⟩ rfl (w2 := fun u5 => wMS G h h_items h_lanes h_sizes h_firms h_kinds h_now h_before h_images h_tape h_trace h_readFirms h_readKinds h_readAt h_rows h_bests u5.2) (fun _ => rfl) rfl (Nat.le_of_ble_eq_true rfl) ⟨rfl, rfl⟩ ⟨Nat.le_of_ble_eq_true rfl, Nat.le_of_ble_eq_true rfl⟩ ⟨Nat.zero_le _, Nat.zero_le _⟩ hl.1 (st' := fun u5 => [.int u5.1]) (fun _ => rfl) (fun u5 H locs huu5 Y => ?_)
      replace hM := mS hM huu5
      refine r_istore_n (pc' := 30) (L' := [(1, .int u5.1), (0, .ref h), (2, .int st2.2.1)]) X hl rfl 17 rfl rfl (by decide) rfl (fun ls hl => ?_)
      refine r_aload_n (pc' := 31) X hl 1 rfl rfl 18 rfl rfl ?_
      refine r_get (pc' := 34) (v := .int (ms_spot u5.2)) X Y 19 rfl rfl fRX8_98 0 rfl rfl ?_
      refine r_aload_n (pc' := 35) X hl 1 rfl rfl 20 rfl rfl ?_
      refine r_get (pc' := 38) (v := .int (ms_length u5.2)) X Y 21 rfl rfl fRX8_90 0 rfl rfl ?_
      refine r_icmp_ge (pc' := 41) X 45 22 rfl rfl (by decide) (fun c6 => ?_) (fun c6 => ?_)
      · replace hM := mI hM c6
        refine r_iconst (pc' := 46) X (0 : Int32) 25 rfl rfl rfl ?_
        refine r_istore_n (pc' := 47) (L' := [(2, .int (0 : Int32)), (1, .int u5.1), (0, .ref h)]) X hl rfl 26 rfl rfl (by decide) rfl (fun ls hl => ?_)
        refine r_goto X 17 27 rfl (by decide) ?_
        exact IH2 _ hM _ _ _ Y (lv_sub hl [2, 1, 0] rfl)
      · replace hM := mE hM c6
        refine r_iconst (pc' := 42) X (1 : Int32) 23 rfl rfl rfl ?_
        refine r_goto X 46 24 rfl (by decide) ?_
        refine r_istore_n (pc' := 47) (L' := [(2, .int (1 : Int32)), (1, .int u5.1), (0, .ref h)]) X hl rfl 26 rfl rfl (by decide) rfl (fun ls hl => ?_)
        refine r_goto X 17 27 rfl (by decide) ?_
        exact IH2 _ hM _ _ _ Y (lv_sub hl [2, 1, 0] rfl)

def M_X8_table (S0 : MS) : Option (Int32 × MS) :=
  ((M_X8_readAll S0).bind (fun u1 => (if u1.1 = 0 then ((lp (σ := Int32 × (Nat → Int32) × (Nat → Int32) × (Nat → Int32)) (β := (Nat → Int32) × (Nat → Int32) × (Nat → Int32)) (fun rec3 st3 => (if (8 : Int32) ≤ st3.1 then (some (st3.2.1, st3.2.2.1, st3.2.2.2)) else (if inb st3.1 8 = true then (if (ms_readMen u1.2) ≤ st3.1 then (if inb st3.1 12 = true then (rec3 ((st3.1 + (1 : Int32)), (upd st3.2.1 (st3.1).toNatClampNeg ((ms_readFirms u1.2) (st3.1).toNatClampNeg)), (upd st3.2.2.1 (st3.1).toNatClampNeg ((ms_readKinds u1.2) (st3.1).toNatClampNeg)), (upd st3.2.2.2 (st3.1).toNatClampNeg (99 : Int32)))) else none) else (if inb st3.1 12 = true then (rec3 ((st3.1 + (1 : Int32)), (upd st3.2.1 (st3.1).toNatClampNeg ((ms_readFirms u1.2) (st3.1).toNatClampNeg)), (upd st3.2.2.1 (st3.1).toNatClampNeg ((ms_readKinds u1.2) (st3.1).toNatClampNeg)), (upd st3.2.2.2 (st3.1).toNatClampNeg ((ms_readAt u1.2) (st3.1).toNatClampNeg)))) else none)) else none))) 1000000 ((0 : Int32), (ms_firms u1.2), (ms_kinds u1.2), (ms_now u1.2))).bind (fun b3 => (some ((ms_readMen u1.2), ((ms_status u1.2), (ms_readPoints u1.2), (ms_readHome u1.2), (ms_readMen u1.2), (1 : Int32), (0 : Int32), (ms_imaged u1.2), (0 : Int32), (ms_fault u1.2), (ms_traced u1.2), (ms_spot u1.2), (ms_begins u1.2), (ms_token u1.2), (ms_number u1.2), (ms_readPoints u1.2), (ms_readHome u1.2), (ms_readMen u1.2), (ms_otherOne u1.2), (ms_otherKind u1.2), (ms_items u1.2), (ms_lanes u1.2), (ms_sizes u1.2), b3.1, b3.2.1, (upd (upd (upd (upd b3.2.2 ((8 : Int32)).toNatClampNeg (0 : Int32)) ((9 : Int32)).toNatClampNeg (1 : Int32)) ((10 : Int32)).toNatClampNeg (-1000000 : Int32)) ((11 : Int32)).toNatClampNeg (0 : Int32)), (ms_before u1.2), (ms_images u1.2), (ms_tape u1.2), (ms_trace u1.2), (ms_readFirms u1.2), (ms_readKinds u1.2), (ms_readAt u1.2), (ms_rows u1.2), (ms_bests u1.2)))))) else (some (((-1000100 : Int32) - (ms_begins u1.2)), ((ms_status u1.2), (ms_points u1.2), (ms_home u1.2), (ms_men u1.2), (ms_hasTable u1.2), (ms_acts u1.2), (ms_imaged u1.2), (0 : Int32), u1.1, (ms_traced u1.2), (ms_spot u1.2), (ms_begins u1.2), (ms_token u1.2), (ms_number u1.2), (ms_readPoints u1.2), (ms_readHome u1.2), (ms_readMen u1.2), (ms_otherOne u1.2), (ms_otherKind u1.2), (ms_items u1.2), (ms_lanes u1.2), (ms_sizes u1.2), (ms_firms u1.2), (ms_kinds u1.2), (ms_now u1.2), (ms_before u1.2), (ms_images u1.2), (ms_tape u1.2), (ms_trace u1.2), (ms_readFirms u1.2), (ms_readKinds u1.2), (ms_readAt u1.2), (ms_rows u1.2), (ms_bests u1.2)))))))
def q_X8_table : Room := { frames := 7, cells := 0, slots := 0, locals := 193 }
set_option maxHeartbeats 4000000 in
set_option maxRecDepth 100000 in
theorem c_X8_table (l : Launch) (G : gT) (h h_items h_lanes h_sizes h_firms h_kinds h_now h_before h_images h_tape h_trace h_readFirms h_readKinds h_readAt h_rows h_bests : Nat) (S0 : MS) : CT l G yX8_table cX8_table 3 (some .int) q_X8_table [.ref h] (wMS G h h_items h_lanes h_sizes h_firms h_kinds h_now h_before h_images h_tape h_trace h_readFirms h_readKinds h_readAt h_rows h_bests S0) (M_X8_table S0) (fun u => some (.int u.1)) (fun u => wMS G h h_items h_lanes h_sizes h_firms h_kinds h_now h_before h_images h_tape h_trace h_readFirms h_readKinds h_readAt h_rows h_bests u.2) := by
  refine CT.of (P := PX8_table) (by decide) dPX8_table (Nat.le_of_ble_eq_true rfl) ?_
  intro p e s m args below meth c A Q ls hne X RT Y hl
  have hl : lv_has ls 3 [(0, .ref h)] := hl
  generalize hM : M_X8_table S0 = MM at hne RT
  unfold M_X8_table at hM
  refine r_aload_n (pc' := 1) X hl 0 rfl rfl 0 rfl rfl ?_
  refine r_callV (pc' := 4) (As := []) (rest := []) X Y 1 rfl rfl mRX8_146 (c_X8_readAll l G h h_items h_lanes h_sizes h_firms h_kinds h_now h_before h_images h_tape h_trace h_readFirms h_readKinds h_readAt h_rows h_bests S0) (mB hM hne) 0 rfl rfl [0, 1, 2, 3, 4, 5, 6, 7, 8, 9, 10, 11, 12, 13, 14, 15] [] [0, 1, 2, 3, 4, 5, 6, 7, 8, 9, 10, 11, 12, 13, 14, 15] rfl rfl ⟨rfl, rfl, rfl⟩ rfl (w2 := fun u1 => wMS G h h_items h_lanes h_sizes h_firms h_kinds h_now h_before h_images h_tape h_trace h_readFirms h_readKinds h_readAt h_rows h_bests u1.2) (fun _ => rfl) rfl (Nat.le_of_ble_eq_true rfl) ⟨rfl, rfl⟩ ⟨Nat.le_of_ble_eq_true rfl, Nat.le_of_ble_eq_true rfl⟩ ⟨Nat.zero_le _, Nat.zero_le _⟩ hl.1 (st' := fun u1 => [.int u1.1]) (fun _ => rfl) (fun u1 H locs huu1 Y => ?_)
  replace hM := mS hM huu1
  refine r_istore_n (pc' := 5) (L' := [(1, .int u1.1), (0, .ref h)]) X hl rfl 2 rfl rfl (by decide) rfl (fun ls hl => ?_)
  refine r_aload_n (pc' := 6) X hl 1 rfl rfl 3 rfl rfl ?_
  refine r_iconst (pc' := 7) X (0 : Int32) 4 rfl rfl rfl ?_
  refine r_put (pc' := 10) (ws' := wMS G h h_items h_lanes h_sizes h_firms h_kinds h_now h_before h_images h_tape h_trace h_readFirms h_readKinds h_readAt h_rows h_bests ((ms_status u1.2), (ms_points u1.2), (ms_home u1.2), (ms_men u1.2), (ms_hasTable u1.2), (ms_acts u1.2), (ms_imaged u1.2), (0 : Int32), (ms_fault u1.2), (ms_traced u1.2), (ms_spot u1.2), (ms_begins u1.2), (ms_token u1.2), (ms_number u1.2), (ms_readPoints u1.2), (ms_readHome u1.2), (ms_readMen u1.2), (ms_otherOne u1.2), (ms_otherKind u1.2), (ms_items u1.2), (ms_lanes u1.2), (ms_sizes u1.2), (ms_firms u1.2), (ms_kinds u1.2), (ms_now u1.2), (ms_before u1.2), (ms_images u1.2), (ms_tape u1.2), (ms_trace u1.2), (ms_readFirms u1.2), (ms_readKinds u1.2), (ms_readAt u1.2), (ms_rows u1.2), (ms_bests u1.2))) X Y 5 rfl rfl fRX8_90 0 rfl rfl rfl (Nat.le_of_ble_eq_true rfl) rfl (fun H locs Y => ?_)
  refine r_iload_n (pc' := 11) X hl 0 rfl rfl 6 rfl rfl ?_
  refine r_if_eq (pc' := 14) X 27 7 rfl rfl (by decide) (fun c2 => ?_) (fun c2 => ?_)
  · replace hM := mI hM c2
    refine r_aload_n (pc' := 28) X hl 1 rfl rfl 16 rfl rfl ?_
    refine r_aload_n (pc' := 29) X hl 1 rfl rfl 17 rfl rfl ?_
    refine r_get (pc' := 32) (v := .int (ms_readPoints u1.2)) X Y 18 rfl rfl fRX8_127 0 rfl rfl ?_
    refine r_put (pc' := 35) (ws' := wMS G h h_items h_lanes h_sizes h_firms h_kinds h_now h_before h_images h_tape h_trace h_readFirms h_readKinds h_readAt h_rows h_bests ((ms_status u1.2), (ms_readPoints u1.2), (ms_home u1.2), (ms_men u1.2), (ms_hasTable u1.2), (ms_acts u1.2), (ms_imaged u1.2), (0 : Int32), (ms_fault u1.2), (ms_traced u1.2), (ms_spot u1.2), (ms_begins u1.2), (ms_token u1.2), (ms_number u1.2), (ms_readPoints u1.2), (ms_readHome u1.2), (ms_readMen u1.2), (ms_otherOne u1.2), (ms_otherKind u1.2), (ms_items u1.2), (ms_lanes u1.2), (ms_sizes u1.2), (ms_firms u1.2), (ms_kinds u1.2), (ms_now u1.2), (ms_before u1.2), (ms_images u1.2), (ms_tape u1.2), (ms_trace u1.2), (ms_readFirms u1.2), (ms_readKinds u1.2), (ms_readAt u1.2), (ms_rows u1.2), (ms_bests u1.2))) X Y 19 rfl rfl fRX8_153 0 rfl rfl rfl (Nat.le_of_ble_eq_true rfl) rfl (fun H locs Y => ?_)
    refine r_aload_n (pc' := 36) X hl 1 rfl rfl 20 rfl rfl ?_
    refine r_aload_n (pc' := 37) X hl 1 rfl rfl 21 rfl rfl ?_
    refine r_get (pc' := 40) (v := .int (ms_readHome u1.2)) X Y 22 rfl rfl fRX8_130 0 rfl rfl ?_
    refine r_put (pc' := 43) (ws' := wMS G h h_items h_lanes h_sizes h_firms h_kinds h_now h_before h_images h_tape h_trace h_readFirms h_readKinds h_readAt h_rows h_bests ((ms_status u1.2), (ms_readPoints u1.2), (ms_readHome u1.2), (ms_men u1.2), (ms_hasTable u1.2), (ms_acts u1.2), (ms_imaged u1.2), (0 : Int32), (ms_fault u1.2), (ms_traced u1.2), (ms_spot u1.2), (ms_begins u1.2), (ms_token u1.2), (ms_number u1.2), (ms_readPoints u1.2), (ms_readHome u1.2), (ms_readMen u1.2), (ms_otherOne u1.2), (ms_otherKind u1.2), (ms_items u1.2), (ms_lanes u1.2), (ms_sizes u1.2), (ms_firms u1.2), (ms_kinds u1.2), (ms_now u1.2), (ms_before u1.2), (ms_images u1.2), (ms_tape u1.2), (ms_trace u1.2), (ms_readFirms u1.2), (ms_readKinds u1.2), (ms_readAt u1.2), (ms_rows u1.2), (ms_bests u1.2))) X Y 23 rfl rfl fRX8_156 0 rfl rfl rfl (Nat.le_of_ble_eq_true rfl) rfl (fun H locs Y => ?_)
    refine r_aload_n (pc' := 44) X hl 1 rfl rfl 24 rfl rfl ?_
    refine r_aload_n (pc' := 45) X hl 1 rfl rfl 25 rfl rfl ?_
    refine r_get (pc' := 48) (v := .int (ms_readMen u1.2)) X Y 26 rfl rfl fRX8_136 0 rfl rfl ?_
    refine r_put (pc' := 51) (ws' := wMS G h h_items h_lanes h_sizes h_firms h_kinds h_now h_before h_images h_tape h_trace h_readFirms h_readKinds h_readAt h_rows h_bests ((ms_status u1.2), (ms_readPoints u1.2), (ms_readHome u1.2), (ms_readMen u1.2), (ms_hasTable u1.2), (ms_acts u1.2), (ms_imaged u1.2), (0 : Int32), (ms_fault u1.2), (ms_traced u1.2), (ms_spot u1.2), (ms_begins u1.2), (ms_token u1.2), (ms_number u1.2), (ms_readPoints u1.2), (ms_readHome u1.2), (ms_readMen u1.2), (ms_otherOne u1.2), (ms_otherKind u1.2), (ms_items u1.2), (ms_lanes u1.2), (ms_sizes u1.2), (ms_firms u1.2), (ms_kinds u1.2), (ms_now u1.2), (ms_before u1.2), (ms_images u1.2), (ms_tape u1.2), (ms_trace u1.2), (ms_readFirms u1.2), (ms_readKinds u1.2), (ms_readAt u1.2), (ms_rows u1.2), (ms_bests u1.2))) X Y 27 rfl rfl fRX8_159 0 rfl rfl rfl (Nat.le_of_ble_eq_true rfl) rfl (fun H locs Y => ?_)
    refine r_aload_n (pc' := 52) X hl 1 rfl rfl 28 rfl rfl ?_
    refine r_iconst (pc' := 53) X (1 : Int32) 29 rfl rfl rfl ?_
    refine r_put (pc' := 56) (ws' := wMS G h h_items h_lanes h_sizes h_firms h_kinds h_now h_before h_images h_tape h_trace h_readFirms h_readKinds h_readAt h_rows h_bests ((ms_status u1.2), (ms_readPoints u1.2), (ms_readHome u1.2), (ms_readMen u1.2), (1 : Int32), (ms_acts u1.2), (ms_imaged u1.2), (0 : Int32), (ms_fault u1.2), (ms_traced u1.2), (ms_spot u1.2), (ms_begins u1.2), (ms_token u1.2), (ms_number u1.2), (ms_readPoints u1.2), (ms_readHome u1.2), (ms_readMen u1.2), (ms_otherOne u1.2), (ms_otherKind u1.2), (ms_items u1.2), (ms_lanes u1.2), (ms_sizes u1.2), (ms_firms u1.2), (ms_kinds u1.2), (ms_now u1.2), (ms_before u1.2), (ms_images u1.2), (ms_tape u1.2), (ms_trace u1.2), (ms_readFirms u1.2), (ms_readKinds u1.2), (ms_readAt u1.2), (ms_rows u1.2), (ms_bests u1.2))) X Y 30 rfl rfl fRX8_162 0 rfl rfl rfl (Nat.le_of_ble_eq_true rfl) rfl (fun H locs Y => ?_)
    refine r_iconst (pc' := 57) X (0 : Int32) 31 rfl rfl rfl ?_
    refine r_istore_n (pc' := 58) (L' := [(2, .int (0 : Int32)), (1, .int u1.1), (0, .ref h)]) X hl rfl 32 rfl rfl (by decide) rfl (fun ls hl => ?_)
    obtain ⟨LL3, hL3, hne3, hX3⟩ := mL hM hne
    have KX3 : ∀ (b3 : (Nat → Int32) × (Nat → Int32) × (Nat → Int32)) (H : Heap) (locs : List Loc) (ls : Array Slot), some b3 = LL3 → rY G A s (wMS G h h_items h_lanes h_sizes h_firms h_kinds h_now h_before h_images h_tape h_trace h_readFirms h_readKinds h_readAt h_rows h_bests ((ms_status u1.2), (ms_readPoints u1.2), (ms_readHome u1.2), (ms_readMen u1.2), (1 : Int32), (ms_acts u1.2), (ms_imaged u1.2), (0 : Int32), (ms_fault u1.2), (ms_traced u1.2), (ms_spot u1.2), (ms_begins u1.2), (ms_token u1.2), (ms_number u1.2), (ms_readPoints u1.2), (ms_readHome u1.2), (ms_readMen u1.2), (ms_otherOne u1.2), (ms_otherKind u1.2), (ms_items u1.2), (ms_lanes u1.2), (ms_sizes u1.2), b3.1, b3.2.1, b3.2.2, (ms_before u1.2), (ms_images u1.2), (ms_tape u1.2), (ms_trace u1.2), (ms_readFirms u1.2), (ms_readKinds u1.2), (ms_readAt u1.2), (ms_rows u1.2), (ms_bests u1.2))) H locs → lv_has ls 3 [(0, .ref h)] → W p l e q_X8_table s m args below meth c H locs 0 0 Q (F0 m 119 ls []) := by
      intro b3 H locs ls hM Y hl
      replace hM := hX3 _ hM
      refine r_aload_n (pc' := 120) X hl 0 rfl rfl 68 rfl rfl ?_
      refine r_get (pc' := 123) (v := .ref h_now) X Y 69 rfl rfl fRX8_25 0 rfl rfl ?_
      refine r_bipush (pc' := 125) X (8 : Int32) 70 rfl rfl rfl ?_
      refine r_iconst (pc' := 126) X (0 : Int32) 71 rfl rfl rfl ?_
      refine r_iast (pc' := 127) (ws' := wMS G h h_items h_lanes h_sizes h_firms h_kinds h_now h_before h_images h_tape h_trace h_readFirms h_readKinds h_readAt h_rows h_bests ((ms_status u1.2), (ms_readPoints u1.2), (ms_readHome u1.2), (ms_readMen u1.2), (1 : Int32), (ms_acts u1.2), (ms_imaged u1.2), (0 : Int32), (ms_fault u1.2), (ms_traced u1.2), (ms_spot u1.2), (ms_begins u1.2), (ms_token u1.2), (ms_number u1.2), (ms_readPoints u1.2), (ms_readHome u1.2), (ms_readMen u1.2), (ms_otherOne u1.2), (ms_otherKind u1.2), (ms_items u1.2), (ms_lanes u1.2), (ms_sizes u1.2), b3.1, b3.2.1, (upd b3.2.2 ((8 : Int32)).toNatClampNeg (0 : Int32)), (ms_before u1.2), (ms_images u1.2), (ms_tape u1.2), (ms_trace u1.2), (ms_readFirms u1.2), (ms_readKinds u1.2), (ms_readAt u1.2), (ms_rows u1.2), (ms_bests u1.2))) X Y 72 rfl rfl 6 rfl (vin rfl) rfl (fun H locs Y => ?_)
      refine r_aload_n (pc' := 128) X hl 0 rfl rfl 73 rfl rfl ?_
      refine r_get (pc' := 131) (v := .ref h_now) X Y 74 rfl rfl fRX8_25 0 rfl rfl ?_
      refine r_bipush (pc' := 133) X (9 : Int32) 75 rfl rfl rfl ?_
      refine r_iconst (pc' := 134) X (1 : Int32) 76 rfl rfl rfl ?_
      refine r_iast (pc' := 135) (ws' := wMS G h h_items h_lanes h_sizes h_firms h_kinds h_now h_before h_images h_tape h_trace h_readFirms h_readKinds h_readAt h_rows h_bests ((ms_status u1.2), (ms_readPoints u1.2), (ms_readHome u1.2), (ms_readMen u1.2), (1 : Int32), (ms_acts u1.2), (ms_imaged u1.2), (0 : Int32), (ms_fault u1.2), (ms_traced u1.2), (ms_spot u1.2), (ms_begins u1.2), (ms_token u1.2), (ms_number u1.2), (ms_readPoints u1.2), (ms_readHome u1.2), (ms_readMen u1.2), (ms_otherOne u1.2), (ms_otherKind u1.2), (ms_items u1.2), (ms_lanes u1.2), (ms_sizes u1.2), b3.1, b3.2.1, (upd (upd b3.2.2 ((8 : Int32)).toNatClampNeg (0 : Int32)) ((9 : Int32)).toNatClampNeg (1 : Int32)), (ms_before u1.2), (ms_images u1.2), (ms_tape u1.2), (ms_trace u1.2), (ms_readFirms u1.2), (ms_readKinds u1.2), (ms_readAt u1.2), (ms_rows u1.2), (ms_bests u1.2))) X Y 77 rfl rfl 6 rfl (vin rfl) rfl (fun H locs Y => ?_)
      refine r_aload_n (pc' := 136) X hl 0 rfl rfl 78 rfl rfl ?_
      refine r_get (pc' := 139) (v := .ref h_now) X Y 79 rfl rfl fRX8_25 0 rfl rfl ?_
      refine r_bipush (pc' := 141) X (10 : Int32) 80 rfl rfl rfl ?_
      refine r_ldc (pc' := 143) X mw530 81 rfl rfl ?_
      refine r_iast (pc' := 144) (ws' := wMS G h h_items h_lanes h_sizes h_firms h_kinds h_now h_before h_images h_tape h_trace h_readFirms h_readKinds h_readAt h_rows h_bests ((ms_status u1.2), (ms_readPoints u1.2), (ms_readHome u1.2), (ms_readMen u1.2), (1 : Int32), (ms_acts u1.2), (ms_imaged u1.2), (0 : Int32), (ms_fault u1.2), (ms_traced u1.2), (ms_spot u1.2), (ms_begins u1.2), (ms_token u1.2), (ms_number u1.2), (ms_readPoints u1.2), (ms_readHome u1.2), (ms_readMen u1.2), (ms_otherOne u1.2), (ms_otherKind u1.2), (ms_items u1.2), (ms_lanes u1.2), (ms_sizes u1.2), b3.1, b3.2.1, (upd (upd (upd b3.2.2 ((8 : Int32)).toNatClampNeg (0 : Int32)) ((9 : Int32)).toNatClampNeg (1 : Int32)) ((10 : Int32)).toNatClampNeg (-1000000 : Int32)), (ms_before u1.2), (ms_images u1.2), (ms_tape u1.2), (ms_trace u1.2), (ms_readFirms u1.2), (ms_readKinds u1.2), (ms_readAt u1.2), (ms_rows u1.2), (ms_bests u1.2))) X Y 82 rfl rfl 6 rfl (vin rfl) rfl (fun H locs Y => ?_)
      refine r_aload_n (pc' := 145) X hl 0 rfl rfl 83 rfl rfl ?_
      refine r_get (pc' := 148) (v := .ref h_now) X Y 84 rfl rfl fRX8_25 0 rfl rfl ?_
      refine r_bipush (pc' := 150) X (11 : Int32) 85 rfl rfl rfl ?_
      refine r_iconst (pc' := 151) X (0 : Int32) 86 rfl rfl rfl ?_
      refine r_iast (pc' := 152) (ws' := wMS G h h_items h_lanes h_sizes h_firms h_kinds h_now h_before h_images h_tape h_trace h_readFirms h_readKinds h_readAt h_rows h_bests ((ms_status u1.2), (ms_readPoints u1.2), (ms_readHome u1.2), (ms_readMen u1.2), (1 : Int32), (ms_acts u1.2), (ms_imaged u1.2), (0 : Int32), (ms_fault u1.2), (ms_traced u1.2), (ms_spot u1.2), (ms_begins u1.2), (ms_token u1.2), (ms_number u1.2), (ms_readPoints u1.2), (ms_readHome u1.2), (ms_readMen u1.2), (ms_otherOne u1.2), (ms_otherKind u1.2), (ms_items u1.2), (ms_lanes u1.2), (ms_sizes u1.2), b3.1, b3.2.1, (upd (upd (upd (upd b3.2.2 ((8 : Int32)).toNatClampNeg (0 : Int32)) ((9 : Int32)).toNatClampNeg (1 : Int32)) ((10 : Int32)).toNatClampNeg (-1000000 : Int32)) ((11 : Int32)).toNatClampNeg (0 : Int32)), (ms_before u1.2), (ms_images u1.2), (ms_tape u1.2), (ms_trace u1.2), (ms_readFirms u1.2), (ms_readKinds u1.2), (ms_readAt u1.2), (ms_rows u1.2), (ms_bests u1.2))) X Y 87 rfl rfl 6 rfl (vin rfl) rfl (fun H locs Y => ?_)
      refine r_aload_n (pc' := 153) X hl 0 rfl rfl 88 rfl rfl ?_
      refine r_iconst (pc' := 154) X (0 : Int32) 89 rfl rfl rfl ?_
      refine r_put (pc' := 157) (ws' := wMS G h h_items h_lanes h_sizes h_firms h_kinds h_now h_before h_images h_tape h_trace h_readFirms h_readKinds h_readAt h_rows h_bests ((ms_status u1.2), (ms_readPoints u1.2), (ms_readHome u1.2), (ms_readMen u1.2), (1 : Int32), (0 : Int32), (ms_imaged u1.2), (0 : Int32), (ms_fault u1.2), (ms_traced u1.2), (ms_spot u1.2), (ms_begins u1.2), (ms_token u1.2), (ms_number u1.2), (ms_readPoints u1.2), (ms_readHome u1.2), (ms_readMen u1.2), (ms_otherOne u1.2), (ms_otherKind u1.2), (ms_items u1.2), (ms_lanes u1.2), (ms_sizes u1.2), b3.1, b3.2.1, (upd (upd (upd (upd b3.2.2 ((8 : Int32)).toNatClampNeg (0 : Int32)) ((9 : Int32)).toNatClampNeg (1 : Int32)) ((10 : Int32)).toNatClampNeg (-1000000 : Int32)) ((11 : Int32)).toNatClampNeg (0 : Int32)), (ms_before u1.2), (ms_images u1.2), (ms_tape u1.2), (ms_trace u1.2), (ms_readFirms u1.2), (ms_readKinds u1.2), (ms_readAt u1.2), (ms_rows u1.2), (ms_bests u1.2))) X Y 90 rfl rfl fRX8_166 0 rfl rfl rfl (Nat.le_of_ble_eq_true rfl) rfl (fun H locs Y => ?_)
      refine r_aload_n (pc' := 158) X hl 0 rfl rfl 91 rfl rfl ?_
      refine r_get (pc' := 161) (v := .int (ms_readMen u1.2)) X Y 92 rfl rfl fRX8_159 0 rfl rfl ?_
      exact RT ((ms_readMen u1.2), ((ms_status u1.2), (ms_readPoints u1.2), (ms_readHome u1.2), (ms_readMen u1.2), (1 : Int32), (0 : Int32), (ms_imaged u1.2), (0 : Int32), (ms_fault u1.2), (ms_traced u1.2), (ms_spot u1.2), (ms_begins u1.2), (ms_token u1.2), (ms_number u1.2), (ms_readPoints u1.2), (ms_readHome u1.2), (ms_readMen u1.2), (ms_otherOne u1.2), (ms_otherKind u1.2), (ms_items u1.2), (ms_lanes u1.2), (ms_sizes u1.2), b3.1, b3.2.1, (upd (upd (upd (upd b3.2.2 ((8 : Int32)).toNatClampNeg (0 : Int32)) ((9 : Int32)).toNatClampNeg (1 : Int32)) ((10 : Int32)).toNatClampNeg (-1000000 : Int32)) ((11 : Int32)).toNatClampNeg (0 : Int32)), (ms_before u1.2), (ms_images u1.2), (ms_tape u1.2), (ms_trace u1.2), (ms_readFirms u1.2), (ms_readKinds u1.2), (ms_readAt u1.2), (ms_rows u1.2), (ms_bests u1.2))) _ _ _ _ _ hM (Or.inl ⟨rfl, rfl, _, rfl⟩) (X.d (k := 93) rfl) Y
    refine lp_rule (I := fun (st3 : Int32 × (Nat → Int32) × (Nat → Int32) × (Nat → Int32)) => ∀ (H : Heap) (locs : List Loc) (ls : Array Slot), rY G A s (wMS G h h_items h_lanes h_sizes h_firms h_kinds h_now h_before h_images h_tape h_trace h_readFirms h_readKinds h_readAt h_rows h_bests ((ms_status u1.2), (ms_readPoints u1.2), (ms_readHome u1.2), (ms_readMen u1.2), (1 : Int32), (ms_acts u1.2), (ms_imaged u1.2), (0 : Int32), (ms_fault u1.2), (ms_traced u1.2), (ms_spot u1.2), (ms_begins u1.2), (ms_token u1.2), (ms_number u1.2), (ms_readPoints u1.2), (ms_readHome u1.2), (ms_readMen u1.2), (ms_otherOne u1.2), (ms_otherKind u1.2), (ms_items u1.2), (ms_lanes u1.2), (ms_sizes u1.2), st3.2.1, st3.2.2.1, st3.2.2.2, (ms_before u1.2), (ms_images u1.2), (ms_tape u1.2), (ms_trace u1.2), (ms_readFirms u1.2), (ms_readKinds u1.2), (ms_readAt u1.2), (ms_rows u1.2), (ms_bests u1.2))) H locs → lv_has ls 3 [(0, .ref h), (2, .int st3.1)] → W p l e q_X8_table s m args below meth c H locs 0 0 Q (F0 m 58 ls [])) hne3 (fun rec3 st3 IH3 hM => ?_) _ _ hL3 _ _ _ Y (lv_sub hl [2, 0] rfl)
    intro H locs ls Y hl
    refine r_iload_n (pc' := 59) X hl 1 rfl rfl 33 rfl rfl ?_
    refine r_bipush (pc' := 61) X (8 : Int32) 34 rfl rfl rfl ?_
    refine r_icmp_ge (pc' := 64) X 119 35 rfl rfl (by decide) (fun c4 => ?_) (fun c4 => ?_)
    · replace hM := mI hM c4
      exact KX3 _ _ _ _ hM Y (lv_sub hl [0] rfl)
    · replace hM := mE hM c4
      refine r_aload_n (pc' := 65) X hl 0 rfl rfl 36 rfl rfl ?_
      refine r_get (pc' := 68) (v := .ref h_firms) X Y 37 rfl rfl fRX8_19 0 rfl rfl ?_
      refine r_iload_n (pc' := 69) X hl 1 rfl rfl 38 rfl rfl ?_
      refine r_aload_n (pc' := 70) X hl 0 rfl rfl 39 rfl rfl ?_
      refine r_get (pc' := 73) (v := .ref h_readFirms) X Y 40 rfl rfl fRX8_40 0 rfl rfl ?_
      refine r_iload_n (pc' := 74) X hl 1 rfl rfl 41 rfl rfl ?_
      obtain ⟨g5, hM⟩ := mG hM hne3
      refine r_iald (pc' := 75) X Y 42 rfl rfl 11 rfl (vin g5) ?_
      refine r_iast (pc' := 76) (ws' := wMS G h h_items h_lanes h_sizes h_firms h_kinds h_now h_before h_images h_tape h_trace h_readFirms h_readKinds h_readAt h_rows h_bests ((ms_status u1.2), (ms_readPoints u1.2), (ms_readHome u1.2), (ms_readMen u1.2), (1 : Int32), (ms_acts u1.2), (ms_imaged u1.2), (0 : Int32), (ms_fault u1.2), (ms_traced u1.2), (ms_spot u1.2), (ms_begins u1.2), (ms_token u1.2), (ms_number u1.2), (ms_readPoints u1.2), (ms_readHome u1.2), (ms_readMen u1.2), (ms_otherOne u1.2), (ms_otherKind u1.2), (ms_items u1.2), (ms_lanes u1.2), (ms_sizes u1.2), (upd st3.2.1 (st3.1).toNatClampNeg ((ms_readFirms u1.2) (st3.1).toNatClampNeg)), st3.2.2.1, st3.2.2.2, (ms_before u1.2), (ms_images u1.2), (ms_tape u1.2), (ms_trace u1.2), (ms_readFirms u1.2), (ms_readKinds u1.2), (ms_readAt u1.2), (ms_rows u1.2), (ms_bests u1.2))) X Y 43 rfl rfl 4 rfl (vin g5) rfl (fun H locs Y => ?_)
      refine r_aload_n (pc' := 77) X hl 0 rfl rfl 44 rfl rfl ?_
      refine r_get (pc' := 80) (v := .ref h_kinds) X Y 45 rfl rfl fRX8_22 0 rfl rfl ?_
      refine r_iload_n (pc' := 81) X hl 1 rfl rfl 46 rfl rfl ?_
      refine r_aload_n (pc' := 82) X hl 0 rfl rfl 47 rfl rfl ?_
      refine r_get (pc' := 85) (v := .ref h_readKinds) X Y 48 rfl rfl fRX8_43 0 rfl rfl ?_
      refine r_iload_n (pc' := 86) X hl 1 rfl rfl 49 rfl rfl ?_
      refine r_iald (pc' := 87) X Y 50 rfl rfl 12 rfl (vin g5) ?_
      refine r_iast (pc' := 88) (ws' := wMS G h h_items h_lanes h_sizes h_firms h_kinds h_now h_before h_images h_tape h_trace h_readFirms h_readKinds h_readAt h_rows h_bests ((ms_status u1.2), (ms_readPoints u1.2), (ms_readHome u1.2), (ms_readMen u1.2), (1 : Int32), (ms_acts u1.2), (ms_imaged u1.2), (0 : Int32), (ms_fault u1.2), (ms_traced u1.2), (ms_spot u1.2), (ms_begins u1.2), (ms_token u1.2), (ms_number u1.2), (ms_readPoints u1.2), (ms_readHome u1.2), (ms_readMen u1.2), (ms_otherOne u1.2), (ms_otherKind u1.2), (ms_items u1.2), (ms_lanes u1.2), (ms_sizes u1.2), (upd st3.2.1 (st3.1).toNatClampNeg ((ms_readFirms u1.2) (st3.1).toNatClampNeg)), (upd st3.2.2.1 (st3.1).toNatClampNeg ((ms_readKinds u1.2) (st3.1).toNatClampNeg)), st3.2.2.2, (ms_before u1.2), (ms_images u1.2), (ms_tape u1.2), (ms_trace u1.2), (ms_readFirms u1.2), (ms_readKinds u1.2), (ms_readAt u1.2), (ms_rows u1.2), (ms_bests u1.2))) X Y 51 rfl rfl 5 rfl (vin g5) rfl (fun H locs Y => ?_)
      refine r_aload_n (pc' := 89) X hl 0 rfl rfl 52 rfl rfl ?_
      refine r_get (pc' := 92) (v := .ref h_now) X Y 53 rfl rfl fRX8_25 0 rfl rfl ?_
      refine r_iload_n (pc' := 93) X hl 1 rfl rfl 54 rfl rfl ?_
      refine r_iload_n (pc' := 94) X hl 1 rfl rfl 55 rfl rfl ?_
      refine r_aload_n (pc' := 95) X hl 0 rfl rfl 56 rfl rfl ?_
      refine r_get (pc' := 98) (v := .int (ms_readMen u1.2)) X Y 57 rfl rfl fRX8_159 0 rfl rfl ?_
      refine r_icmp_ge (pc' := 101) X 110 58 rfl rfl (by decide) (fun c6 => ?_) (fun c6 => ?_)
      · replace hM := mI hM c6
        refine r_bipush (pc' := 112) X (99 : Int32) 64 rfl rfl rfl ?_
        obtain ⟨g7, hM⟩ := mG hM hne3
        refine r_iast (pc' := 113) (ws' := wMS G h h_items h_lanes h_sizes h_firms h_kinds h_now h_before h_images h_tape h_trace h_readFirms h_readKinds h_readAt h_rows h_bests ((ms_status u1.2), (ms_readPoints u1.2), (ms_readHome u1.2), (ms_readMen u1.2), (1 : Int32), (ms_acts u1.2), (ms_imaged u1.2), (0 : Int32), (ms_fault u1.2), (ms_traced u1.2), (ms_spot u1.2), (ms_begins u1.2), (ms_token u1.2), (ms_number u1.2), (ms_readPoints u1.2), (ms_readHome u1.2), (ms_readMen u1.2), (ms_otherOne u1.2), (ms_otherKind u1.2), (ms_items u1.2), (ms_lanes u1.2), (ms_sizes u1.2), (upd st3.2.1 (st3.1).toNatClampNeg ((ms_readFirms u1.2) (st3.1).toNatClampNeg)), (upd st3.2.2.1 (st3.1).toNatClampNeg ((ms_readKinds u1.2) (st3.1).toNatClampNeg)), (upd st3.2.2.2 (st3.1).toNatClampNeg (99 : Int32)), (ms_before u1.2), (ms_images u1.2), (ms_tape u1.2), (ms_trace u1.2), (ms_readFirms u1.2), (ms_readKinds u1.2), (ms_readAt u1.2), (ms_rows u1.2), (ms_bests u1.2))) X Y 65 rfl rfl 6 rfl (vin g7) rfl (fun H locs Y => ?_)
        refine r_iinc (pc' := 116) (L' := [(2, .int (st3.1 + (1 : Int32))), (0, .ref h)]) X (st3.1 + (1 : Int32)) hl 1 rfl rfl 66 rfl rfl (by decide) rfl (fun ls hl => ?_)
        refine r_goto X 58 67 rfl (by decide) ?_
        exact IH3 _ hM _ _ _ Y (lv_sub hl [1, 0] rfl)
      · replace hM := mE hM c6
        refine r_aload_n (pc' := 102) X hl 0 rfl rfl 59 rfl rfl ?_
        refine r_get (pc' := 105) (v := .ref h_readAt) X Y 60 rfl rfl fRX8_46 0 rfl rfl ?_
        refine r_iload_n (pc' := 106) X hl 1 rfl rfl 61 rfl rfl ?_
        refine r_iald (pc' := 107) X Y 62 rfl rfl 13 rfl (vin g5) ?_
        refine r_goto X 112 63 rfl (by decide) ?_
        obtain ⟨g8, hM⟩ := mG hM hne3
        refine r_iast (pc' := 113) (ws' := wMS G h h_items h_lanes h_sizes h_firms h_kinds h_now h_before h_images h_tape h_trace h_readFirms h_readKinds h_readAt h_rows h_bests ((ms_status u1.2), (ms_readPoints u1.2), (ms_readHome u1.2), (ms_readMen u1.2), (1 : Int32), (ms_acts u1.2), (ms_imaged u1.2), (0 : Int32), (ms_fault u1.2), (ms_traced u1.2), (ms_spot u1.2), (ms_begins u1.2), (ms_token u1.2), (ms_number u1.2), (ms_readPoints u1.2), (ms_readHome u1.2), (ms_readMen u1.2), (ms_otherOne u1.2), (ms_otherKind u1.2), (ms_items u1.2), (ms_lanes u1.2), (ms_sizes u1.2), (upd st3.2.1 (st3.1).toNatClampNeg ((ms_readFirms u1.2) (st3.1).toNatClampNeg)), (upd st3.2.2.1 (st3.1).toNatClampNeg ((ms_readKinds u1.2) (st3.1).toNatClampNeg)), (upd st3.2.2.2 (st3.1).toNatClampNeg ((ms_readAt u1.2) (st3.1).toNatClampNeg)), (ms_before u1.2), (ms_images u1.2), (ms_tape u1.2), (ms_trace u1.2), (ms_readFirms u1.2), (ms_readKinds u1.2), (ms_readAt u1.2), (ms_rows u1.2), (ms_bests u1.2))) X Y 65 rfl rfl 6 rfl (vin g8) rfl (fun H locs Y => ?_)
        refine r_iinc (pc' := 116) (L' := [(2, .int (st3.1 + (1 : Int32))), (0, .ref h)]) X (st3.1 + (1 : Int32)) hl 1 rfl rfl 66 rfl rfl (by decide) rfl (fun ls hl => ?_)
        refine r_goto X 58 67 rfl (by decide) ?_
        exact IH3 _ hM _ _ _ Y (lv_sub hl [1, 0] rfl)
  · replace hM := mE hM c2
    refine r_aload_n (pc' := 15) X hl 1 rfl rfl 8 rfl rfl ?_
    refine r_iload_n (pc' := 16) X hl 0 rfl rfl 9 rfl rfl ?_
    refine r_put (pc' := 19) (ws' := wMS G h h_items h_lanes h_sizes h_firms h_kinds h_now h_before h_images h_tape h_trace h_readFirms h_readKinds h_readAt h_rows h_bests ((ms_status u1.2), (ms_points u1.2), (ms_home u1.2), (ms_men u1.2), (ms_hasTable u1.2), (ms_acts u1.2), (ms_imaged u1.2), (0 : Int32), u1.1, (ms_traced u1.2), (ms_spot u1.2), (ms_begins u1.2), (ms_token u1.2), (ms_number u1.2), (ms_readPoints u1.2), (ms_readHome u1.2), (ms_readMen u1.2), (ms_otherOne u1.2), (ms_otherKind u1.2), (ms_items u1.2), (ms_lanes u1.2), (ms_sizes u1.2), (ms_firms u1.2), (ms_kinds u1.2), (ms_now u1.2), (ms_before u1.2), (ms_images u1.2), (ms_tape u1.2), (ms_trace u1.2), (ms_readFirms u1.2), (ms_readKinds u1.2), (ms_readAt u1.2), (ms_rows u1.2), (ms_bests u1.2))) X Y 10 rfl rfl fRX8_149 0 rfl rfl rfl (Nat.le_of_ble_eq_true rfl) rfl (fun H locs Y => ?_)
    refine r_ldc (pc' := 21) X mw605 11 rfl rfl ?_
    refine r_aload_n (pc' := 22) X hl 1 rfl rfl 12 rfl rfl ?_
    refine r_get (pc' := 25) (v := .int (ms_begins u1.2)) X Y 13 rfl rfl fRX8_101 0 rfl rfl ?_
    refine r_isub (pc' := 26) X 14 rfl rfl ?_
    exact RT (((-1000100 : Int32) - (ms_begins u1.2)), ((ms_status u1.2), (ms_points u1.2), (ms_home u1.2), (ms_men u1.2), (ms_hasTable u1.2), (ms_acts u1.2), (ms_imaged u1.2), (0 : Int32), u1.1, (ms_traced u1.2), (ms_spot u1.2), (ms_begins u1.2), (ms_token u1.2), (ms_number u1.2), (ms_readPoints u1.2), (ms_readHome u1.2), (ms_readMen u1.2), (ms_otherOne u1.2), (ms_otherKind u1.2), (ms_items u1.2), (ms_lanes u1.2), (ms_sizes u1.2), (ms_firms u1.2), (ms_kinds u1.2), (ms_now u1.2), (ms_before u1.2), (ms_images u1.2), (ms_tape u1.2), (ms_trace u1.2), (ms_readFirms u1.2), (ms_readKinds u1.2), (ms_readAt u1.2), (ms_rows u1.2), (ms_bests u1.2))) _ _ _ _ _ hM (Or.inl ⟨rfl, rfl, _, rfl⟩) (X.d (k := 15) rfl) Y

def M_X8_fault (S0 : MS) : Option (Int32) :=
  (some (ms_fault S0))
def q_X8_fault : Room := { frames := 1, cells := 0, slots := 0, locals := 60 }
set_option maxHeartbeats 4000000 in
set_option maxRecDepth 100000 in
theorem c_X8_fault (l : Launch) (G : gT) (h h_items h_lanes h_sizes h_firms h_kinds h_now h_before h_images h_tape h_trace h_readFirms h_readKinds h_readAt h_rows h_bests : Nat) (S0 : MS) : CT l G yX8_fault cX8_fault 1 (some .int) q_X8_fault [.ref h] (wMS G h h_items h_lanes h_sizes h_firms h_kinds h_now h_before h_images h_tape h_trace h_readFirms h_readKinds h_readAt h_rows h_bests S0) (M_X8_fault S0) (fun u => some (.int u)) (fun u => wMS G h h_items h_lanes h_sizes h_firms h_kinds h_now h_before h_images h_tape h_trace h_readFirms h_readKinds h_readAt h_rows h_bests S0) := by
  refine CT.of (P := PX8_fault) (by decide) dPX8_fault (Nat.le_of_ble_eq_true rfl) ?_
  intro p e s m args below meth c A Q ls hne X RT Y hl
  have hl : lv_has ls 1 [(0, .ref h)] := hl
  generalize hM : M_X8_fault S0 = MM at hne RT
  unfold M_X8_fault at hM
  refine r_aload_n (pc' := 1) X hl 0 rfl rfl 0 rfl rfl ?_
  refine r_get (pc' := 4) (v := .int (ms_fault S0)) X Y 1 rfl rfl fRX8_149 0 rfl rfl ?_
  exact RT (ms_fault S0) _ _ _ _ _ hM (Or.inl ⟨rfl, rfl, _, rfl⟩) (X.d (k := 2) rfl) Y

def M_X8_aside (S0 : MS) (i1 : Int32) : Option (MS) :=
  (lp (σ := Int32 × (Nat → Int32)) (β := MS) (fun rec1 st1 => (if (12 : Int32) ≤ st1.1 then (some ((ms_status S0), (ms_points S0), (ms_home S0), (ms_men S0), (ms_hasTable S0), (ms_acts S0), (ms_imaged S0), (ms_length S0), (ms_fault S0), (ms_traced S0), (ms_spot S0), (ms_begins S0), (ms_token S0), (ms_number S0), (ms_readPoints S0), (ms_readHome S0), (ms_readMen S0), (ms_otherOne S0), (ms_otherKind S0), (ms_items S0), (ms_lanes S0), (ms_sizes S0), (ms_firms S0), (ms_kinds S0), (ms_now S0), (ms_before S0), (ms_images S0), (ms_tape S0), (ms_trace S0), (ms_readFirms S0), (ms_readKinds S0), (ms_readAt S0), st1.2, (ms_bests S0))) else (if inb st1.1 12 = true then (if inb (((12 : Int32) * i1) + st1.1) 48 = true then (rec1 ((st1.1 + (1 : Int32)), (upd st1.2 ((((12 : Int32) * i1) + st1.1)).toNatClampNeg ((ms_now S0) (st1.1).toNatClampNeg)))) else none) else none))) 1000000 ((0 : Int32), (ms_rows S0)))
def q_X8_aside : Room := { frames := 1, cells := 0, slots := 0, locals := 60 }
set_option maxHeartbeats 4000000 in
set_option maxRecDepth 100000 in
theorem c_X8_aside (l : Launch) (G : gT) (h h_items h_lanes h_sizes h_firms h_kinds h_now h_before h_images h_tape h_trace h_readFirms h_readKinds h_readAt h_rows h_bests : Nat) (S0 : MS) (i1 : Int32) : CT l G yX8_aside cX8_aside 3 none q_X8_aside [.ref h, .int i1] (wMS G h h_items h_lanes h_sizes h_firms h_kinds h_now h_before h_images h_tape h_trace h_readFirms h_readKinds h_readAt h_rows h_bests S0) (M_X8_aside S0 i1) (fun u => none) (fun u => wMS G h h_items h_lanes h_sizes h_firms h_kinds h_now h_before h_images h_tape h_trace h_readFirms h_readKinds h_readAt h_rows h_bests u) := by
  refine CT.of (P := PX8_aside) (by decide) dPX8_aside (Nat.le_of_ble_eq_true rfl) ?_
  intro p e s m args below meth c A Q ls hne X RT Y hl
  have hl : lv_has ls 3 [(0, .ref h), (1, .int i1)] := hl
  generalize hM : M_X8_aside S0 i1 = MM at hne RT
  unfold M_X8_aside at hM
  refine r_iconst (pc' := 1) X (0 : Int32) 0 rfl rfl rfl ?_
  refine r_istore_n (pc' := 2) (L' := [(2, .int (0 : Int32)), (0, .ref h), (1, .int i1)]) X hl rfl 1 rfl rfl (by decide) rfl (fun ls hl => ?_)
  refine lp_rule (I := fun (st1 : Int32 × (Nat → Int32)) => ∀ (H : Heap) (locs : List Loc) (ls : Array Slot), rY G A s (wMS G h h_items h_lanes h_sizes h_firms h_kinds h_now h_before h_images h_tape h_trace h_readFirms h_readKinds h_readAt h_rows h_bests ((ms_status S0), (ms_points S0), (ms_home S0), (ms_men S0), (ms_hasTable S0), (ms_acts S0), (ms_imaged S0), (ms_length S0), (ms_fault S0), (ms_traced S0), (ms_spot S0), (ms_begins S0), (ms_token S0), (ms_number S0), (ms_readPoints S0), (ms_readHome S0), (ms_readMen S0), (ms_otherOne S0), (ms_otherKind S0), (ms_items S0), (ms_lanes S0), (ms_sizes S0), (ms_firms S0), (ms_kinds S0), (ms_now S0), (ms_before S0), (ms_images S0), (ms_tape S0), (ms_trace S0), (ms_readFirms S0), (ms_readKinds S0), (ms_readAt S0), st1.2, (ms_bests S0))) H locs → lv_has ls 3 [(0, .ref h), (1, .int i1), (2, .int st1.1)] → W p l e q_X8_aside s m args below meth c H locs 0 0 Q (F0 m 2 ls [])) hne (fun rec1 st1 IH1 hM => ?_) _ _ hM _ _ _ Y (lv_sub hl [1, 2, 0] rfl)
  intro H locs ls Y hl
  refine r_iload_n (pc' := 3) X hl 2 rfl rfl 2 rfl rfl ?_
  refine r_bipush (pc' := 5) X (12 : Int32) 3 rfl rfl rfl ?_
  refine r_icmp_ge (pc' := 8) X 31 4 rfl rfl (by decide) (fun c2 => ?_) (fun c2 => ?_)
  · replace hM := mI hM c2
    exact RT ((ms_status S0), (ms_points S0), (ms_home S0), (ms_men S0), (ms_hasTable S0), (ms_acts S0), (ms_imaged S0), (ms_length S0), (ms_fault S0), (ms_traced S0), (ms_spot S0), (ms_begins S0), (ms_token S0), (ms_number S0), (ms_readPoints S0), (ms_readHome S0), (ms_readMen S0), (ms_otherOne S0), (ms_otherKind S0), (ms_items S0), (ms_lanes S0), (ms_sizes S0), (ms_firms S0), (ms_kinds S0), (ms_now S0), (ms_before S0), (ms_images S0), (ms_tape S0), (ms_trace S0), (ms_readFirms S0), (ms_readKinds S0), (ms_readAt S0), st1.2, (ms_bests S0)) _ _ _ _ _ hM (Or.inr (Or.inr (Or.inr (Or.inl ⟨rfl, rfl, rfl⟩)))) (X.d (k := 19) rfl) Y
  · replace hM := mE hM c2
    refine r_aload_n (pc' := 9) X hl 0 rfl rfl 5 rfl rfl ?_
    refine r_get (pc' := 12) (v := .ref h_rows) X Y 6 rfl rfl fRX8_49 0 rfl rfl ?_
    refine r_bipush (pc' := 14) X (12 : Int32) 7 rfl rfl rfl ?_
    refine r_iload_n (pc' := 15) X hl 1 rfl rfl 8 rfl rfl ?_
    refine r_imul (pc' := 16) X 9 rfl rfl ?_
    refine r_iload_n (pc' := 17) X hl 2 rfl rfl 10 rfl rfl ?_
    refine r_iadd (pc' := 18) X 11 rfl rfl ?_
    refine r_aload_n (pc' := 19) X hl 0 rfl rfl 12 rfl rfl ?_
    refine r_get (pc' := 22) (v := .ref h_now) X Y 13 rfl rfl fRX8_25 0 rfl rfl ?_
    refine r_iload_n (pc' := 23) X hl 2 rfl rfl 14 rfl rfl ?_
    obtain ⟨g3, hM⟩ := mG hM hne
    refine r_iald (pc' := 24) X Y 15 rfl rfl 6 rfl (vin g3) ?_
    obtain ⟨g4, hM⟩ := mG hM hne
    refine r_iast (pc' := 25) (ws' := wMS G h h_items h_lanes h_sizes h_firms h_kinds h_now h_before h_images h_tape h_trace h_readFirms h_readKinds h_readAt h_rows h_bests ((ms_status S0), (ms_points S0), (ms_home S0), (ms_men S0), (ms_hasTable S0), (ms_acts S0), (ms_imaged S0), (ms_length S0), (ms_fault S0), (ms_traced S0), (ms_spot S0), (ms_begins S0), (ms_token S0), (ms_number S0), (ms_readPoints S0), (ms_readHome S0), (ms_readMen S0), (ms_otherOne S0), (ms_otherKind S0), (ms_items S0), (ms_lanes S0), (ms_sizes S0), (ms_firms S0), (ms_kinds S0), (ms_now S0), (ms_before S0), (ms_images S0), (ms_tape S0), (ms_trace S0), (ms_readFirms S0), (ms_readKinds S0), (ms_readAt S0), (upd st1.2 ((((12 : Int32) * i1) + st1.1)).toNatClampNeg ((ms_now S0) (st1.1).toNatClampNeg)), (ms_bests S0))) X Y 16 rfl rfl 14 rfl (vin g4) rfl (fun H locs Y => ?_)
    refine r_iinc (pc' := 28) (L' := [(2, .int (st1.1 + (1 : Int32))), (0, .ref h), (1, .int i1)]) X (st1.1 + (1 : Int32)) hl 2 rfl rfl 17 rfl rfl (by decide) rfl (fun ls hl => ?_)
    refine r_goto X 2 18 rfl (by decide) ?_
    exact IH1 _ hM _ _ _ Y (lv_sub hl [1, 2, 0] rfl)

def M_X8_deeper (S0 : MS) (i1 : Int32) : Option (MS) :=
  (lp (σ := Int32 × (Nat → Int32)) (β := MS) (fun rec1 st1 => (if (12 : Int32) ≤ st1.1 then (some ((ms_status S0), (ms_points S0), (ms_home S0), (ms_men S0), (ms_hasTable S0), (ms_acts S0), (ms_imaged S0), (ms_length S0), (ms_fault S0), (ms_traced S0), (ms_spot S0), (ms_begins S0), (ms_token S0), (ms_number S0), (ms_readPoints S0), (ms_readHome S0), (ms_readMen S0), (ms_otherOne S0), (ms_otherKind S0), (ms_items S0), (ms_lanes S0), (ms_sizes S0), (ms_firms S0), (ms_kinds S0), (ms_now S0), (ms_before S0), (ms_images S0), (ms_tape S0), (ms_trace S0), (ms_readFirms S0), (ms_readKinds S0), (ms_readAt S0), st1.2, (ms_bests S0))) else (if inb (((12 : Int32) * i1) + st1.1) 48 = true then (if inb (((12 : Int32) * (i1 + (1 : Int32))) + st1.1) 48 = true then (rec1 ((st1.1 + (1 : Int32)), (upd st1.2 ((((12 : Int32) * (i1 + (1 : Int32))) + st1.1)).toNatClampNeg (st1.2 ((((12 : Int32) * i1) + st1.1)).toNatClampNeg)))) else none) else none))) 1000000 ((0 : Int32), (ms_rows S0)))
def q_X8_deeper : Room := { frames := 1, cells := 0, slots := 0, locals := 60 }
set_option maxHeartbeats 4000000 in
set_option maxRecDepth 100000 in
theorem c_X8_deeper (l : Launch) (G : gT) (h h_items h_lanes h_sizes h_firms h_kinds h_now h_before h_images h_tape h_trace h_readFirms h_readKinds h_readAt h_rows h_bests : Nat) (S0 : MS) (i1 : Int32) : CT l G yX8_deeper cX8_deeper 3 none q_X8_deeper [.ref h, .int i1] (wMS G h h_items h_lanes h_sizes h_firms h_kinds h_now h_before h_images h_tape h_trace h_readFirms h_readKinds h_readAt h_rows h_bests S0) (M_X8_deeper S0 i1) (fun u => none) (fun u => wMS G h h_items h_lanes h_sizes h_firms h_kinds h_now h_before h_images h_tape h_trace h_readFirms h_readKinds h_readAt h_rows h_bests u) := by
  refine CT.of (P := PX8_deeper) (by decide) dPX8_deeper (Nat.le_of_ble_eq_true rfl) ?_
  intro p e s m args below meth c A Q ls hne X RT Y hl
  have hl : lv_has ls 3 [(0, .ref h), (1, .int i1)] := hl
  generalize hM : M_X8_deeper S0 i1 = MM at hne RT
  unfold M_X8_deeper at hM
  refine r_iconst (pc' := 1) X (0 : Int32) 0 rfl rfl rfl ?_
  refine r_istore_n (pc' := 2) (L' := [(2, .int (0 : Int32)), (0, .ref h), (1, .int i1)]) X hl rfl 1 rfl rfl (by decide) rfl (fun ls hl => ?_)
  refine lp_rule (I := fun (st1 : Int32 × (Nat → Int32)) => ∀ (H : Heap) (locs : List Loc) (ls : Array Slot), rY G A s (wMS G h h_items h_lanes h_sizes h_firms h_kinds h_now h_before h_images h_tape h_trace h_readFirms h_readKinds h_readAt h_rows h_bests ((ms_status S0), (ms_points S0), (ms_home S0), (ms_men S0), (ms_hasTable S0), (ms_acts S0), (ms_imaged S0), (ms_length S0), (ms_fault S0), (ms_traced S0), (ms_spot S0), (ms_begins S0), (ms_token S0), (ms_number S0), (ms_readPoints S0), (ms_readHome S0), (ms_readMen S0), (ms_otherOne S0), (ms_otherKind S0), (ms_items S0), (ms_lanes S0), (ms_sizes S0), (ms_firms S0), (ms_kinds S0), (ms_now S0), (ms_before S0), (ms_images S0), (ms_tape S0), (ms_trace S0), (ms_readFirms S0), (ms_readKinds S0), (ms_readAt S0), st1.2, (ms_bests S0))) H locs → lv_has ls 3 [(0, .ref h), (1, .int i1), (2, .int st1.1)] → W p l e q_X8_deeper s m args below meth c H locs 0 0 Q (F0 m 2 ls [])) hne (fun rec1 st1 IH1 hM => ?_) _ _ hM _ _ _ Y (lv_sub hl [1, 2, 0] rfl)
  intro H locs ls Y hl
  refine r_iload_n (pc' := 3) X hl 2 rfl rfl 2 rfl rfl ?_
  refine r_bipush (pc' := 5) X (12 : Int32) 3 rfl rfl rfl ?_
  refine r_icmp_ge (pc' := 8) X 38 4 rfl rfl (by decide) (fun c2 => ?_) (fun c2 => ?_)
  · replace hM := mI hM c2
    exact RT ((ms_status S0), (ms_points S0), (ms_home S0), (ms_men S0), (ms_hasTable S0), (ms_acts S0), (ms_imaged S0), (ms_length S0), (ms_fault S0), (ms_traced S0), (ms_spot S0), (ms_begins S0), (ms_token S0), (ms_number S0), (ms_readPoints S0), (ms_readHome S0), (ms_readMen S0), (ms_otherOne S0), (ms_otherKind S0), (ms_items S0), (ms_lanes S0), (ms_sizes S0), (ms_firms S0), (ms_kinds S0), (ms_now S0), (ms_before S0), (ms_images S0), (ms_tape S0), (ms_trace S0), (ms_readFirms S0), (ms_readKinds S0), (ms_readAt S0), st1.2, (ms_bests S0)) _ _ _ _ _ hM (Or.inr (Or.inr (Or.inr (Or.inl ⟨rfl, rfl, rfl⟩)))) (X.d (k := 25) rfl) Y
  · replace hM := mE hM c2
    refine r_aload_n (pc' := 9) X hl 0 rfl rfl 5 rfl rfl ?_
    refine r_get (pc' := 12) (v := .ref h_rows) X Y 6 rfl rfl fRX8_49 0 rfl rfl ?_
    refine r_bipush (pc' := 14) X (12 : Int32) 7 rfl rfl rfl ?_
    refine r_iload_n (pc' := 15) X hl 1 rfl rfl 8 rfl rfl ?_
    refine r_iconst (pc' := 16) X (1 : Int32) 9 rfl rfl rfl ?_
    refine r_iadd (pc' := 17) X 10 rfl rfl ?_
    refine r_imul (pc' := 18) X 11 rfl rfl ?_
    refine r_iload_n (pc' := 19) X hl 2 rfl rfl 12 rfl rfl ?_
    refine r_iadd (pc' := 20) X 13 rfl rfl ?_
    refine r_aload_n (pc' := 21) X hl 0 rfl rfl 14 rfl rfl ?_
    refine r_get (pc' := 24) (v := .ref h_rows) X Y 15 rfl rfl fRX8_49 0 rfl rfl ?_
    refine r_bipush (pc' := 26) X (12 : Int32) 16 rfl rfl rfl ?_
    refine r_iload_n (pc' := 27) X hl 1 rfl rfl 17 rfl rfl ?_
    refine r_imul (pc' := 28) X 18 rfl rfl ?_
    refine r_iload_n (pc' := 29) X hl 2 rfl rfl 19 rfl rfl ?_
    refine r_iadd (pc' := 30) X 20 rfl rfl ?_
    obtain ⟨g3, hM⟩ := mG hM hne
    refine r_iald (pc' := 31) X Y 21 rfl rfl 14 rfl (vin g3) ?_
    obtain ⟨g4, hM⟩ := mG hM hne
    refine r_iast (pc' := 32) (ws' := wMS G h h_items h_lanes h_sizes h_firms h_kinds h_now h_before h_images h_tape h_trace h_readFirms h_readKinds h_readAt h_rows h_bests ((ms_status S0), (ms_points S0), (ms_home S0), (ms_men S0), (ms_hasTable S0), (ms_acts S0), (ms_imaged S0), (ms_length S0), (ms_fault S0), (ms_traced S0), (ms_spot S0), (ms_begins S0), (ms_token S0), (ms_number S0), (ms_readPoints S0), (ms_readHome S0), (ms_readMen S0), (ms_otherOne S0), (ms_otherKind S0), (ms_items S0), (ms_lanes S0), (ms_sizes S0), (ms_firms S0), (ms_kinds S0), (ms_now S0), (ms_before S0), (ms_images S0), (ms_tape S0), (ms_trace S0), (ms_readFirms S0), (ms_readKinds S0), (ms_readAt S0), (upd st1.2 ((((12 : Int32) * (i1 + (1 : Int32))) + st1.1)).toNatClampNeg (st1.2 ((((12 : Int32) * i1) + st1.1)).toNatClampNeg)), (ms_bests S0))) X Y 22 rfl rfl 14 rfl (vin g4) rfl (fun H locs Y => ?_)
    refine r_iinc (pc' := 35) (L' := [(2, .int (st1.1 + (1 : Int32))), (0, .ref h), (1, .int i1)]) X (st1.1 + (1 : Int32)) hl 2 rfl rfl 23 rfl rfl (by decide) rfl (fun ls hl => ?_)
    refine r_goto X 2 24 rfl (by decide) ?_
    exact IH1 _ hM _ _ _ Y (lv_sub hl [1, 2, 0] rfl)

def M_X8_take (S0 : MS) : Option (MS) :=
  (lp (σ := Int32 × (Nat → Int32)) (β := MS) (fun rec1 st1 => (if (12 : Int32) ≤ st1.1 then (some ((ms_status S0), (ms_points S0), (ms_home S0), (ms_men S0), (ms_hasTable S0), (ms_acts S0), (ms_imaged S0), (ms_length S0), (ms_fault S0), (ms_traced S0), (ms_spot S0), (ms_begins S0), (ms_token S0), (ms_number S0), (ms_readPoints S0), (ms_readHome S0), (ms_readMen S0), (ms_otherOne S0), (ms_otherKind S0), (ms_items S0), (ms_lanes S0), (ms_sizes S0), (ms_firms S0), (ms_kinds S0), st1.2, (ms_before S0), (ms_images S0), (ms_tape S0), (ms_trace S0), (ms_readFirms S0), (ms_readKinds S0), (ms_readAt S0), (ms_rows S0), (ms_bests S0))) else (if inb st1.1 48 = true then (if inb st1.1 12 = true then (rec1 ((st1.1 + (1 : Int32)), (upd st1.2 (st1.1).toNatClampNeg ((ms_rows S0) (st1.1).toNatClampNeg)))) else none) else none))) 1000000 ((0 : Int32), (ms_now S0)))
def q_X8_take : Room := { frames := 1, cells := 0, slots := 0, locals := 60 }
set_option maxHeartbeats 4000000 in
set_option maxRecDepth 100000 in
theorem c_X8_take (l : Launch) (G : gT) (h h_items h_lanes h_sizes h_firms h_kinds h_now h_before h_images h_tape h_trace h_readFirms h_readKinds h_readAt h_rows h_bests : Nat) (S0 : MS) : CT l G yX8_take cX8_take 2 none q_X8_take [.ref h] (wMS G h h_items h_lanes h_sizes h_firms h_kinds h_now h_before h_images h_tape h_trace h_readFirms h_readKinds h_readAt h_rows h_bests S0) (M_X8_take S0) (fun u => none) (fun u => wMS G h h_items h_lanes h_sizes h_firms h_kinds h_now h_before h_images h_tape h_trace h_readFirms h_readKinds h_readAt h_rows h_bests u) := by
  refine CT.of (P := PX8_take) (by decide) dPX8_take (Nat.le_of_ble_eq_true rfl) ?_
  intro p e s m args below meth c A Q ls hne X RT Y hl
  have hl : lv_has ls 2 [(0, .ref h)] := hl
  generalize hM : M_X8_take S0 = MM at hne RT
  unfold M_X8_take at hM
  refine r_iconst (pc' := 1) X (0 : Int32) 0 rfl rfl rfl ?_
  refine r_istore_n (pc' := 2) (L' := [(1, .int (0 : Int32)), (0, .ref h)]) X hl rfl 1 rfl rfl (by decide) rfl (fun ls hl => ?_)
  refine lp_rule (I := fun (st1 : Int32 × (Nat → Int32)) => ∀ (H : Heap) (locs : List Loc) (ls : Array Slot), rY G A s (wMS G h h_items h_lanes h_sizes h_firms h_kinds h_now h_before h_images h_tape h_trace h_readFirms h_readKinds h_readAt h_rows h_bests ((ms_status S0), (ms_points S0), (ms_home S0), (ms_men S0), (ms_hasTable S0), (ms_acts S0), (ms_imaged S0), (ms_length S0), (ms_fault S0), (ms_traced S0), (ms_spot S0), (ms_begins S0), (ms_token S0), (ms_number S0), (ms_readPoints S0), (ms_readHome S0), (ms_readMen S0), (ms_otherOne S0), (ms_otherKind S0), (ms_items S0), (ms_lanes S0), (ms_sizes S0), (ms_firms S0), (ms_kinds S0), st1.2, (ms_before S0), (ms_images S0), (ms_tape S0), (ms_trace S0), (ms_readFirms S0), (ms_readKinds S0), (ms_readAt S0), (ms_rows S0), (ms_bests S0))) H locs → lv_has ls 2 [(0, .ref h), (1, .int st1.1)] → W p l e q_X8_take s m args below meth c H locs 0 0 Q (F0 m 2 ls [])) hne (fun rec1 st1 IH1 hM => ?_) _ _ hM _ _ _ Y (lv_sub hl [1, 0] rfl)
  intro H locs ls Y hl
  refine r_iload_n (pc' := 3) X hl 1 rfl rfl 2 rfl rfl ?_
  refine r_bipush (pc' := 5) X (12 : Int32) 3 rfl rfl rfl ?_
  refine r_icmp_ge (pc' := 8) X 26 4 rfl rfl (by decide) (fun c2 => ?_) (fun c2 => ?_)
  · replace hM := mI hM c2
    exact RT ((ms_status S0), (ms_points S0), (ms_home S0), (ms_men S0), (ms_hasTable S0), (ms_acts S0), (ms_imaged S0), (ms_length S0), (ms_fault S0), (ms_traced S0), (ms_spot S0), (ms_begins S0), (ms_token S0), (ms_number S0), (ms_readPoints S0), (ms_readHome S0), (ms_readMen S0), (ms_otherOne S0), (ms_otherKind S0), (ms_items S0), (ms_lanes S0), (ms_sizes S0), (ms_firms S0), (ms_kinds S0), st1.2, (ms_before S0), (ms_images S0), (ms_tape S0), (ms_trace S0), (ms_readFirms S0), (ms_readKinds S0), (ms_readAt S0), (ms_rows S0), (ms_bests S0)) _ _ _ _ _ hM (Or.inr (Or.inr (Or.inr (Or.inl ⟨rfl, rfl, rfl⟩)))) (X.d (k := 15) rfl) Y
  · replace hM := mE hM c2
    refine r_aload_n (pc' := 9) X hl 0 rfl rfl 5 rfl rfl ?_
    refine r_get (pc' := 12) (v := .ref h_now) X Y 6 rfl rfl fRX8_25 0 rfl rfl ?_
    refine r_iload_n (pc' := 13) X hl 1 rfl rfl 7 rfl rfl ?_
    refine r_aload_n (pc' := 14) X hl 0 rfl rfl 8 rfl rfl ?_
    refine r_get (pc' := 17) (v := .ref h_rows) X Y 9 rfl rfl fRX8_49 0 rfl rfl ?_
    refine r_iload_n (pc' := 18) X hl 1 rfl rfl 10 rfl rfl ?_
    obtain ⟨g3, hM⟩ := mG hM hne
    refine r_iald (pc' := 19) X Y 11 rfl rfl 14 rfl (vin g3) ?_
    obtain ⟨g4, hM⟩ := mG hM hne
    refine r_iast (pc' := 20) (ws' := wMS G h h_items h_lanes h_sizes h_firms h_kinds h_now h_before h_images h_tape h_trace h_readFirms h_readKinds h_readAt h_rows h_bests ((ms_status S0), (ms_points S0), (ms_home S0), (ms_men S0), (ms_hasTable S0), (ms_acts S0), (ms_imaged S0), (ms_length S0), (ms_fault S0), (ms_traced S0), (ms_spot S0), (ms_begins S0), (ms_token S0), (ms_number S0), (ms_readPoints S0), (ms_readHome S0), (ms_readMen S0), (ms_otherOne S0), (ms_otherKind S0), (ms_items S0), (ms_lanes S0), (ms_sizes S0), (ms_firms S0), (ms_kinds S0), (upd st1.2 (st1.1).toNatClampNeg ((ms_rows S0) (st1.1).toNatClampNeg)), (ms_before S0), (ms_images S0), (ms_tape S0), (ms_trace S0), (ms_readFirms S0), (ms_readKinds S0), (ms_readAt S0), (ms_rows S0), (ms_bests S0))) X Y 12 rfl rfl 6 rfl (vin g4) rfl (fun H locs Y => ?_)
    refine r_iinc (pc' := 23) (L' := [(1, .int (st1.1 + (1 : Int32))), (0, .ref h)]) X (st1.1 + (1 : Int32)) hl 1 rfl rfl 13 rfl rfl (by decide) rfl (fun ls hl => ?_)
    refine r_goto X 2 14 rfl (by decide) ?_
    exact IH1 _ hM _ _ _ Y (lv_sub hl [1, 0] rfl)

def M_X8_at (S0 : MS) (i1 : Int32) (i2 : Int32) : Option (Int32) :=
  (if inb (((12 : Int32) * i1) + i2) 48 = true then (some ((ms_rows S0) ((((12 : Int32) * i1) + i2)).toNatClampNeg)) else none)
def q_X8_at : Room := { frames := 1, cells := 0, slots := 0, locals := 60 }
set_option maxHeartbeats 4000000 in
set_option maxRecDepth 100000 in
theorem c_X8_at (l : Launch) (G : gT) (h h_items h_lanes h_sizes h_firms h_kinds h_now h_before h_images h_tape h_trace h_readFirms h_readKinds h_readAt h_rows h_bests : Nat) (S0 : MS) (i1 : Int32) (i2 : Int32) : CT l G yX8_at cX8_at 3 (some .int) q_X8_at [.ref h, .int i1, .int i2] (wMS G h h_items h_lanes h_sizes h_firms h_kinds h_now h_before h_images h_tape h_trace h_readFirms h_readKinds h_readAt h_rows h_bests S0) (M_X8_at S0 i1 i2) (fun u => some (.int u)) (fun u => wMS G h h_items h_lanes h_sizes h_firms h_kinds h_now h_before h_images h_tape h_trace h_readFirms h_readKinds h_readAt h_rows h_bests S0) := by
  refine CT.of (P := PX8_at) (by decide) dPX8_at (Nat.le_of_ble_eq_true rfl) ?_
  intro p e s m args below meth c A Q ls hne X RT Y hl
  have hl : lv_has ls 3 [(0, .ref h), (1, .int i1), (2, .int i2)] := hl
  generalize hM : M_X8_at S0 i1 i2 = MM at hne RT
  unfold M_X8_at at hM
  refine r_aload_n (pc' := 1) X hl 0 rfl rfl 0 rfl rfl ?_
  refine r_get (pc' := 4) (v := .ref h_rows) X Y 1 rfl rfl fRX8_49 0 rfl rfl ?_
  refine r_bipush (pc' := 6) X (12 : Int32) 2 rfl rfl rfl ?_
  refine r_iload_n (pc' := 7) X hl 1 rfl rfl 3 rfl rfl ?_
  refine r_imul (pc' := 8) X 4 rfl rfl ?_
  refine r_iload_n (pc' := 9) X hl 2 rfl rfl 5 rfl rfl ?_
  refine r_iadd (pc' := 10) X 6 rfl rfl ?_
  obtain ⟨g1, hM⟩ := mG hM hne
  refine r_iald (pc' := 11) X Y 7 rfl rfl 14 rfl (vin g1) ?_
  exact RT ((ms_rows S0) ((((12 : Int32) * i1) + i2)).toNatClampNeg) _ _ _ _ _ hM (Or.inl ⟨rfl, rfl, _, rfl⟩) (X.d (k := 8) rfl) Y

def M_X8_pipsAt (S0 : MS) (i1 : Int32) (i2 : Int32) : Option (Int32) :=
  (if i2 = (99 : Int32) then (some (0 : Int32)) else (if i2 = (ms_points S0) then (some ((ms_points S0) + (1 : Int32))) else (if i1 = 0 then (some ((ms_points S0) - i2)) else (some (i2 + (1 : Int32))))))
def q_X8_pipsAt : Room := { frames := 1, cells := 0, slots := 0, locals := 60 }
set_option maxHeartbeats 4000000 in
set_option maxRecDepth 100000 in
theorem c_X8_pipsAt (l : Launch) (G : gT) (h h_items h_lanes h_sizes h_firms h_kinds h_now h_before h_images h_tape h_trace h_readFirms h_readKinds h_readAt h_rows h_bests : Nat) (S0 : MS) (i1 : Int32) (i2 : Int32) : CT l G yX8_pipsAt cX8_pipsAt 3 (some .int) q_X8_pipsAt [.ref h, .int i1, .int i2] (wMS G h h_items h_lanes h_sizes h_firms h_kinds h_now h_before h_images h_tape h_trace h_readFirms h_readKinds h_readAt h_rows h_bests S0) (M_X8_pipsAt S0 i1 i2) (fun u => some (.int u)) (fun u => wMS G h h_items h_lanes h_sizes h_firms h_kinds h_now h_before h_images h_tape h_trace h_readFirms h_readKinds h_readAt h_rows h_bests S0) := by
  refine CT.of (P := PX8_pipsAt) (by decide) dPX8_pipsAt (Nat.le_of_ble_eq_true rfl) ?_
  intro p e s m args below meth c A Q ls hne X RT Y hl
  have hl : lv_has ls 3 [(0, .ref h), (1, .int i1), (2, .int i2)] := hl
  generalize hM : M_X8_pipsAt S0 i1 i2 = MM at hne RT
  unfold M_X8_pipsAt at hM
  refine r_iload_n (pc' := 1) X hl 2 rfl rfl 0 rfl rfl ?_
  refine r_bipush (pc' := 3) X (99 : Int32) 1 rfl rfl rfl ?_
  refine r_icmp_ne (pc' := 6) X 10 2 rfl rfl (by decide) (fun c1 => ?_) (fun c1 => ?_)
  · replace hM := mE hM c1
    refine r_iload_n (pc' := 11) X hl 2 rfl rfl 5 rfl rfl ?_
    refine r_aload_n (pc' := 12) X hl 0 rfl rfl 6 rfl rfl ?_
    refine r_get (pc' := 15) (v := .int (ms_points S0)) X Y 7 rfl rfl fRX8_153 0 rfl rfl ?_
    refine r_icmp_ne (pc' := 18) X 27 8 rfl rfl (by decide) (fun c2 => ?_) (fun c2 => ?_)
    · replace hM := mE hM c2
      refine r_iload_n (pc' := 28) X hl 1 rfl rfl 14 rfl rfl ?_
      refine r_if_ne (pc' := 31) X 40 15 rfl rfl (by decide) (fun c3 => ?_) (fun c3 => ?_)
      · replace hM := mE hM c3
        refine r_iload_n (pc' := 41) X hl 2 rfl rfl 21 rfl rfl ?_
        refine r_iconst (pc' := 42) X (1 : Int32) 22 rfl rfl rfl ?_
        refine r_iadd (pc' := 43) X 23 rfl rfl ?_
        exact RT (i2 + (1 : Int32)) _ _ _ _ _ hM (Or.inl ⟨rfl, rfl, _, rfl⟩) (X.d (k := 24) rfl) Y
      · replace hM := mI hM c3
        refine r_aload_n (pc' := 32) X hl 0 rfl rfl 16 rfl rfl ?_
        refine r_get (pc' := 35) (v := .int (ms_points S0)) X Y 17 rfl rfl fRX8_153 0 rfl rfl ?_
        refine r_iload_n (pc' := 36) X hl 2 rfl rfl 18 rfl rfl ?_
        refine r_isub (pc' := 37) X 19 rfl rfl ?_
        refine r_goto X 43 20 rfl (by decide) ?_
        exact RT ((ms_points S0) - i2) _ _ _ _ _ hM (Or.inl ⟨rfl, rfl, _, rfl⟩) (X.d (k := 24) rfl) Y
    · replace hM := mI hM c2
      refine r_aload_n (pc' := 19) X hl 0 rfl rfl 9 rfl rfl ?_
      refine r_get (pc' := 22) (v := .int (ms_points S0)) X Y 10 rfl rfl fRX8_153 0 rfl rfl ?_
      refine r_iconst (pc' := 23) X (1 : Int32) 11 rfl rfl rfl ?_
      refine r_iadd (pc' := 24) X 12 rfl rfl ?_
      refine r_goto X 43 13 rfl (by decide) ?_
      exact RT ((ms_points S0) + (1 : Int32)) _ _ _ _ _ hM (Or.inl ⟨rfl, rfl, _, rfl⟩) (X.d (k := 24) rfl) Y
  · replace hM := mI hM c1
    refine r_iconst (pc' := 7) X (0 : Int32) 3 rfl rfl rfl ?_
    refine r_goto X 43 4 rfl (by decide) ?_
    exact RT (0 : Int32) _ _ _ _ _ hM (Or.inl ⟨rfl, rfl, _, rfl⟩) (X.d (k := 24) rfl) Y
