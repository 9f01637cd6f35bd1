def M_X1_bodyTold (i0 : Int32) (i1 : Int32) : Option (Int32) :=
  (if i0 = 0 then (if inb i1 6 = true then (some (kx1 (i1).toNatClampNeg)) else none) else (if inb i1 6 = true then (some (kx2 (i1).toNatClampNeg)) else none))
def q_X1_bodyTold : Room := { frames := 1, cells := 0, slots := 0, locals := 60 }
set_option maxHeartbeats 4000000 in
set_option maxRecDepth 100000 in
theorem c_X1_bodyTold (l : Launch) (G : gT) (i0 : Int32) (i1 : Int32) : CT l G yX1_bodyTold cX1_bodyTold 2 (some .int) q_X1_bodyTold [.int i0, .int i1] ([]) (M_X1_bodyTold i0 i1) (fun u => some (.int u)) (fun u => []) := by
  refine CT.of (P := PX1_bodyTold) (by decide) dPX1_bodyTold (Nat.le_of_ble_eq_true rfl) ?_
  intro p e s m args below meth c A Q ls hne X RT Y hl
  have hl : lv_has ls 2 [(0, .int i0), (1, .int i1)] := hl
  generalize hM : M_X1_bodyTold i0 i1 = MM at hne RT
  unfold M_X1_bodyTold at hM
  refine r_iload_n (pc' := 1) X hl 0 rfl rfl 0 rfl rfl ?_
  refine r_if_ne (pc' := 4) X 12 1 rfl rfl (by decide) (fun c1 => ?_) (fun c1 => ?_)
  · replace hM := mE hM c1
    refine r_gets_mb (pc' := 15) X Y 6 rfl rfl mw44 ?_
    refine r_iload_n (pc' := 16) X hl 1 rfl rfl 7 rfl rfl ?_
    obtain ⟨g2, hM⟩ := mG hM hne
    refine r_sld_mb (pc' := 17) X Y 8 rfl rfl (vin g2) ?_
    exact RT (kx2 (i1).toNatClampNeg) _ _ _ _ _ hM (Or.inl ⟨rfl, rfl, _, rfl⟩) (X.d (k := 9) rfl) Y
  · replace hM := mI hM c1
    refine r_gets_sb (pc' := 7) X Y 2 rfl rfl mw43 ?_
    refine r_iload_n (pc' := 8) X hl 1 rfl rfl 3 rfl rfl ?_
    obtain ⟨g3, hM⟩ := mG hM hne
    refine r_sld_sb (pc' := 9) X Y 4 rfl rfl (vin g3) ?_
    refine r_goto X 17 5 rfl (by decide) ?_
    exact RT (kx1 (i1).toNatClampNeg) _ _ _ _ _ hM (Or.inl ⟨rfl, rfl, _, rfl⟩) (X.d (k := 9) rfl) Y

def M_X1_leave (S0 : AS) (i1 : Int32) : Option (AS) :=
  (if (16 : Int32) ≤ (as_left S0) then (some S0) else (if inb (as_left S0) 16 = true then (some (((as_left S0) + (1 : Int32)), (upd (as_numbers S0) ((as_left S0)).toNatClampNeg i1))) else none))
def q_X1_leave : Room := { frames := 1, cells := 0, slots := 0, locals := 60 }
set_option maxHeartbeats 4000000 in
set_option maxRecDepth 100000 in
theorem c_X1_leave (l : Launch) (G : gT) (h h_numbers : Nat) (S0_left : Int32) (S0_numbers : Nat → Int32) (i1 : Int32) : CT l G yX1_leave cX1_leave 2 none q_X1_leave [.ref h, .int i1] (wAS G h h_numbers S0_left S0_numbers) (M_X1_leave (S0_left, S0_numbers) i1) (fun u => none) (fun u => wAS G h h_numbers u.1 u.2) := by
  refine CT.of (P := PX1_leave) (by decide) dPX1_leave (Nat.le_of_ble_eq_true rfl) ?_
  intro p e s m args below meth c A Q ls hne X RT Y hl
  have hl : lv_has ls 2 [(0, .ref h), (1, .int i1)] := hl
  generalize hM : M_X1_leave (S0_left, S0_numbers) i1 = MM at hne RT
  unfold M_X1_leave at hM
  refine r_aload_n (pc' := 1) X hl 0 rfl rfl 0 rfl rfl ?_
  refine r_get (pc' := 4) (v := .int S0_left) X Y 1 rfl rfl fRX1_15 0 rfl rfl ?_
  refine r_bipush (pc' := 6) X (16 : Int32) 2 rfl rfl rfl ?_
  refine r_icmp_ge (pc' := 9) X 29 3 rfl rfl (by decide) (fun c1 => ?_) (fun c1 => ?_)
  · replace hM := mI hM c1
    exact RT (S0_left, S0_numbers) _ _ _ _ _ hM (Or.inr (Or.inr (Or.inr (Or.inl ⟨rfl, rfl, rfl⟩)))) (X.d (k := 16) rfl) Y
  · replace hM := mE hM c1
    refine r_aload_n (pc' := 10) X hl 0 rfl rfl 4 rfl rfl ?_
    refine r_get (pc' := 13) (v := .ref h_numbers) X Y 5 rfl rfl fRX1_11 0 rfl rfl ?_
    refine r_aload_n (pc' := 14) X hl 0 rfl rfl 6 rfl rfl ?_
    refine r_get (pc' := 17) (v := .int S0_left) X Y 7 rfl rfl fRX1_15 0 rfl rfl ?_
    refine r_iload_n (pc' := 18) X hl 1 rfl rfl 8 rfl rfl ?_
    obtain ⟨g2, hM⟩ := mG hM hne
    refine r_iast (pc' := 19) (ws' := wAS G h h_numbers S0_left (upd S0_numbers (S0_left).toNatClampNeg i1)) X Y 9 rfl rfl 1 rfl (vin g2) rfl (fun H locs Y => ?_)
    refine r_aload_n (pc' := 20) X hl 0 rfl rfl 10 rfl rfl ?_
    refine r_dup (pc' := 21) X 11 rfl rfl rfl ?_
    refine r_get (pc' := 24) (v := .int S0_left) X Y 12 rfl rfl fRX1_15 0 rfl rfl ?_
    refine r_iconst (pc' := 25) X (1 : Int32) 13 rfl rfl rfl ?_
    refine r_iadd (pc' := 26) X 14 rfl rfl ?_
    refine r_put (pc' := 29) (ws' := wAS G h h_numbers (S0_left + (1 : Int32)) (upd S0_numbers (S0_left).toNatClampNeg i1)) X Y 15 rfl rfl fRX1_15 0 rfl rfl rfl (Nat.le_of_ble_eq_true rfl) rfl (fun H locs Y => ?_)
    exact RT ((S0_left + (1 : Int32)), (upd S0_numbers (S0_left).toNatClampNeg i1)) _ _ _ _ _ hM (Or.inr (Or.inr (Or.inr (Or.inl ⟨rfl, rfl, rfl⟩)))) (X.d (k := 16) rfl) Y

def M_X1_begun_0 (S0 : AS) (S1 : BD) (i2 : Int32) (i3 : Int32) (i4 : Int32) : Option (Int32 × AS) :=
  (if i4 ≤ (20 : Int32) then ((M_X1_leave S0 i3).bind (fun u2 => (if i3 = 10 then ((M_X2_pipsOf S1 i2).bind (fun u4 => (some (u4, u2)))) else (if i3 = 11 then none else (if i3 = 12 then none else (if i3 = 13 then none else (if i3 = 14 then none else (if i3 = 15 then (some ((0 : Int32), u2)) else (if i3 = 16 then (some ((0 : Int32), u2)) else (if i3 = 17 then (some ((0 : Int32), u2)) else (if i3 = 18 then (some ((0 : Int32), u2)) else (if i3 = 19 then (some ((0 : Int32), u2)) else (if i3 = 20 then (some (i2, u2)) else (if i3 = 21 then none else (if i3 = 22 then none else (if i3 = 23 then none else (if i3 = 24 then none else (some ((0 : Int32), u2))))))))))))))))))) else (some ((0 : Int32), S0)))
def q_X1_begun_0 : Room := { frames := 2, cells := 0, slots := 0, locals := 82 }
set_option maxHeartbeats 4000000 in
set_option maxRecDepth 100000 in
theorem c_X1_begun_0 (l : Launch) (G : gT) (a0 a1 a0_numbers a1_firms a1_kindsTold a1_places a1_crowds a1_pipsLeft a1_notHome : Nat) (S0_left : Int32) (S0_numbers : Nat → Int32) (S1_points : Int32) (S1_home : Int32) (S1_men : Int32) (S1_turn : Int32) (S1_thrower : Int32) (S1_cube : Int32) (S1_owner : Int32) (S1_firms : Nat → Int32) (S1_kindsTold : Nat → Int32) (S1_places : Nat → Int32) (S1_crowds : Nat → Int32) (S1_pipsLeft : Nat → Int32) (S1_notHome : Nat → Int32) (i2 : Int32) (i3 : Int32) (i4 : Int32) : CT l G yX1_begun cX1_begun 6 (some .int) q_X1_begun_0 [.ref a0, .ref a1, .int i2, .int i3, .int i4] (wAS G a0 a0_numbers S0_left S0_numbers ++ wBD G a1 a1_firms a1_kindsTold a1_places a1_crowds a1_pipsLeft a1_notHome S1_points S1_home S1_men S1_turn S1_thrower S1_cube S1_owner S1_firms S1_kindsTold S1_places S1_crowds S1_pipsLeft S1_notHome) (M_X1_begun_0 (S0_left, S0_numbers) (S1_points, S1_home, S1_men, S1_turn, S1_thrower, S1_cube, S1_owner, S1_firms, S1_kindsTold, S1_places, S1_crowds, S1_pipsLeft, S1_notHome) i2 i3 i4) (fun u => some (.int u.1)) (fun u => wAS G a0 a0_numbers u.2.1 u.2.2 ++ wBD G a1 a1_firms a1_kindsTold a1_places a1_crowds a1_pipsLeft a1_notHome S1_points S1_home S1_men S1_turn S1_thrower S1_cube S1_owner S1_firms S1_kindsTold S1_places S1_crowds S1_pipsLeft S1_notHome) := by
  refine CT.of (P := PX1_begun) (by decide) dPX1_begun (Nat.le_of_ble_eq_true rfl) ?_
  intro p e s m args below meth c A Q ls hne X RT Y hl
  have hl : lv_has ls 6 [(0, .ref a0), (1, .ref a1), (2, .int i2), (3, .int i3), (4, .int i4)] := hl
  generalize hM : M_X1_begun_0 (S0_left, S0_numbers) (S1_points, S1_home, S1_men, S1_turn, S1_thrower, S1_cube, S1_owner, S1_firms, S1_kindsTold, S1_places, S1_crowds, S1_pipsLeft, S1_notHome) i2 i3 i4 = MM at hne RT
  unfold M_X1_begun_0 at hM
  refine r_iload (pc' := 2) X hl 4 rfl 0 rfl rfl ?_
  refine r_bipush (pc' := 4) X (20 : Int32) 1 rfl rfl rfl ?_
  refine r_icmp_le (pc' := 7) X 9 2 rfl rfl (by decide) (fun c1 => ?_) (fun c1 => ?_)
  · replace hM := mI hM c1
    refine r_aload_n (pc' := 10) X hl 0 rfl rfl 5 rfl rfl ?_
    refine r_iload_n (pc' := 11) X hl 3 rfl rfl 6 rfl rfl ?_
    refine r_callV (pc' := 14) (As := [.int i3]) (rest := []) (wr := (wBD G a1 a1_firms a1_kindsTold a1_places a1_crowds a1_pipsLeft a1_notHome S1_points S1_home S1_men S1_turn S1_thrower S1_cube S1_owner S1_firms S1_kindsTold S1_places S1_crowds S1_pipsLeft S1_notHome : va_W)) X Y 7 rfl rfl mRX1_44 (c_X1_leave l G a0 a0_numbers S0_left S0_numbers i3) (mB hM hne) 0 rfl rfl [0, 1] [2, 3, 4, 5, 6, 7, 8] [7, 8, 0, 1, 2, 3, 4, 5, 6] rfl rfl ⟨rfl, rfl, rfl⟩ rfl (w2 := fun u2 => wAS G a0 a0_numbers u2.1 u2.2 ++ wBD G a1 a1_firms a1_kindsTold a1_places a1_crowds a1_pipsLeft a1_notHome S1_points S1_home S1_men S1_turn S1_thrower S1_cube S1_owner S1_firms S1_kindsTold S1_places S1_crowds S1_pipsLeft S1_notHome) (fun _ => rfl) rfl (Nat.le_of_ble_eq_true rfl) ⟨rfl, rfl⟩ ⟨Nat.le_of_ble_eq_true rfl, Nat.le_of_ble_eq_true rfl⟩ ⟨Nat.zero_le _, Nat.zero_le _⟩ hl.1 (st' := fun u2 => []) (fun _ => rfl) (fun u2 H locs huu2 Y => ?_)
    obtain ⟨u2_left, u2_numbers⟩ := u2
    replace Y : rY G A s (wAS G a0 a0_numbers u2_left u2_numbers ++ wBD G a1 a1_firms a1_kindsTold a1_places a1_crowds a1_pipsLeft a1_notHome S1_points S1_home S1_men S1_turn S1_thrower S1_cube S1_owner S1_firms S1_kindsTold S1_places S1_crowds S1_pipsLeft S1_notHome) H locs := Y
    replace hM := mS hM huu2
    show W p l e q_X1_begun_0 s m args below meth c H locs 0 0 Q (F0 m 14 ls [])
    refine r_iload (pc' := 16) X hl 4 rfl 8 rfl rfl ?_
    refine r_iconst (pc' := 17) X (1 : Int32) 9 rfl rfl rfl ?_
    refine r_iadd (pc' := 18) X 10 rfl rfl ?_
    refine r_istore (pc' := 20) (L' := [(5, .int (i4 + (1 : Int32))), (0, .ref a0), (1, .ref a1), (2, .int i2), (3, .int i3), (4, .int i4)]) X hl 11 rfl rfl (by decide) rfl (fun ls hl => ?_)
    refine r_iload_n (pc' := 21) X hl 4 rfl rfl 12 rfl rfl ?_
    by_cases h3_10 : i3 = 10
    · replace hM := mI hM h3_10
      refine r_tabIn X 96 13 rfl (10 : Int32) h3_10 (by decide) rfl (by decide) ?_
      refine r_aload_n (pc' := 97) X hl 2 rfl rfl 14 rfl rfl ?_
      refine r_iload_n (pc' := 98) X hl 3 rfl rfl 15 rfl rfl ?_
      refine r_callV0 (pc' := 101) (As := [.int i2]) (rest := []) X Y 16 rfl rfl mRX1_48 (c_X2_pipsOf l G a1 a1_firms a1_kindsTold a1_places a1_crowds a1_pipsLeft a1_notHome S1_points S1_home S1_men S1_turn S1_thrower S1_cube S1_owner S1_firms S1_kindsTold S1_places S1_crowds S1_pipsLeft S1_notHome i2) (mB hM hne) 2 rfl rfl [2, 3, 4, 5, 6, 7, 8] rfl rfl rfl (Nat.le_of_ble_eq_true rfl) ⟨rfl, rfl⟩ ⟨Nat.le_of_ble_eq_true rfl, Nat.le_of_ble_eq_true rfl⟩ ⟨Nat.zero_le _, Nat.zero_le _⟩ hl.1 (st' := fun u4 => [.int u4]) (fun _ => rfl) (fun u4 H locs huu4 Y => ?_)
      replace hM := mS hM huu4
      exact RT (u4, (u2_left, u2_numbers)) _ _ _ _ _ hM (Or.inl ⟨rfl, rfl, _, rfl⟩) (X.d (k := 17) rfl) Y
    replace hM := mE hM h3_10
    by_cases h3_11 : i3 = 11
    · replace hM := mI hM h3_11
      refine r_tabIn X 102 13 rfl (11 : Int32) h3_11 (by decide) rfl (by decide) ?_
      refine r_aload_n (pc' := 103) X hl 1 rfl rfl 18 rfl rfl ?_
      refine r_aload_n (pc' := 104) X hl 2 rfl rfl 19 rfl rfl ?_
      refine r_iload_n (pc' := 105) X hl 3 rfl rfl 20 rfl rfl ?_
      refine r_bipush (pc' := 107) X (10 : Int32) 21 rfl rfl rfl ?_
      refine r_iload (pc' := 109) X hl 0 rfl 22 rfl rfl ?_
      exact absurd hM.symm hne
    replace hM := mE hM h3_11
    by_cases h3_12 : i3 = 12
    · replace hM := mI hM h3_12
      refine r_tabIn X 123 13 rfl (12 : Int32) h3_12 (by decide) rfl (by decide) ?_
      refine r_aload_n (pc' := 124) X hl 1 rfl rfl 32 rfl rfl ?_
      refine r_aload_n (pc' := 125) X hl 2 rfl rfl 33 rfl rfl ?_
      refine r_iload_n (pc' := 126) X hl 3 rfl rfl 34 rfl rfl ?_
      refine r_bipush (pc' := 128) X (11 : Int32) 35 rfl rfl rfl ?_
      refine r_iload (pc' := 130) X hl 0 rfl 36 rfl rfl ?_
      exact absurd hM.symm hne
    replace hM := mE hM h3_12
    by_cases h3_13 : i3 = 13
    · replace hM := mI hM h3_13
      refine r_tabIn X 135 13 rfl (13 : Int32) h3_13 (by decide) rfl (by decide) ?_
      refine r_aload_n (pc' := 136) X hl 1 rfl rfl 40 rfl rfl ?_
      refine r_aload_n (pc' := 137) X hl 2 rfl rfl 41 rfl rfl ?_
      refine r_iload_n (pc' := 138) X hl 3 rfl rfl 42 rfl rfl ?_
      refine r_bipush (pc' := 140) X (10 : Int32) 43 rfl rfl rfl ?_
      refine r_iload (pc' := 142) X hl 0 rfl 44 rfl rfl ?_
      exact absurd hM.symm hne
    replace hM := mE hM h3_13
    by_cases h3_14 : i3 = 14
    · replace hM := mI hM h3_14
      refine r_tabIn X 149 13 rfl (14 : Int32) h3_14 (by decide) rfl (by decide) ?_
      refine r_iconst (pc' := 150) X (2 : Int32) 49 rfl rfl rfl ?_
      refine r_aload_n (pc' := 151) X hl 1 rfl rfl 50 rfl rfl ?_
      refine r_aload_n (pc' := 152) X hl 2 rfl rfl 51 rfl rfl ?_
      refine r_iload_n (pc' := 153) X hl 3 rfl rfl 52 rfl rfl ?_
      refine r_bipush (pc' := 155) X (13 : Int32) 53 rfl rfl rfl ?_
      refine r_iload (pc' := 157) X hl 0 rfl 54 rfl rfl ?_
      exact absurd hM.symm hne
    replace hM := mE hM h3_14
    by_cases h3_15 : i3 = 15
    · replace hM := mI hM h3_15
      refine r_tabIn X 229 13 rfl (15 : Int32) h3_15 (by decide) rfl (by decide) ?_
      refine r_iconst (pc' := 230) X (0 : Int32) 102 rfl rfl rfl ?_
      exact RT ((0 : Int32), (u2_left, u2_numbers)) _ _ _ _ _ hM (Or.inl ⟨rfl, rfl, _, rfl⟩) (X.d (k := 103) rfl) Y
    replace hM := mE hM h3_15
    by_cases h3_16 : i3 = 16
    · replace hM := mI hM h3_16
      refine r_tabIn X 229 13 rfl (16 : Int32) h3_16 (by decide) rfl (by decide) ?_
      refine r_iconst (pc' := 230) X (0 : Int32) 102 rfl rfl rfl ?_
      exact RT ((0 : Int32), (u2_left, u2_numbers)) _ _ _ _ _ hM (Or.inl ⟨rfl, rfl, _, rfl⟩) (X.d (k := 103) rfl) Y
    replace hM := mE hM h3_16
    by_cases h3_17 : i3 = 17
    · replace hM := mI hM h3_17
      refine r_tabIn X 229 13 rfl (17 : Int32) h3_17 (by decide) rfl (by decide) ?_
      refine r_iconst (pc' := 230) X (0 : Int32) 102 rfl rfl rfl ?_
      exact RT ((0 : Int32), (u2_left, u2_numbers)) _ _ _ _ _ hM (Or.inl ⟨rfl, rfl, _, rfl⟩) (X.d (k := 103) rfl) Y
    replace hM := mE hM h3_17
    by_cases h3_18 : i3 = 18
    · replace hM := mI hM h3_18
      refine r_tabIn X 229 13 rfl (18 : Int32) h3_18 (by decide) rfl (by decide) ?_
      refine r_iconst (pc' := 230) X (0 : Int32) 102 rfl rfl rfl ?_
      exact RT ((0 : Int32), (u2_left, u2_numbers)) _ _ _ _ _ hM (Or.inl ⟨rfl, rfl, _, rfl⟩) (X.d (k := 103) rfl) Y
    replace hM := mE hM h3_18
    by_cases h3_19 : i3 = 19
    · replace hM := mI hM h3_19
      refine r_tabIn X 229 13 rfl (19 : Int32) h3_19 (by decide) rfl (by decide) ?_
      refine r_iconst (pc' := 230) X (0 : Int32) 102 rfl rfl rfl ?_
      exact RT ((0 : Int32), (u2_left, u2_numbers)) _ _ _ _ _ hM (Or.inl ⟨rfl, rfl, _, rfl⟩) (X.d (k := 103) rfl) Y
    replace hM := mE hM h3_19
    by_cases h3_20 : i3 = 20
    · replace hM := mI hM h3_20
      refine r_tabIn X 162 13 rfl (20 : Int32) h3_20 (by decide) rfl (by decide) ?_
      refine r_iload_n (pc' := 163) X hl 3 rfl rfl 58 rfl rfl ?_
      exact RT (i2, (u2_left, u2_numbers)) _ _ _ _ _ hM (Or.inl ⟨rfl, rfl, _, rfl⟩) (X.d (k := 59) rfl) Y
    replace hM := mE hM h3_20
    by_cases h3_21 : i3 = 21
    · replace hM := mI hM h3_21
      refine r_tabIn X 164 13 rfl (21 : Int32) h3_21 (by decide) rfl (by decide) ?_
      refine r_aload_n (pc' := 165) X hl 1 rfl rfl 60 rfl rfl ?_
      refine r_aload_n (pc' := 166) X hl 2 rfl rfl 61 rfl rfl ?_
      refine r_iload_n (pc' := 167) X hl 3 rfl rfl 62 rfl rfl ?_
      refine r_bipush (pc' := 169) X (20 : Int32) 63 rfl rfl rfl ?_
      refine r_iload (pc' := 171) X hl 0 rfl 64 rfl rfl ?_
      exact absurd hM.symm hne
    replace hM := mE hM h3_21
    by_cases h3_22 : i3 = 22
    · replace hM := mI hM h3_22
      refine r_tabIn X 180 13 rfl (22 : Int32) h3_22 (by decide) rfl (by decide) ?_
      refine r_aload_n (pc' := 181) X hl 1 rfl rfl 70 rfl rfl ?_
      refine r_aload_n (pc' := 182) X hl 2 rfl rfl 71 rfl rfl ?_
      refine r_iload_n (pc' := 183) X hl 3 rfl rfl 72 rfl rfl ?_
      refine r_bipush (pc' := 185) X (21 : Int32) 73 rfl rfl rfl ?_
      refine r_iload (pc' := 187) X hl 0 rfl 74 rfl rfl ?_
      exact absurd hM.symm hne
    replace hM := mE hM h3_22
    by_cases h3_23 : i3 = 23
    · replace hM := mI hM h3_23
      refine r_tabIn X 195 13 rfl (23 : Int32) h3_23 (by decide) rfl (by decide) ?_
      refine r_aload_n (pc' := 196) X hl 1 rfl rfl 79 rfl rfl ?_
      refine r_aload_n (pc' := 197) X hl 2 rfl rfl 80 rfl rfl ?_
      refine r_iload_n (pc' := 198) X hl 3 rfl rfl 81 rfl rfl ?_
      refine r_bipush (pc' := 200) X (20 : Int32) 82 rfl rfl rfl ?_
      refine r_iload (pc' := 202) X hl 0 rfl 83 rfl rfl ?_
      exact absurd hM.symm hne
    replace hM := mE hM h3_23
    by_cases h3_24 : i3 = 24
    · replace hM := mI hM h3_24
      refine r_tabIn X 216 13 rfl (24 : Int32) h3_24 (by decide) rfl (by decide) ?_
      refine r_iconst (pc' := 217) X (2 : Int32) 93 rfl rfl rfl ?_
      refine r_aload_n (pc' := 218) X hl 1 rfl rfl 94 rfl rfl ?_
      refine r_aload_n (pc' := 219) X hl 2 rfl rfl 95 rfl rfl ?_
      refine r_iload_n (pc' := 220) X hl 3 rfl rfl 96 rfl rfl ?_
      refine r_bipush (pc' := 222) X (21 : Int32) 97 rfl rfl rfl ?_
      refine r_iload (pc' := 224) X hl 0 rfl 98 rfl rfl ?_
      exact absurd hM.symm hne
    replace hM := mE hM h3_24
    refine r_tabOut X 229 13 rfl ((tsw (x := i3) 10 15 (fun k hk => match k, hk with | 0, _ => h3_10 | 1, _ => h3_11 | 2, _ => h3_12 | 3, _ => h3_13 | 4, _ => h3_14 | 5, _ => h3_15 | 6, _ => h3_16 | 7, _ => h3_17 | 8, _ => h3_18 | 9, _ => h3_19 | 10, _ => h3_20 | 11, _ => h3_21 | 12, _ => h3_22 | 13, _ => h3_23 | 14, _ => h3_24) (by decide)).imp id (fun z => Int.lt_of_lt_of_le (by decide) z)) (by decide) ?_
    refine r_iconst (pc' := 230) X (0 : Int32) 102 rfl rfl rfl ?_
    exact RT ((0 : Int32), (u2_left, u2_numbers)) _ _ _ _ _ hM (Or.inl ⟨rfl, rfl, _, rfl⟩) (X.d (k := 103) rfl) Y
  · replace hM := mE hM c1
    refine r_iconst (pc' := 8) X (0 : Int32) 3 rfl rfl rfl ?_
    exact RT ((0 : Int32), (S0_left, S0_numbers)) _ _ _ _ _ hM (Or.inl ⟨rfl, rfl, _, rfl⟩) (X.d (k := 4) rfl) Y

def M_X1_anew_0 (S0 : BD) (S1 : AS) (i2 : Int32) (i3 : Int32) (i4 : Int32) : Option (Int32 × AS) :=
  (if inb i2 8 = true then ((M_X1_bodyTold i3 (((bd_kindsTold S0) (i2).toNatClampNeg))).bind (fun u2 => ((lp (σ := Int32 × Int32 × Int32) (β := Int32) (fun rec3 st3 => (if (6 : Int32) ≤ st3.2.2 then (some st3.2.1) else (if st3.2.1 = 0 then (if inb st3.1 6 = true then ((M_X1_bodyTold i3 ((kx0 (st3.1).toNatClampNeg))).bind (fun u8 => (rec3 ((kx0 (st3.1).toNatClampNeg), u8, (st3.2.2 + (1 : Int32)))))) else none) else (some st3.2.1)))) 1000000 (((bd_kindsTold S0) (i2).toNatClampNeg), u2, (0 : Int32))).bind (fun b3 => ((M_X1_begun_0 S1 S0 i2 b3 i4).bind (fun u4 => (some (u4.1, u4.2)))))))) else none)
def q_X1_anew_0 : Room := { frames := 3, cells := 0, slots := 0, locals := 107 }
set_option maxHeartbeats 4000000 in
set_option maxRecDepth 100000 in
theorem c_X1_anew_0 (l : Launch) (G : gT) (a0 a1 a1_firms a1_kindsTold a1_places a1_crowds a1_pipsLeft a1_notHome a0_numbers : Nat) (S0_points : Int32) (S0_home : Int32) (S0_men : Int32) (S0_turn : Int32) (S0_thrower : Int32) (S0_cube : Int32) (S0_owner : Int32) (S0_firms : Nat → Int32) (S0_kindsTold : Nat → Int32) (S0_places : Nat → Int32) (S0_crowds : Nat → Int32) (S0_pipsLeft : Nat → Int32) (S0_notHome : Nat → Int32) (S1_left : Int32) (S1_numbers : Nat → Int32) (i2 : Int32) (i3 : Int32) (i4 : Int32) : CT l G yX1_anew cX1_anew 8 (some .int) q_X1_anew_0 [.ref a0, .ref a1, .int i2, .int i3, .int i4] (wBD G a1 a1_firms a1_kindsTold a1_places a1_crowds a1_pipsLeft a1_notHome S0_points S0_home S0_men S0_turn S0_thrower S0_cube S0_owner S0_firms S0_kindsTold S0_places S0_crowds S0_pipsLeft S0_notHome ++ wAS G a0 a0_numbers S1_left S1_numbers) (M_X1_anew_0 (S0_points, S0_home, S0_men, S0_turn, S0_thrower, S0_cube, S0_owner, S0_firms, S0_kindsTold, S0_places, S0_crowds, S0_pipsLeft, S0_notHome) (S1_left, S1_numbers) i2 i3 i4) (fun u => some (.int u.1)) (fun u => wBD G a1 a1_firms a1_kindsTold a1_places a1_crowds a1_pipsLeft a1_notHome S0_points S0_home S0_men S0_turn S0_thrower S0_cube S0_owner S0_firms S0_kindsTold S0_places S0_crowds S0_pipsLeft S0_notHome ++ wAS G a0 a0_numbers u.2.1 u.2.2) := by
  refine CT.of (P := PX1_anew) (by decide) dPX1_anew (Nat.le_of_ble_eq_true rfl) ?_
  intro p e s m args below meth c A Q ls hne X RT Y hl
  have hl : lv_has ls 8 [(0, .ref a0), (1, .ref a1), (2, .int i2), (3, .int i3), (4, .int i4)] := hl
  generalize hM : M_X1_anew_0 (S0_points, S0_home, S0_men, S0_turn, S0_thrower, S0_cube, S0_owner, S0_firms, S0_kindsTold, S0_places, S0_crowds, S0_pipsLeft, S0_notHome) (S1_left, S1_numbers) i2 i3 i4 = MM at hne RT
  unfold M_X1_anew_0 at hM
  refine r_aload_n (pc' := 1) X hl 1 rfl rfl 0 rfl rfl ?_
  refine r_getN (pc' := 4) (v := .ref a1_kindsTold) X Y 1 rfl rfl fRX1_23 0 rfl rfl ?_
  refine r_iload_n (pc' := 5) X hl 2 rfl rfl 2 rfl rfl ?_
  obtain ⟨g1, hM⟩ := mG hM hne
  refine r_iald (pc' := 6) X Y 3 rfl rfl 2 rfl (vin g1) ?_
  refine r_istore (pc' := 8) (L' := [(5, .int (S0_kindsTold (i2).toNatClampNeg)), (0, .ref a0), (1, .ref a1), (2, .int i2), (3, .int i3), (4, .int i4)]) X hl 4 rfl rfl (by decide) rfl (fun ls hl => ?_)
  refine r_iload_n (pc' := 9) X hl 4 rfl rfl 5 rfl rfl ?_
  refine r_iload (pc' := 11) X hl 0 rfl 6 rfl rfl ?_
  refine r_callS0 (pc' := 14) (As := [.int i3, .int (S0_kindsTold (i2).toNatClampNeg)]) (rest := []) X Y 7 rfl rfl mRX1_28 (c_X1_bodyTold l G i3 ((S0_kindsTold (i2).toNatClampNeg))) (mB hM hne) rfl [] rfl rfl rfl (Nat.le_of_ble_eq_true rfl) ⟨rfl, rfl⟩ ⟨Nat.le_of_ble_eq_true rfl, Nat.le_of_ble_eq_true rfl⟩ ⟨Nat.zero_le _, Nat.zero_le _⟩ hl.1 (st' := fun u2 => [.int u2]) (fun _ => rfl) (fun u2 H locs huu2 Y => ?_)
  replace hM := mS hM huu2
  refine r_istore (pc' := 16) (L' := [(6, .int u2), (5, .int (S0_kindsTold (i2).toNatClampNeg)), (0, .ref a0), (1, .ref a1), (2, .int i2), (3, .int i3), (4, .int i4)]) X hl 8 rfl rfl (by decide) rfl (fun ls hl => ?_)
  refine r_iconst (pc' := 17) X (0 : Int32) 9 rfl rfl rfl ?_
  refine r_istore (pc' := 19) (L' := [(7, .int (0 : Int32)), (6, .int u2), (5, .int (S0_kindsTold (i2).toNatClampNeg)), (0, .ref a0), (1, .ref a1), (2, .int i2), (3, .int i3), (4, .int i4)]) X hl 10 rfl rfl (by decide) rfl (fun ls hl => ?_)
  obtain ⟨LL3, hL3, hne3, hX3⟩ := mL hM hne
  have KX3 : ∀ (b3 : Int32) (H : Heap) (locs : List Loc) (ls : Array Slot), some b3 = LL3 → rY G A s (wBD G a1 a1_firms a1_kindsTold a1_places a1_crowds a1_pipsLeft a1_notHome S0_points S0_home S0_men S0_turn S0_thrower S0_cube S0_owner S0_firms S0_kindsTold S0_places S0_crowds S0_pipsLeft S0_notHome ++ wAS G a0 a0_numbers S1_left S1_numbers) H locs → lv_has ls 8 [(0, .ref a0), (1, .ref a1), (2, .int i2), (4, .int i4), (6, .int b3)] → W p l e q_X1_anew_0 s m args below meth c H locs 0 0 Q (F0 m 53 ls []) := by
    intro b3 H locs ls hM Y hl
    replace hM := hX3 _ hM
    refine r_aload_n (pc' := 54) X hl 0 rfl rfl 26 rfl rfl ?_
    refine r_aload_n (pc' := 55) X hl 1 rfl rfl 27 rfl rfl ?_
    refine r_iload_n (pc' := 56) X hl 2 rfl rfl 28 rfl rfl ?_
    refine r_iload (pc' := 58) X hl 4 rfl 29 rfl rfl ?_
    refine r_iload (pc' := 60) X hl 3 rfl 30 rfl rfl ?_
    refine r_callS (pc' := 63) (As := [.ref a0, .ref a1, .int i2, .int b3, .int i4]) (rest := []) (wr := ([] : va_W)) X Y 31 rfl rfl mRX1_35 (c_X1_begun_0 l G a0 a1 a0_numbers a1_firms a1_kindsTold a1_places a1_crowds a1_pipsLeft a1_notHome S1_left S1_numbers S0_points S0_home S0_men S0_turn S0_thrower S0_cube S0_owner S0_firms S0_kindsTold S0_places S0_crowds S0_pipsLeft S0_notHome i2 b3 i4) (mB hM hne) rfl [7, 8, 0, 1, 2, 3, 4, 5, 6] [] [2, 3, 4, 5, 6, 7, 8, 0, 1] rfl rfl ⟨rfl, rfl, rfl⟩ rfl (w2 := fun u4 => wBD G a1 a1_firms a1_kindsTold a1_places a1_crowds a1_pipsLeft a1_notHome S0_points S0_home S0_men S0_turn S0_thrower S0_cube S0_owner S0_firms S0_kindsTold S0_places S0_crowds S0_pipsLeft S0_notHome ++ wAS G a0 a0_numbers u4.2.1 u4.2.2) (fun _ => rfl) rfl (Nat.le_of_ble_eq_true rfl) ⟨rfl, rfl⟩ ⟨Nat.le_of_ble_eq_true rfl, Nat.le_of_ble_eq_true rfl⟩ ⟨Nat.zero_le _, Nat.zero_le _⟩ hl.1 (st' := fun u4 => [.int u4.1]) (fun _ => rfl) (fun u4 H locs huu4 Y => ?_)
    obtain ⟨u4_1, ⟨u4_2_left, u4_2_numbers⟩⟩ := u4
    replace Y : rY G A s (wBD G a1 a1_firms a1_kindsTold a1_places a1_crowds a1_pipsLeft a1_notHome S0_points S0_home S0_men S0_turn S0_thrower S0_cube S0_owner S0_firms S0_kindsTold S0_places S0_crowds S0_pipsLeft S0_notHome ++ wAS G a0 a0_numbers u4_2_left u4_2_numbers) H locs := Y
    replace hM := mS hM huu4
    show W p l e q_X1_anew_0 s m args below meth c H locs 0 0 Q (F0 m 63 ls [.int u4_1])
    exact RT (u4_1, (u4_2_left, u4_2_numbers)) _ _ _ _ _ hM (Or.inl ⟨rfl, rfl, _, rfl⟩) (X.d (k := 32) rfl) Y
  refine lp_rule (I := fun (st3 : Int32 × Int32 × Int32) => ∀ (H : Heap) (locs : List Loc) (ls : Array Slot), rY G A s (wBD G a1 a1_firms a1_kindsTold a1_places a1_crowds a1_pipsLeft a1_notHome S0_points S0_home S0_men S0_turn S0_thrower S0_cube S0_owner S0_firms S0_kindsTold S0_places S0_crowds S0_pipsLeft S0_notHome ++ wAS G a0 a0_numbers S1_left S1_numbers) H locs → lv_has ls 8 [(0, .ref a0), (1, .ref a1), (2, .int i2), (3, .int i3), (4, .int i4), (5, .int st3.1), (6, .int st3.2.1), (7, .int st3.2.2)] → W p l e q_X1_anew_0 s m args below meth c H locs 0 0 Q (F0 m 19 ls [])) hne3 (fun rec3 st3 IH3 hM => ?_) _ _ hL3 _ _ _ Y (lv_sub hl [3, 4, 5, 6, 7, 2, 1, 0] rfl)
  intro H locs ls Y hl
  obtain ⟨st3_1, st3_2_1, st3_2_2⟩ := st3
  replace Y : rY G A s (wBD G a1 a1_firms a1_kindsTold a1_places a1_crowds a1_pipsLeft a1_notHome S0_points S0_home S0_men S0_turn S0_thrower S0_cube S0_owner S0_firms S0_kindsTold S0_places S0_crowds S0_pipsLeft S0_notHome ++ wAS G a0 a0_numbers S1_left S1_numbers) H locs := Y
  replace hl : lv_has ls 8 [(0, .ref a0), (1, .ref a1), (2, .int i2), (3, .int i3), (4, .int i4), (5, .int st3_1), (6, .int st3_2_1), (7, .int st3_2_2)] := hl
  refine r_iload (pc' := 21) X hl 7 rfl 11 rfl rfl ?_
  refine r_bipush (pc' := 23) X (6 : Int32) 12 rfl rfl rfl ?_
  refine r_icmp_ge (pc' := 26) X 53 13 rfl rfl (by decide) (fun c5 => ?_) (fun c5 => ?_)
  · replace hM := mI hM c5
    exact KX3 st3_2_1 _ _ _ hM Y (lv_sub hl [0, 1, 2, 4, 6] rfl)
  · replace hM := mE hM c5
    refine r_iload (pc' := 28) X hl 6 rfl 14 rfl rfl ?_
    refine r_if_ne (pc' := 31) X 53 15 rfl rfl (by decide) (fun c6 => ?_) (fun c6 => ?_)
    · replace hM := mE hM c6
      exact KX3 st3_2_1 _ _ _ hM Y (lv_sub hl [0, 1, 2, 4, 6] rfl)
    · replace hM := mI hM c6
      refine r_getsN_kab (pc' := 34) X Y 16 rfl rfl nw45 ?_
      refine r_iload (pc' := 36) X hl 5 rfl 17 rfl rfl ?_
      obtain ⟨g7, hM⟩ := mG hM hne3
      refine r_sld_kab (pc' := 37) X Y 18 rfl rfl (vin g7) ?_
      refine r_istore (pc' := 39) (L' := [(5, .int (kx0 (st3_1).toNatClampNeg)), (0, .ref a0), (1, .ref a1), (2, .int i2), (3, .int i3), (4, .int i4), (6, .int st3_2_1), (7, .int st3_2_2)]) X hl 19 rfl rfl (by decide) rfl (fun ls hl => ?_)
      refine r_iload_n (pc' := 40) X hl 4 rfl rfl 20 rfl rfl ?_
      refine r_iload (pc' := 42) X hl 0 rfl 21 rfl rfl ?_
      refine r_callS0 (pc' := 45) (As := [.int i3, .int (kx0 (st3_1).toNatClampNeg)]) (rest := []) X Y 22 rfl rfl mRX1_28 (c_X1_bodyTold l G i3 ((kx0 (st3_1).toNatClampNeg))) (mB hM hne3) rfl [] rfl rfl rfl (Nat.le_of_ble_eq_true rfl) ⟨rfl, rfl⟩ ⟨Nat.le_of_ble_eq_true rfl, Nat.le_of_ble_eq_true rfl⟩ ⟨Nat.zero_le _, Nat.zero_le _⟩ hl.1 (st' := fun u8 => [.int u8]) (fun _ => rfl) (fun u8 H locs huu8 Y => ?_)
      replace hM := mS hM huu8
      refine r_istore (pc' := 47) (L' := [(6, .int u8), (5, .int (kx0 (st3_1).toNatClampNeg)), (0, .ref a0), (1, .ref a1), (2, .int i2), (3, .int i3), (4, .int i4), (7, .int st3_2_2)]) X hl 23 rfl rfl (by decide) rfl (fun ls hl => ?_)
      refine r_iinc (pc' := 50) (L' := [(7, .int (st3_2_2 + (1 : Int32))), (6, .int u8), (5, .int (kx0 (st3_1).toNatClampNeg)), (0, .ref a0), (1, .ref a1), (2, .int i2), (3, .int i3), (4, .int i4)]) X (st3_2_2 + (1 : Int32)) hl 7 rfl rfl 24 rfl rfl (by decide) rfl (fun ls hl => ?_)
      refine r_goto X 19 25 rfl (by decide) ?_
      exact IH3 _ hM _ _ _ Y (lv_sub hl [3, 4, 5, 6, 7, 2, 1, 0] rfl)

def M_X1_begun_1 (S0 : AS) (S1 : BD) (i2 : Int32) (i3 : Int32) (i4 : Int32) : Option (Int32 × AS) :=
  (if i4 ≤ (20 : Int32) then ((M_X1_leave S0 i3).bind (fun u2 => (if i3 = 10 then ((M_X2_pipsOf S1 i2).bind (fun u4 => (some (u4, u2)))) else (if i3 = 11 then ((M_X1_begun_0 u2 S1 i2 (10 : Int32) ((i4 + (1 : Int32)))).bind (fun u5 => ((M_X1_anew_0 S1 u5.2 i2 (1 : Int32) ((i4 + (1 : Int32)))).bind (fun u6 => (some ((u5.1 + u6.1), u6.2)))))) else (if i3 = 12 then ((M_X1_begun_0 u2 S1 i2 (11 : Int32) ((i4 + (1 : Int32)))).bind (fun u7 => (some ((-u7.1), u7.2)))) else (if i3 = 13 then ((M_X1_begun_0 u2 S1 i2 (10 : Int32) ((i4 + (1 : Int32)))).bind (fun u8 => (some ((u8.1 - (100 : Int32)), u8.2)))) else (if i3 = 14 then ((M_X1_begun_0 u2 S1 i2 (13 : Int32) ((i4 + (1 : Int32)))).bind (fun u9 => (some (((2 : Int32) * u9.1), u9.2)))) else (if i3 = 15 then (some ((0 : Int32), u2)) else (if i3 = 16 then (some ((0 : Int32), u2)) else (if i3 = 17 then (some ((0 : Int32), u2)) else (if i3 = 18 then (some ((0 : Int32), u2)) else (if i3 = 19 then (some ((0 : Int32), u2)) else (if i3 = 20 then (some (i2, u2)) else (if i3 = 21 then ((M_X1_begun_0 u2 S1 i2 (20 : Int32) ((i4 + (1 : Int32)))).bind (fun u10 => (some ((u10.1 + (bd_cube S1)), u10.2)))) else (if i3 = 22 then ((M_X1_begun_0 u2 S1 i2 (21 : Int32) ((i4 + (1 : Int32)))).bind (fun u11 => (some ((u11.1 - (1000 : Int32)), u11.2)))) else (if i3 = 23 then ((M_X1_begun_0 u2 S1 i2 (20 : Int32) ((i4 + (1 : Int32)))).bind (fun u12 => ((M_X1_anew_0 S1 u12.2 i2 (0 : Int32) ((i4 + (1 : Int32)))).bind (fun u13 => (some ((u12.1 - u13.1), u13.2)))))) else (if i3 = 24 then ((M_X1_begun_0 u2 S1 i2 (21 : Int32) ((i4 + (1 : Int32)))).bind (fun u14 => (some (((2 : Int32) * u14.1), u14.2)))) else (some ((0 : Int32), u2))))))))))))))))))) else (some ((0 : Int32), S0)))
def q_X1_begun_1 : Room := { frames := 4, cells := 0, slots := 0, locals := 134 }
set_option maxHeartbeats 4000000 in
set_option maxRecDepth 100000 in
theorem c_X1_begun_1 (l : Launch) (G : gT) (a0 a1 a0_numbers a1_firms a1_kindsTold a1_places a1_crowds a1_pipsLeft a1_notHome : Nat) (S0_left : Int32) (S0_numbers : Nat → Int32) (S1_points : Int32) (S1_home : Int32) (S1_men : Int32) (S1_turn : Int32) (S1_thrower : Int32) (S1_cube : Int32) (S1_owner : Int32) (S1_firms : Nat → Int32) (S1_kindsTold : Nat → Int32) (S1_places : Nat → Int32) (S1_crowds : Nat → Int32) (S1_pipsLeft : Nat → Int32) (S1_notHome : Nat → Int32) (i2 : Int32) (i3 : Int32) (i4 : Int32) : CT l G yX1_begun cX1_begun 6 (some .int) q_X1_begun_1 [.ref a0, .ref a1, .int i2, .int i3, .int i4] (wAS G a0 a0_numbers S0_left S0_numbers ++ wBD G a1 a1_firms a1_kindsTold a1_places a1_crowds a1_pipsLeft a1_notHome S1_points S1_home S1_men S1_turn S1_thrower S1_cube S1_owner S1_firms S1_kindsTold S1_places S1_crowds S1_pipsLeft S1_notHome) (M_X1_begun_1 (S0_left, S0_numbers) (S1_points, S1_home, S1_men, S1_turn, S1_thrower, S1_cube, S1_owner, S1_firms, S1_kindsTold, S1_places, S1_crowds, S1_pipsLeft, S1_notHome) i2 i3 i4) (fun u => some (.int u.1)) (fun u => wAS G a0 a0_numbers u.2.1 u.2.2 ++ wBD G a1 a1_firms a1_kindsTold a1_places a1_crowds a1_pipsLeft a1_notHome S1_points S1_home S1_men S1_turn S1_thrower S1_cube S1_owner S1_firms S1_kindsTold S1_places S1_crowds S1_pipsLeft S1_notHome) := by
  refine CT.of (P := PX1_begun) (by decide) dPX1_begun (Nat.le_of_ble_eq_true rfl) ?_
  intro p e s m args below meth c A Q ls hne X RT Y hl
  have hl : lv_has ls 6 [(0, .ref a0), (1, .ref a1), (2, .int i2), (3, .int i3), (4, .int i4)] := hl
  generalize hM : M_X1_begun_1 (S0_left, S0_numbers) (S1_points, S1_home, S1_men, S1_turn, S1_thrower, S1_cube, S1_owner, S1_firms, S1_kindsTold, S1_places, S1_crowds, S1_pipsLeft, S1_notHome) i2 i3 i4 = MM at hne RT
  unfold M_X1_begun_1 at hM
  refine r_iload (pc' := 2) X hl 4 rfl 0 rfl rfl ?_
  refine r_bipush (pc' := 4) X (20 : Int32) 1 rfl rfl rfl ?_
  refine r_icmp_le (pc' := 7) X 9 2 rfl rfl (by decide) (fun c1 => ?_) (fun c1 => ?_)
  · replace hM := mI hM c1
    refine r_aload_n (pc' := 10) X hl 0 rfl rfl 5 rfl rfl ?_
    refine r_iload_n (pc' := 11) X hl 3 rfl rfl 6 rfl rfl ?_
    refine r_callV (pc' := 14) (As := [.int i3]) (rest := []) (wr := (wBD G a1 a1_firms a1_kindsTold a1_places a1_crowds a1_pipsLeft a1_notHome S1_points S1_home S1_men S1_turn S1_thrower S1_cube S1_owner S1_firms S1_kindsTold S1_places S1_crowds S1_pipsLeft S1_notHome : va_W)) X Y 7 rfl rfl mRX1_44 (c_X1_leave l G a0 a0_numbers S0_left S0_numbers i3) (mB hM hne) 0 rfl rfl [0, 1] [2, 3, 4, 5, 6, 7, 8] [7, 8, 0, 1, 2, 3, 4, 5, 6] rfl rfl ⟨rfl, rfl, rfl⟩ rfl (w2 := fun u2 => wAS G a0 a0_numbers u2.1 u2.2 ++ wBD G a1 a1_firms a1_kindsTold a1_places a1_crowds a1_pipsLeft a1_notHome S1_points S1_home S1_men S1_turn S1_thrower S1_cube S1_owner S1_firms S1_kindsTold S1_places S1_crowds S1_pipsLeft S1_notHome) (fun _ => rfl) rfl (Nat.le_of_ble_eq_true rfl) ⟨rfl, rfl⟩ ⟨Nat.le_of_ble_eq_true rfl, Nat.le_of_ble_eq_true rfl⟩ ⟨Nat.zero_le _, Nat.zero_le _⟩ hl.1 (st' := fun u2 => []) (fun _ => rfl) (fun u2 H locs huu2 Y => ?_)
    obtain ⟨u2_left, u2_numbers⟩ := u2
    replace Y : rY G A s (wAS G a0 a0_numbers u2_left u2_numbers ++ wBD G a1 a1_firms a1_kindsTold a1_places a1_crowds a1_pipsLeft a1_notHome S1_points S1_home S1_men S1_turn S1_thrower S1_cube S1_owner S1_firms S1_kindsTold S1_places S1_crowds S1_pipsLeft S1_notHome) H locs := Y
    replace hM := mS hM huu2
    show W p l e q_X1_begun_1 s m args below meth c H locs 0 0 Q (F0 m 14 ls [])
    refine r_iload (pc' := 16) X hl 4 rfl 8 rfl rfl ?_
    refine r_iconst (pc' := 17) X (1 : Int32) 9 rfl rfl rfl ?_
    refine r_iadd (pc' := 18) X 10 rfl rfl ?_
    refine r_istore (pc' := 20) (L' := [(5, .int (i4 + (1 : Int32))), (0, .ref a0), (1, .ref a1), (2, .int i2), (3, .int i3), (4, .int i4)]) X hl 11 rfl rfl (by decide) rfl (fun ls hl => ?_)
    refine r_iload_n (pc' := 21) X hl 4 rfl rfl 12 rfl rfl ?_
    by_cases h3_10 : i3 = 10
    · replace hM := mI hM h3_10
      refine r_tabIn X 96 13 rfl (10 : Int32) h3_10 (by decide) rfl (by decide) ?_
      refine r_aload_n (pc' := 97) X hl 2 rfl rfl 14 rfl rfl ?_
      refine r_iload_n (pc' := 98) X hl 3 rfl rfl 15 rfl rfl ?_
      refine r_callV0 (pc' := 101) (As := [.int i2]) (rest := []) X Y 16 rfl rfl mRX1_48 (c_X2_pipsOf l G a1 a1_firms a1_kindsTold a1_places a1_crowds a1_pipsLeft a1_notHome S1_points S1_home S1_men S1_turn S1_thrower S1_cube S1_owner S1_firms S1_kindsTold S1_places S1_crowds S1_pipsLeft S1_notHome i2) (mB hM hne) 2 rfl rfl [2, 3, 4, 5, 6, 7, 8] rfl rfl rfl (Nat.le_of_ble_eq_true rfl) ⟨rfl, rfl⟩ ⟨Nat.le_of_ble_eq_true rfl, Nat.le_of_ble_eq_true rfl⟩ ⟨Nat.zero_le _, Nat.zero_le _⟩ hl.1 (st' := fun u4 => [.int u4]) (fun _ => rfl) (fun u4 H locs huu4 Y => ?_)
      replace hM := mS hM huu4
      exact RT (u4, (u2_left, u2_numbers)) _ _ _ _ _ hM (Or.inl ⟨rfl, rfl, _, rfl⟩) (X.d (k := 17) rfl) Y
    replace hM := mE hM h3_10
    by_cases h3_11 : i3 = 11
    · replace hM := mI hM h3_11
      refine r_tabIn X 102 13 rfl (11 : Int32) h3_11 (by decide) rfl (by decide) ?_
      refine r_aload_n (pc' := 103) X hl 1 rfl rfl 18 rfl rfl ?_
      refine r_aload_n (pc' := 104) X hl 2 rfl rfl 19 rfl rfl ?_
      refine r_iload_n (pc' := 105) X hl 3 rfl rfl 20 rfl rfl ?_
      refine r_bipush (pc' := 107) X (10 : Int32) 21 rfl rfl rfl ?_
      refine r_iload (pc' := 109) X hl 0 rfl 22 rfl rfl ?_
      refine r_callS (pc' := 112) (As := [.ref a0, .ref a1, .int i2, .int (10 : Int32), .int (i4 + (1 : Int32))]) (rest := []) (wr := ([] : va_W)) X Y 23 rfl rfl mRX1_35 (c_X1_begun_0 l G a0 a1 a0_numbers a1_firms a1_kindsTold a1_places a1_crowds a1_pipsLeft a1_notHome u2_left u2_numbers S1_points S1_home S1_men S1_turn S1_thrower S1_cube S1_owner S1_firms S1_kindsTold S1_places S1_crowds S1_pipsLeft S1_notHome i2 (10 : Int32) ((i4 + (1 : Int32)))) (mB hM hne) rfl [0, 1, 2, 3, 4, 5, 6, 7, 8] [] [0, 1, 2, 3, 4, 5, 6, 7, 8] rfl rfl ⟨rfl, rfl, rfl⟩ rfl (w2 := fun u5 => wAS G a0 a0_numbers u5.2.1 u5.2.2 ++ wBD G a1 a1_firms a1_kindsTold a1_places a1_crowds a1_pipsLeft a1_notHome S1_points S1_home S1_men S1_turn S1_thrower S1_cube S1_owner S1_firms S1_kindsTold S1_places S1_crowds S1_pipsLeft S1_notHome) (fun _ => rfl) rfl (Nat.le_of_ble_eq_true rfl) ⟨rfl, rfl⟩ ⟨Nat.le_of_ble_eq_true rfl, Nat.le_of_ble_eq_true rfl⟩ ⟨Nat.zero_le _, Nat.zero_le _⟩ hl.1 (st' := fun u5 => [.int u5.1]) (fun _ => rfl) (fun u5 H locs huu5 Y => ?_)
      obtain ⟨u5_1, ⟨u5_2_left, u5_2_numbers⟩⟩ := u5
      replace Y : rY G A s (wAS G a0 a0_numbers u5_2_left u5_2_numbers ++ wBD G a1 a1_firms a1_kindsTold a1_places a1_crowds a1_pipsLeft a1_notHome S1_points S1_home S1_men S1_turn S1_thrower S1_cube S1_owner S1_firms S1_kindsTold S1_places S1_crowds S1_pipsLeft S1_notHome) H locs := Y
      replace hM := mS hM huu5
      show W p l e q_X1_begun_1 s m args below meth c H locs 0 0 Q (F0 m 112 ls [.int u5_1])
      refine r_aload_n (pc' := 113) X hl 1 rfl rfl 24 rfl rfl ?_
      refine r_aload_n (pc' := 114) X hl 2 rfl rfl 25 rfl rfl ?_
      refine r_iload_n (pc' := 115) X hl 3 rfl rfl 26 rfl rfl ?_
      refine r_iconst (pc' := 116) X (1 : Int32) 27 rfl rfl rfl ?_
      refine r_iload (pc' := 118) X hl 0 rfl 28 rfl rfl ?_
      refine r_callS (pc' := 121) (As := [.ref a0, .ref a1, .int i2, .int (1 : Int32), .int (i4 + (1 : Int32))]) (rest := [.int u5_1]) (wr := ([] : va_W)) X Y 29 rfl rfl mRX1_19 (c_X1_anew_0 l G a0 a1 a1_firms a1_kindsTold a1_places a1_crowds a1_pipsLeft a1_notHome a0_numbers S1_points S1_home S1_men S1_turn S1_thrower S1_cube S1_owner S1_firms S1_kindsTold S1_places S1_crowds S1_pipsLeft S1_notHome u5_2_left u5_2_numbers i2 (1 : Int32) ((i4 + (1 : Int32)))) (mB hM hne) rfl [2, 3, 4, 5, 6, 7, 8, 0, 1] [] [7, 8, 0, 1, 2, 3, 4, 5, 6] rfl rfl ⟨rfl, rfl, rfl⟩ rfl (w2 := fun u6 => wAS G a0 a0_numbers u6.2.1 u6.2.2 ++ wBD G a1 a1_firms a1_kindsTold a1_places a1_crowds a1_pipsLeft a1_notHome S1_points S1_home S1_men S1_turn S1_thrower S1_cube S1_owner S1_firms S1_kindsTold S1_places S1_crowds S1_pipsLeft S1_notHome) (fun _ => rfl) rfl (Nat.le_of_ble_eq_true rfl) ⟨rfl, rfl⟩ ⟨Nat.le_of_ble_eq_true rfl, Nat.le_of_ble_eq_true rfl⟩ ⟨Nat.zero_le _, Nat.zero_le _⟩ hl.1 (st' := fun u6 => [.int u6.1, .int u5_1]) (fun _ => rfl) (fun u6 H locs huu6 Y => ?_)
      obtain ⟨u6_1, ⟨u6_2_left, u6_2_numbers⟩⟩ := u6
      replace Y : rY G A s (wAS G a0 a0_numbers u6_2_left u6_2_numbers ++ wBD G a1 a1_firms a1_kindsTold a1_places a1_crowds a1_pipsLeft a1_notHome S1_points S1_home S1_men S1_turn S1_thrower S1_cube S1_owner S1_firms S1_kindsTold S1_places S1_crowds S1_pipsLeft S1_notHome) H locs := Y
      replace hM := mS hM huu6
      show W p l e q_X1_begun_1 s m args below meth c H locs 0 0 Q (F0 m 121 ls [.int u6_1, .int u5_1])
      refine r_iadd (pc' := 122) X 30 rfl rfl ?_
      exact RT ((u5_1 + u6_1), (u6_2_left, u6_2_numbers)) _ _ _ _ _ hM (Or.inl ⟨rfl, rfl, _, rfl⟩) (X.d (k := 31) rfl) Y
    replace hM := mE hM h3_11
    by_cases h3_12 : i3 = 12
    · replace hM := mI hM h3_12
      refine r_tabIn X 123 13 rfl (12 : Int32) h3_12 (by decide) rfl (by decide) ?_
      refine r_aload_n (pc' := 124) X hl 1 rfl rfl 32 rfl rfl ?_
      refine r_aload_n (pc' := 125) X hl 2 rfl rfl 33 rfl rfl ?_
      refine r_iload_n (pc' := 126) X hl 3 rfl rfl 34 rfl rfl ?_
      refine r_bipush (pc' := 128) X (11 : Int32) 35 rfl rfl rfl ?_
      refine r_iload (pc' := 130) X hl 0 rfl 36 rfl rfl ?_
      refine r_callS (pc' := 133) (As := [.ref a0, .ref a1, .int i2, .int (11 : Int32), .int (i4 + (1 : Int32))]) (rest := []) (wr := ([] : va_W)) X Y 37 rfl rfl mRX1_35 (c_X1_begun_0 l G a0 a1 a0_numbers a1_firms a1_kindsTold a1_places a1_crowds a1_pipsLeft a1_notHome u2_left u2_numbers S1_points S1_home S1_men S1_turn S1_thrower S1_cube S1_owner S1_firms S1_kindsTold S1_places S1_crowds S1_pipsLeft S1_notHome i2 (11 : Int32) ((i4 + (1 : Int32)))) (mB hM hne) rfl [0, 1, 2, 3, 4, 5, 6, 7, 8] [] [0, 1, 2, 3, 4, 5, 6, 7, 8] rfl rfl ⟨rfl, rfl, rfl⟩ rfl (w2 := fun u7 => wAS G a0 a0_numbers u7.2.1 u7.2.2 ++ wBD G a1 a1_firms a1_kindsTold a1_places a1_crowds a1_pipsLeft a1_notHome S1_points S1_home S1_men S1_turn S1_thrower S1_cube S1_owner S1_firms S1_kindsTold S1_places S1_crowds S1_pipsLeft S1_notHome) (fun _ => rfl) rfl (Nat.le_of_ble_eq_true rfl) ⟨rfl, rfl⟩ ⟨Nat.le_of_ble_eq_true rfl, Nat.le_of_ble_eq_true rfl⟩ ⟨Nat.zero_le _, Nat.zero_le _⟩ hl.1 (st' := fun u7 => [.int u7.1]) (fun _ => rfl) (fun u7 H locs huu7 Y => ?_)
      obtain ⟨u7_1, ⟨u7_2_left, u7_2_numbers⟩⟩ := u7
      replace Y : rY G A s (wAS G a0 a0_numbers u7_2_left u7_2_numbers ++ wBD G a1 a1_firms a1_kindsTold a1_places a1_crowds a1_pipsLeft a1_notHome S1_points S1_home S1_men S1_turn S1_thrower S1_cube S1_owner S1_firms S1_kindsTold S1_places S1_crowds S1_pipsLeft S1_notHome) H locs := Y
      replace hM := mS hM huu7
      show W p l e q_X1_begun_1 s m args below meth c H locs 0 0 Q (F0 m 133 ls [.int u7_1])
      refine r_ineg (pc' := 134) X 38 rfl rfl ?_
      exact RT ((-u7_1), (u7_2_left, u7_2_numbers)) _ _ _ _ _ hM (Or.inl ⟨rfl, rfl, _, rfl⟩) (X.d (k := 39) rfl) Y
    replace hM := mE hM h3_12
    by_cases h3_13 : i3 = 13
    · replace hM := mI hM h3_13
      refine r_tabIn X 135 13 rfl (13 : Int32) h3_13 (by decide) rfl (by decide) ?_
      refine r_aload_n (pc' := 136) X hl 1 rfl rfl 40 rfl rfl ?_
      refine r_aload_n (pc' := 137) X hl 2 rfl rfl 41 rfl rfl ?_
      refine r_iload_n (pc' := 138) X hl 3 rfl rfl 42 rfl rfl ?_
      refine r_bipush (pc' := 140) X (10 : Int32) 43 rfl rfl rfl ?_
      refine r_iload (pc' := 142) X hl 0 rfl 44 rfl rfl ?_
      refine r_callS (pc' := 145) (As := [.ref a0, .ref a1, .int i2, .int (10 : Int32), .int (i4 + (1 : Int32))]) (rest := []) (wr := ([] : va_W)) X Y 45 rfl rfl mRX1_35 (c_X1_begun_0 l G a0 a1 a0_numbers a1_firms a1_kindsTold a1_places a1_crowds a1_pipsLeft a1_notHome u2_left u2_numbers S1_points S1_home S1_men S1_turn S1_thrower S1_cube S1_owner S1_firms S1_kindsTold S1_places S1_crowds S1_pipsLeft S1_notHome i2 (10 : Int32) ((i4 + (1 : Int32)))) (mB hM hne) rfl [0, 1, 2, 3, 4, 5, 6, 7, 8] [] [0, 1, 2, 3, 4, 5, 6, 7, 8] rfl rfl ⟨rfl, rfl, rfl⟩ rfl (w2 := fun u8 => wAS G a0 a0_numbers u8.2.1 u8.2.2 ++ wBD G a1 a1_firms a1_kindsTold a1_places a1_crowds a1_pipsLeft a1_notHome S1_points S1_home S1_men S1_turn S1_thrower S1_cube S1_owner S1_firms S1_kindsTold S1_places S1_crowds S1_pipsLeft S1_notHome) (fun _ => rfl) rfl (Nat.le_of_ble_eq_true rfl) ⟨rfl, rfl⟩ ⟨Nat.le_of_ble_eq_true rfl, Nat.le_of_ble_eq_true rfl⟩ ⟨Nat.zero_le _, Nat.zero_le _⟩ hl.1 (st' := fun u8 => [.int u8.1]) (fun _ => rfl) (fun u8 H locs huu8 Y => ?_)
      obtain ⟨u8_1, ⟨u8_2_left, u8_2_numbers⟩⟩ := u8
      replace Y : rY G A s (wAS G a0 a0_numbers u8_2_left u8_2_numbers ++ wBD G a1 a1_firms a1_kindsTold a1_places a1_crowds a1_pipsLeft a1_notHome S1_points S1_home S1_men S1_turn S1_thrower S1_cube S1_owner S1_firms S1_kindsTold S1_places S1_crowds S1_pipsLeft S1_notHome) H locs := Y
      replace hM := mS hM huu8
      show W p l e q_X1_begun_1 s m args below meth c H locs 0 0 Q (F0 m 145 ls [.int u8_1])
      refine r_bipush (pc' := 147) X (100 : Int32) 46 rfl rfl rfl ?_
      refine r_isub (pc' := 148) X 47 rfl rfl ?_
      exact RT ((u8_1 - (100 : Int32)), (u8_2_left, u8_2_numbers)) _ _ _ _ _ hM (Or.inl ⟨rfl, rfl, _, rfl⟩) (X.d (k := 48) rfl) Y
    replace hM := mE hM h3_13
    by_cases h3_14 : i3 = 14
    · replace hM := mI hM h3_14
      refine r_tabIn X 149 13 rfl (14 : Int32) h3_14 (by decide) rfl (by decide) ?_
      refine r_iconst (pc' := 150) X (2 : Int32) 49 rfl rfl rfl ?_
      refine r_aload_n (pc' := 151) X hl 1 rfl rfl 50 rfl rfl ?_
      refine r_aload_n (pc' := 152) X hl 2 rfl rfl 51 rfl rfl ?_
      refine r_iload_n (pc' := 153) X hl 3 rfl rfl 52 rfl rfl ?_
      refine r_bipush (pc' := 155) X (13 : Int32) 53 rfl rfl rfl ?_
      refine r_iload (pc' := 157) X hl 0 rfl 54 rfl rfl ?_
      refine r_callS (pc' := 160) (As := [.ref a0, .ref a1, .int i2, .int (13 : Int32), .int (i4 + (1 : Int32))]) (rest := [.int (2 : Int32)]) (wr := ([] : va_W)) X Y 55 rfl rfl mRX1_35 (c_X1_begun_0 l G a0 a1 a0_numbers a1_firms a1_kindsTold a1_places a1_crowds a1_pipsLeft a1_notHome u2_left u2_numbers S1_points S1_home S1_men S1_turn S1_thrower S1_cube S1_owner S1_firms S1_kindsTold S1_places S1_crowds S1_pipsLeft S1_notHome i2 (13 : Int32) ((i4 + (1 : Int32)))) (mB hM hne) rfl [0, 1, 2, 3, 4, 5, 6, 7, 8] [] [0, 1, 2, 3, 4, 5, 6, 7, 8] rfl rfl ⟨rfl, rfl, rfl⟩ rfl (w2 := fun u9 => wAS G a0 a0_numbers u9.2.1 u9.2.2 ++ wBD G a1 a1_firms a1_kindsTold a1_places a1_crowds a1_pipsLeft a1_notHome S1_points S1_home S1_men S1_turn S1_thrower S1_cube S1_owner S1_firms S1_kindsTold S1_places S1_crowds S1_pipsLeft S1_notHome) (fun _ => rfl) rfl (Nat.le_of_ble_eq_true rfl) ⟨rfl, rfl⟩ ⟨Nat.le_of_ble_eq_true rfl, Nat.le_of_ble_eq_true rfl⟩ ⟨Nat.zero_le _, Nat.zero_le _⟩ hl.1 (st' := fun u9 => [.int u9.1, .int (2 : Int32)]) (fun _ => rfl) (fun u9 H locs huu9 Y => ?_)
      obtain ⟨u9_1, ⟨u9_2_left, u9_2_numbers⟩⟩ := u9
      replace Y : rY G A s (wAS G a0 a0_numbers u9_2_left u9_2_numbers ++ wBD G a1 a1_firms a1_kindsTold a1_places a1_crowds a1_pipsLeft a1_notHome S1_points S1_home S1_men S1_turn S1_thrower S1_cube S1_owner S1_firms S1_kindsTold S1_places S1_crowds S1_pipsLeft S1_notHome) H locs := Y
      replace hM := mS hM huu9
      show W p l e q_X1_begun_1 s m args below meth c H locs 0 0 Q (F0 m 160 ls [.int u9_1, .int (2 : Int32)])
      refine r_imul (pc' := 161) X 56 rfl rfl ?_
      exact RT (((2 : Int32) * u9_1), (u9_2_left, u9_2_numbers)) _ _ _ _ _ hM (Or.inl ⟨rfl, rfl, _, rfl⟩) (X.d (k := 57) rfl) Y
    replace hM := mE hM h3_14
    by_cases h3_15 : i3 = 15
    · replace hM := mI hM h3_15
      refine r_tabIn X 229 13 rfl (15 : Int32) h3_15 (by decide) rfl (by decide) ?_
      refine r_iconst (pc' := 230) X (0 : Int32) 102 rfl rfl rfl ?_
      exact RT ((0 : Int32), (u2_left, u2_numbers)) _ _ _ _ _ hM (Or.inl ⟨rfl, rfl, _, rfl⟩) (X.d (k := 103) rfl) Y
    replace hM := mE hM h3_15
    by_cases h3_16 : i3 = 16
    · replace hM := mI hM h3_16
      refine r_tabIn X 229 13 rfl (16 : Int32) h3_16 (by decide) rfl (by decide) ?_
      refine r_iconst (pc' := 230) X (0 : Int32) 102 rfl rfl rfl ?_
      exact RT ((0 : Int32), (u2_left, u2_numbers)) _ _ _ _ _ hM (Or.inl ⟨rfl, rfl, _, rfl⟩) (X.d (k := 103) rfl) Y
    replace hM := mE hM h3_16
    by_cases h3_17 : i3 = 17
    · replace hM := mI hM h3_17
      refine r_tabIn X 229 13 rfl (17 : Int32) h3_17 (by decide) rfl (by decide) ?_
      refine r_iconst (pc' := 230) X (0 : Int32) 102 rfl rfl rfl ?_
      exact RT ((0 : Int32), (u2_left, u2_numbers)) _ _ _ _ _ hM (Or.inl ⟨rfl, rfl, _, rfl⟩) (X.d (k := 103) rfl) Y
    replace hM := mE hM h3_17
    by_cases h3_18 : i3 = 18
    · replace hM := mI hM h3_18
      refine r_tabIn X 229 13 rfl (18 : Int32) h3_18 (by decide) rfl (by decide) ?_
      refine r_iconst (pc' := 230) X (0 : Int32) 102 rfl rfl rfl ?_
      exact RT ((0 : Int32), (u2_left, u2_numbers)) _ _ _ _ _ hM (Or.inl ⟨rfl, rfl, _, rfl⟩) (X.d (k := 103) rfl) Y
    replace hM := mE hM h3_18
    by_cases h3_19 : i3 = 19
    · replace hM := mI hM h3_19
      refine r_tabIn X 229 13 rfl (19 : Int32) h3_19 (by decide) rfl (by decide) ?_
      refine r_iconst (pc' := 230) X (0 : Int32) 102 rfl rfl rfl ?_
      exact RT ((0 : Int32), (u2_left, u2_numbers)) _ _ _ _ _ hM (Or.inl ⟨rfl, rfl, _, rfl⟩) (X.d (k := 103) rfl) Y
    replace hM := mE hM h3_19
    by_cases h3_20 : i3 = 20
    · replace hM := mI hM h3_20
      refine r_tabIn X 162 13 rfl (20 : Int32) h3_20 (by decide) rfl (by decide) ?_
      refine r_iload_n (pc' := 163) X hl 3 rfl rfl 58 rfl rfl ?_
      exact RT (i2, (u2_left, u2_numbers)) _ _ _ _ _ hM (Or.inl ⟨rfl, rfl, _, rfl⟩) (X.d (k := 59) rfl) Y
    replace hM := mE hM h3_20
    by_cases h3_21 : i3 = 21
    · replace hM := mI hM h3_21
      refine r_tabIn X 164 13 rfl (21 : Int32) h3_21 (by decide) rfl (by decide) ?_
      refine r_aload_n (pc' := 165) X hl 1 rfl rfl 60 rfl rfl ?_
      refine r_aload_n (pc' := 166) X hl 2 rfl rfl 61 rfl rfl ?_
      refine r_iload_n (pc' := 167) X hl 3 rfl rfl 62 rfl rfl ?_
      refine r_bipush (pc' := 169) X (20 : Int32) 63 rfl rfl rfl ?_
      refine r_iload (pc' := 171) X hl 0 rfl 64 rfl rfl ?_
      refine r_callS (pc' := 174) (As := [.ref a0, .ref a1, .int i2, .int (20 : Int32), .int (i4 + (1 : Int32))]) (rest := []) (wr := ([] : va_W)) X Y 65 rfl rfl mRX1_35 (c_X1_begun_0 l G a0 a1 a0_numbers a1_firms a1_kindsTold a1_places a1_crowds a1_pipsLeft a1_notHome u2_left u2_numbers S1_points S1_home S1_men S1_turn S1_thrower S1_cube S1_owner S1_firms S1_kindsTold S1_places S1_crowds S1_pipsLeft S1_notHome i2 (20 : Int32) ((i4 + (1 : Int32)))) (mB hM hne) rfl [0, 1, 2, 3, 4, 5, 6, 7, 8] [] [0, 1, 2, 3, 4, 5, 6, 7, 8] rfl rfl ⟨rfl, rfl, rfl⟩ rfl (w2 := fun u10 => wAS G a0 a0_numbers u10.2.1 u10.2.2 ++ wBD G a1 a1_firms a1_kindsTold a1_places a1_crowds a1_pipsLeft a1_notHome S1_points S1_home S1_men S1_turn S1_thrower S1_cube S1_owner S1_firms S1_kindsTold S1_places S1_crowds S1_pipsLeft S1_notHome) (fun _ => rfl) rfl (Nat.le_of_ble_eq_true rfl) ⟨rfl, rfl⟩ ⟨Nat.le_of_ble_eq_true rfl, Nat.le_of_ble_eq_true rfl⟩ ⟨Nat.zero_le _, Nat.zero_le _⟩ hl.1 (st' := fun u10 => [.int u10.1]) (fun _ => rfl) (fun u10 H locs huu10 Y => ?_)
      obtain ⟨u10_1, ⟨u10_2_left, u10_2_numbers⟩⟩ := u10
      replace Y : rY G A s (wAS G a0 a0_numbers u10_2_left u10_2_numbers ++ wBD G a1 a1_firms a1_kindsTold a1_places a1_crowds a1_pipsLeft a1_notHome S1_points S1_home S1_men S1_turn S1_thrower S1_cube S1_owner S1_firms S1_kindsTold S1_places S1_crowds S1_pipsLeft S1_notHome) H locs := Y
      replace hM := mS hM huu10
      show W p l e q_X1_begun_1 s m args below meth c H locs 0 0 Q (F0 m 174 ls [.int u10_1])
      refine r_aload_n (pc' := 175) X hl 2 rfl rfl 66 rfl rfl ?_
      refine r_getN (pc' := 178) (v := .int S1_cube) X Y 67 rfl rfl fRX1_52 2 rfl rfl ?_
      refine r_iadd (pc' := 179) X 68 rfl rfl ?_
      exact RT ((u10_1 + S1_cube), (u10_2_left, u10_2_numbers)) _ _ _ _ _ hM (Or.inl ⟨rfl, rfl, _, rfl⟩) (X.d (k := 69) rfl) Y
    replace hM := mE hM h3_21
    by_cases h3_22 : i3 = 22
    · replace hM := mI hM h3_22
      refine r_tabIn X 180 13 rfl (22 : Int32) h3_22 (by decide) rfl (by decide) ?_
      refine r_aload_n (pc' := 181) X hl 1 rfl rfl 70 rfl rfl ?_
      refine r_aload_n (pc' := 182) X hl 2 rfl rfl 71 rfl rfl ?_
      refine r_iload_n (pc' := 183) X hl 3 rfl rfl 72 rfl rfl ?_
      refine r_bipush (pc' := 185) X (21 : Int32) 73 rfl rfl rfl ?_
      refine r_iload (pc' := 187) X hl 0 rfl 74 rfl rfl ?_
      refine r_callS (pc' := 190) (As := [.ref a0, .ref a1, .int i2, .int (21 : Int32), .int (i4 + (1 : Int32))]) (rest := []) (wr := ([] : va_W)) X Y 75 rfl rfl mRX1_35 (c_X1_begun_0 l G a0 a1 a0_numbers a1_firms a1_kindsTold a1_places a1_crowds a1_pipsLeft a1_notHome u2_left u2_numbers S1_points S1_home S1_men S1_turn S1_thrower S1_cube S1_owner S1_firms S1_kindsTold S1_places S1_crowds S1_pipsLeft S1_notHome i2 (21 : Int32) ((i4 + (1 : Int32)))) (mB hM hne) rfl [0, 1, 2, 3, 4, 5, 6, 7, 8] [] [0, 1, 2, 3, 4, 5, 6, 7, 8] rfl rfl ⟨rfl, rfl, rfl⟩ rfl (w2 := fun u11 => wAS G a0 a0_numbers u11.2.1 u11.2.2 ++ wBD G a1 a1_firms a1_kindsTold a1_places a1_crowds a1_pipsLeft a1_notHome S1_points S1_home S1_men S1_turn S1_thrower S1_cube S1_owner S1_firms S1_kindsTold S1_places S1_crowds S1_pipsLeft S1_notHome) (fun _ => rfl) rfl (Nat.le_of_ble_eq_true rfl) ⟨rfl, rfl⟩ ⟨Nat.le_of_ble_eq_true rfl, Nat.le_of_ble_eq_true rfl⟩ ⟨Nat.zero_le _, Nat.zero_le _⟩ hl.1 (st' := fun u11 => [.int u11.1]) (fun _ => rfl) (fun u11 H locs huu11 Y => ?_)
      obtain ⟨u11_1, ⟨u11_2_left, u11_2_numbers⟩⟩ := u11
      replace Y : rY G A s (wAS G a0 a0_numbers u11_2_left u11_2_numbers ++ wBD G a1 a1_firms a1_kindsTold a1_places a1_crowds a1_pipsLeft a1_notHome S1_points S1_home S1_men S1_turn S1_thrower S1_cube S1_owner S1_firms S1_kindsTold S1_places S1_crowds S1_pipsLeft S1_notHome) H locs := Y
      replace hM := mS hM huu11
      show W p l e q_X1_begun_1 s m args below meth c H locs 0 0 Q (F0 m 190 ls [.int u11_1])
      refine r_sipush (pc' := 193) X (1000 : Int32) 76 rfl rfl rfl ?_
      refine r_isub (pc' := 194) X 77 rfl rfl ?_
      exact RT ((u11_1 - (1000 : Int32)), (u11_2_left, u11_2_numbers)) _ _ _ _ _ hM (Or.inl ⟨rfl, rfl, _, rfl⟩) (X.d (k := 78) rfl) Y
    replace hM := mE hM h3_22
    by_cases h3_23 : i3 = 23
    · replace hM := mI hM h3_23
      refine r_tabIn X 195 13 rfl (23 : Int32) h3_23 (by decide) rfl (by decide) ?_
      refine r_aload_n (pc' := 196) X hl 1 rfl rfl 79 rfl rfl ?_
      refine r_aload_n (pc' := 197) X hl 2 rfl rfl 80 rfl rfl ?_
      refine r_iload_n (pc' := 198) X hl 3 rfl rfl 81 rfl rfl ?_
      refine r_bipush (pc' := 200) X (20 : Int32) 82 rfl rfl rfl ?_
      refine r_iload (pc' := 202) X hl 0 rfl 83 rfl rfl ?_
      refine r_callS (pc' := 205) (As := [.ref a0, .ref a1, .int i2, .int (20 : Int32), .int (i4 + (1 : Int32))]) (rest := []) (wr := ([] : va_W)) X Y 84 rfl rfl mRX1_35 (c_X1_begun_0 l G a0 a1 a0_numbers a1_firms a1_kindsTold a1_places a1_crowds a1_pipsLeft a1_notHome u2_left u2_numbers S1_points S1_home S1_men S1_turn S1_thrower S1_cube S1_owner S1_firms S1_kindsTold S1_places S1_crowds S1_pipsLeft S1_notHome i2 (20 : Int32) ((i4 + (1 : Int32)))) (mB hM hne) rfl [0, 1, 2, 3, 4, 5, 6, 7, 8] [] [0, 1, 2, 3, 4, 5, 6, 7, 8] rfl rfl ⟨rfl, rfl, rfl⟩ rfl (w2 := fun u12 => wAS G a0 a0_numbers u12.2.1 u12.2.2 ++ wBD G a1 a1_firms a1_kindsTold a1_places a1_crowds a1_pipsLeft a1_notHome S1_points S1_home S1_men S1_turn S1_thrower S1_cube S1_owner S1_firms S1_kindsTold S1_places S1_crowds S1_pipsLeft S1_notHome) (fun _ => rfl) rfl (Nat.le_of_ble_eq_true rfl) ⟨rfl, rfl⟩ ⟨Nat.le_of_ble_eq_true rfl, Nat.le_of_ble_eq_true rfl⟩ ⟨Nat.zero_le _, Nat.zero_le _⟩ hl.1 (st' := fun u12 => [.int u12.1]) (fun _ => rfl) (fun u12 H locs huu12 Y => ?_)
      obtain ⟨u12_1, ⟨u12_2_left, u12_2_numbers⟩⟩ := u12
      replace Y : rY G A s (wAS G a0 a0_numbers u12_2_left u12_2_numbers ++ wBD G a1 a1_firms a1_kindsTold a1_places a1_crowds a1_pipsLeft a1_notHome S1_points S1_home S1_men S1_turn S1_thrower S1_cube S1_owner S1_firms S1_kindsTold S1_places S1_crowds S1_pipsLeft S1_notHome) H locs := Y
      replace hM := mS hM huu12
      show W p l e q_X1_begun_1 s m args below meth c H locs 0 0 Q (F0 m 205 ls [.int u12_1])
      refine r_aload_n (pc' := 206) X hl 1 rfl rfl 85 rfl rfl ?_
      refine r_aload_n (pc' := 207) X hl 2 rfl rfl 86 rfl rfl ?_
      refine r_iload_n (pc' := 208) X hl 3 rfl rfl 87 rfl rfl ?_
      refine r_iconst (pc' := 209) X (0 : Int32) 88 rfl rfl rfl ?_
      refine r_iload (pc' := 211) X hl 0 rfl 89 rfl rfl ?_
      refine r_callS (pc' := 214) (As := [.ref a0, .ref a1, .int i2, .int (0 : Int32), .int (i4 + (1 : Int32))]) (rest := [.int u12_1]) (wr := ([] : va_W)) X Y 90 rfl rfl mRX1_19 (c_X1_anew_0 l G a0 a1 a1_firms a1_kindsTold a1_places a1_crowds a1_pipsLeft a1_notHome a0_numbers S1_points S1_home S1_men S1_turn S1_thrower S1_cube S1_owner S1_firms S1_kindsTold S1_places S1_crowds S1_pipsLeft S1_notHome u12_2_left u12_2_numbers i2 (0 : Int32) ((i4 + (1 : Int32)))) (mB hM hne) rfl [2, 3, 4, 5, 6, 7, 8, 0, 1] [] [7, 8, 0, 1, 2, 3, 4, 5, 6] rfl rfl ⟨rfl, rfl, rfl⟩ rfl (w2 := fun u13 => wAS G a0 a0_numbers u13.2.1 u13.2.2 ++ wBD G a1 a1_firms a1_kindsTold a1_places a1_crowds a1_pipsLeft a1_notHome S1_points S1_home S1_men S1_turn S1_thrower S1_cube S1_owner S1_firms S1_kindsTold S1_places S1_crowds S1_pipsLeft S1_notHome) (fun _ => rfl) rfl (Nat.le_of_ble_eq_true rfl) ⟨rfl, rfl⟩ ⟨Nat.le_of_ble_eq_true rfl, Nat.le_of_ble_eq_true rfl⟩ ⟨Nat.zero_le _, Nat.zero_le _⟩ hl.1 (st' := fun u13 => [.int u13.1, .int u12_1]) (fun _ => rfl) (fun u13 H locs huu13 Y => ?_)
      obtain ⟨u13_1, ⟨u13_2_left, u13_2_numbers⟩⟩ := u13
      replace Y : rY G A s (wAS G a0 a0_numbers u13_2_left u13_2_numbers ++ wBD G a1 a1_firms a1_kindsTold a1_places a1_crowds a1_pipsLeft a1_notHome S1_points S1_home S1_men S1_turn S1_thrower S1_cube S1_owner S1_firms S1_kindsTold S1_places S1_crowds S1_pipsLeft S1_notHome) H locs := Y
      replace hM := mS hM huu13
      show W p l e q_X1_begun_1 s m args below meth c H locs 0 0 Q (F0 m 214 ls [.int u13_1, .int u12_1])
      refine r_isub (pc' := 215) X 91 rfl rfl ?_
      exact RT ((u12_1 - u13_1), (u13_2_left, u13_2_numbers)) _ _ _ _ _ hM (Or.inl ⟨rfl, rfl, _, rfl⟩) (X.d (k := 92) rfl) Y
    replace hM := mE hM h3_23
    by_cases h3_24 : i3 = 24
    · replace hM := mI hM h3_24
      refine r_tabIn X 216 13 rfl (24 : Int32) h3_24 (by decide) rfl (by decide) ?_
      refine r_iconst (pc' := 217) X (2 : Int32) 93 rfl rfl rfl ?_
      refine r_aload_n (pc' := 218) X hl 1 rfl rfl 94 rfl rfl ?_
      refine r_aload_n (pc' := 219) X hl 2 rfl rfl 95 rfl rfl ?_
      refine r_iload_n (pc' := 220) X hl 3 rfl rfl 96 rfl rfl ?_
      refine r_bipush (pc' := 222) X (21 : Int32) 97 rfl rfl rfl ?_
      refine r_iload (pc' := 224) X hl 0 rfl 98 rfl rfl ?_
      refine r_callS (pc' := 227) (As := [.ref a0, .ref a1, .int i2, .int (21 : Int32), .int (i4 + (1 : Int32))]) (rest := [.int (2 : Int32)]) (wr := ([] : va_W)) X Y 99 rfl rfl mRX1_35 (c_X1_begun_0 l G a0 a1 a0_numbers a1_firms a1_kindsTold a1_places a1_crowds a1_pipsLeft a1_notHome u2_left u2_numbers S1_points S1_home S1_men S1_turn S1_thrower S1_cube S1_owner S1_firms S1_kindsTold S1_places S1_crowds S1_pipsLeft S1_notHome i2 (21 : Int32) ((i4 + (1 : Int32)))) (mB hM hne) rfl [0, 1, 2, 3, 4, 5, 6, 7, 8] [] [0, 1, 2, 3, 4, 5, 6, 7, 8] rfl rfl ⟨rfl, rfl, rfl⟩ rfl (w2 := fun u14 => wAS G a0 a0_numbers u14.2.1 u14.2.2 ++ wBD G a1 a1_firms a1_kindsTold a1_places a1_crowds a1_pipsLeft a1_notHome S1_points S1_home S1_men S1_turn S1_thrower S1_cube S1_owner S1_firms S1_kindsTold S1_places S1_crowds S1_pipsLeft S1_notHome) (fun _ => rfl) rfl (Nat.le_of_ble_eq_true rfl) ⟨rfl, rfl⟩ ⟨Nat.le_of_ble_eq_true rfl, Nat.le_of_ble_eq_true rfl⟩ ⟨Nat.zero_le _, Nat.zero_le _⟩ hl.1 (st' := fun u14 => [.int u14.1, .int (2 : Int32)]) (fun _ => rfl) (fun u14 H locs huu14 Y => ?_)
      obtain ⟨u14_1, ⟨u14_2_left, u14_2_numbers⟩⟩ := u14
      replace Y : rY G A s (wAS G a0 a0_numbers u14_2_left u14_2_numbers ++ wBD G a1 a1_firms a1_kindsTold a1_places a1_crowds a1_pipsLeft a1_notHome S1_points S1_home S1_men S1_turn S1_thrower S1_cube S1_owner S1_firms S1_kindsTold S1_places S1_crowds S1_pipsLeft S1_notHome) H locs := Y
      replace hM := mS hM huu14
      show W p l e q_X1_begun_1 s m args below meth c H locs 0 0 Q (F0 m 227 ls [.int u14_1, .int (2 : Int32)])
      refine r_imul (pc' := 228) X 100 rfl rfl ?_
      exact RT (((2 : Int32) * u14_1), (u14_2_left, u14_2_numbers)) _ _ _ _ _ hM (Or.inl ⟨rfl, rfl, _, rfl⟩) (X.d (k := 101) rfl) Y
    replace hM := mE hM h3_24
    refine r_tabOut X 229 13 rfl ((tsw (x := i3) 10 15 (fun k hk => match k, hk with | 0, _ => h3_10 | 1, _ => h3_11 | 2, _ => h3_12 | 3, _ => h3_13 | 4, _ => h3_14 | 5, _ => h3_15 | 6, _ => h3_16 | 7, _ => h3_17 | 8, _ => h3_18 | 9, _ => h3_19 | 10, _ => h3_20 | 11, _ => h3_21 | 12, _ => h3_22 | 13, _ => h3_23 | 14, _ => h3_24) (by decide)).imp id (fun z => Int.lt_of_lt_of_le (by decide) z)) (by decide) ?_
    refine r_iconst (pc' := 230) X (0 : Int32) 102 rfl rfl rfl ?_
    exact RT ((0 : Int32), (u2_left, u2_numbers)) _ _ _ _ _ hM (Or.inl ⟨rfl, rfl, _, rfl⟩) (X.d (k := 103) rfl) Y
  · replace hM := mE hM c1
    refine r_iconst (pc' := 8) X (0 : Int32) 3 rfl rfl rfl ?_
    exact RT ((0 : Int32), (S0_left, S0_numbers)) _ _ _ _ _ hM (Or.inl ⟨rfl, rfl, _, rfl⟩) (X.d (k := 4) rfl) Y

def M_X1_anew_1 (S0 : BD) (S1 : AS) (i2 : Int32) (i3 : Int32) (i4 : Int32) : Option (Int32 × AS) :=
  (if inb i2 8 = true then ((M_X1_bodyTold i3 (((bd_kindsTold S0) (i2).toNatClampNeg))).bind (fun u2 => ((lp (σ := Int32 × Int32 × Int32) (β := Int32) (fun rec3 st3 => (if (6 : Int32) ≤ st3.2.2 then (some st3.2.1) else (if st3.2.1 = 0 then (if inb st3.1 6 = true then ((M_X1_bodyTold i3 ((kx0 (st3.1).toNatClampNeg))).bind (fun u8 => (rec3 ((kx0 (st3.1).toNatClampNeg), u8, (st3.2.2 + (1 : Int32)))))) else none) else (some st3.2.1)))) 1000000 (((bd_kindsTold S0) (i2).toNatClampNeg), u2, (0 : Int32))).bind (fun b3 => ((M_X1_begun_1 S1 S0 i2 b3 i4).bind (fun u4 => (some (u4.1, u4.2)))))))) else none)
def q_X1_anew_1 : Room := { frames := 5, cells := 0, slots := 0, locals := 159 }
set_option maxHeartbeats 4000000 in
set_option maxRecDepth 100000 in
theorem c_X1_anew_1 (l : Launch) (G : gT) (a0 a1 a1_firms a1_kindsTold a1_places a1_crowds a1_pipsLeft a1_notHome a0_numbers : Nat) (S0_points : Int32) (S0_home : Int32) (S0_men : Int32) (S0_turn : Int32) (S0_thrower : Int32) (S0_cube : Int32) (S0_owner : Int32) (S0_firms : Nat → Int32) (S0_kindsTold : Nat → Int32) (S0_places : Nat → Int32) (S0_crowds : Nat → Int32) (S0_pipsLeft : Nat → Int32) (S0_notHome : Nat → Int32) (S1_left : Int32) (S1_numbers : Nat → Int32) (i2 : Int32) (i3 : Int32) (i4 : Int32) : CT l G yX1_anew cX1_anew 8 (some .int) q_X1_anew_1 [.ref a0, .ref a1, .int i2, .int i3, .int i4] (wBD G a1 a1_firms a1_kindsTold a1_places a1_crowds a1_pipsLeft a1_notHome S0_points S0_home S0_men S0_turn S0_thrower S0_cube S0_owner S0_firms S0_kindsTold S0_places S0_crowds S0_pipsLeft S0_notHome ++ wAS G a0 a0_numbers S1_left S1_numbers) (M_X1_anew_1 (S0_points, S0_home, S0_men, S0_turn, S0_thrower, S0_cube, S0_owner, S0_firms, S0_kindsTold, S0_places, S0_crowds, S0_pipsLeft, S0_notHome) (S1_left, S1_numbers) i2 i3 i4) (fun u => some (.int u.1)) (fun u => wBD G a1 a1_firms a1_kindsTold a1_places a1_crowds a1_pipsLeft a1_notHome S0_points S0_home S0_men S0_turn S0_thrower S0_cube S0_owner S0_firms S0_kindsTold S0_places S0_crowds S0_pipsLeft S0_notHome ++ wAS G a0 a0_numbers u.2.1 u.2.2) := by
  refine CT.of (P := PX1_anew) (by decide) dPX1_anew (Nat.le_of_ble_eq_true rfl) ?_
  intro p e s m args below meth c A Q ls hne X RT Y hl
  have hl : lv_has ls 8 [(0, .ref a0), (1, .ref a1), (2, .int i2), (3, .int i3), (4, .int i4)] := hl
  generalize hM : M_X1_anew_1 (S0_points, S0_home, S0_men, S0_turn, S0_thrower, S0_cube, S0_owner, S0_firms, S0_kindsTold, S0_places, S0_crowds, S0_pipsLeft, S0_notHome) (S1_left, S1_numbers) i2 i3 i4 = MM at hne RT
  unfold M_X1_anew_1 at hM
  refine r_aload_n (pc' := 1) X hl 1 rfl rfl 0 rfl rfl ?_
  refine r_getN (pc' := 4) (v := .ref a1_kindsTold) X Y 1 rfl rfl fRX1_23 0 rfl rfl ?_
  refine r_iload_n (pc' := 5) X hl 2 rfl rfl 2 rfl rfl ?_
  obtain ⟨g1, hM⟩ := mG hM hne
  refine r_iald (pc' := 6) X Y 3 rfl rfl 2 rfl (vin g1) ?_
  refine r_istore (pc' := 8) (L' := [(5, .int (S0_kindsTold (i2).toNatClampNeg)), (0, .ref a0), (1, .ref a1), (2, .int i2), (3, .int i3), (4, .int i4)]) X hl 4 rfl rfl (by decide) rfl (fun ls hl => ?_)
  refine r_iload_n (pc' := 9) X hl 4 rfl rfl 5 rfl rfl ?_
  refine r_iload (pc' := 11) X hl 0 rfl 6 rfl rfl ?_
  refine r_callS0 (pc' := 14) (As := [.int i3, .int (S0_kindsTold (i2).toNatClampNeg)]) (rest := []) X Y 7 rfl rfl mRX1_28 (c_X1_bodyTold l G i3 ((S0_kindsTold (i2).toNatClampNeg))) (mB hM hne) rfl [] rfl rfl rfl (Nat.le_of_ble_eq_true rfl) ⟨rfl, rfl⟩ ⟨Nat.le_of_ble_eq_true rfl, Nat.le_of_ble_eq_true rfl⟩ ⟨Nat.zero_le _, Nat.zero_le _⟩ hl.1 (st' := fun u2 => [.int u2]) (fun _ => rfl) (fun u2 H locs huu2 Y => ?_)
  replace hM := mS hM huu2
  refine r_istore (pc' := 16) (L' := [(6, .int u2), (5, .int (S0_kindsTold (i2).toNatClampNeg)), (0, .ref a0), (1, .ref a1), (2, .int i2), (3, .int i3), (4, .int i4)]) X hl 8 rfl rfl (by decide) rfl (fun ls hl => ?_)
  refine r_iconst (pc' := 17) X (0 : Int32) 9 rfl rfl rfl ?_
  refine r_istore (pc' := 19) (L' := [(7, .int (0 : Int32)), (6, .int u2), (5, .int (S0_kindsTold (i2).toNatClampNeg)), (0, .ref a0), (1, .ref a1), (2, .int i2), (3, .int i3), (4, .int i4)]) X hl 10 rfl rfl (by decide) rfl (fun ls hl => ?_)
  obtain ⟨LL3, hL3, hne3, hX3⟩ := mL hM hne
  have KX3 : ∀ (b3 : Int32) (H : Heap) (locs : List Loc) (ls : Array Slot), some b3 = LL3 → rY G A s (wBD G a1 a1_firms a1_kindsTold a1_places a1_crowds a1_pipsLeft a1_notHome S0_points S0_home S0_men S0_turn S0_thrower S0_cube S0_owner S0_firms S0_kindsTold S0_places S0_crowds S0_pipsLeft S0_notHome ++ wAS G a0 a0_numbers S1_left S1_numbers) H locs → lv_has ls 8 [(0, .ref a0), (1, .ref a1), (2, .int i2), (4, .int i4), (6, .int b3)] → W p l e q_X1_anew_1 s m args below meth c H locs 0 0 Q (F0 m 53 ls []) := by
    intro b3 H locs ls hM Y hl
    replace hM := hX3 _ hM
    refine r_aload_n (pc' := 54) X hl 0 rfl rfl 26 rfl rfl ?_
    refine r_aload_n (pc' := 55) X hl 1 rfl rfl 27 rfl rfl ?_
    refine r_iload_n (pc' := 56) X hl 2 rfl rfl 28 rfl rfl ?_
    refine r_iload (pc' := 58) X hl 4 rfl 29 rfl rfl ?_
    refine r_iload (pc' := 60) X hl 3 rfl 30 rfl rfl ?_
    refine r_callS (pc' := 63) (As := [.ref a0, .ref a1, .int i2, .int b3, .int i4]) (rest := []) (wr := ([] : va_W)) X Y 31 rfl rfl mRX1_35 (c_X1_begun_1 l G a0 a1 a0_numbers a1_firms a1_kindsTold a1_places a1_crowds a1_pipsLeft a1_notHome S1_left S1_numbers S0_points S0_home S0_men S0_turn S0_thrower S0_cube S0_owner S0_firms S0_kindsTold S0_places S0_crowds S0_pipsLeft S0_notHome i2 b3 i4) (mB hM hne) rfl [7, 8, 0, 1, 2, 3, 4, 5, 6] [] [2, 3, 4, 5, 6, 7, 8, 0, 1] rfl rfl ⟨rfl, rfl, rfl⟩ rfl (w2 := fun u4 => wBD G a1 a1_firms a1_kindsTold a1_places a1_crowds a1_pipsLeft a1_notHome S0_points S0_home S0_men S0_turn S0_thrower S0_cube S0_owner S0_firms S0_kindsTold S0_places S0_crowds S0_pipsLeft S0_notHome ++ wAS G a0 a0_numbers u4.2.1 u4.2.2) (fun _ => rfl) rfl (Nat.le_of_ble_eq_true rfl) ⟨rfl, rfl⟩ ⟨Nat.le_of_ble_eq_true rfl, Nat.le_of_ble_eq_true rfl⟩ ⟨Nat.zero_le _, Nat.zero_le _⟩ hl.1 (st' := fun u4 => [.int u4.1]) (fun _ => rfl) (fun u4 H locs huu4 Y => ?_)
    obtain ⟨u4_1, ⟨u4_2_left, u4_2_numbers⟩⟩ := u4
    replace Y : rY G A s (wBD G a1 a1_firms a1_kindsTold a1_places a1_crowds a1_pipsLeft a1_notHome S0_points S0_home S0_men S0_turn S0_thrower S0_cube S0_owner S0_firms S0_kindsTold S0_places S0_crowds S0_pipsLeft S0_notHome ++ wAS G a0 a0_numbers u4_2_left u4_2_numbers) H locs := Y
    replace hM := mS hM huu4
    show W p l e q_X1_anew_1 s m args below meth c H locs 0 0 Q (F0 m 63 ls [.int u4_1])
    exact RT (u4_1, (u4_2_left, u4_2_numbers)) _ _ _ _ _ hM (Or.inl ⟨rfl, rfl, _, rfl⟩) (X.d (k := 32) rfl) Y
  refine lp_rule (I := fun (st3 : Int32 × Int32 × Int32) => ∀ (H : Heap) (locs : List Loc) (ls : Array Slot), rY G A s (wBD G a1 a1_firms a1_kindsTold a1_places a1_crowds a1_pipsLeft a1_notHome S0_points S0_home S0_men S0_turn S0_thrower S0_cube S0_owner S0_firms S0_kindsTold S0_places S0_crowds S0_pipsLeft S0_notHome ++ wAS G a0 a0_numbers S1_left S1_numbers) H locs → lv_has ls 8 [(0, .ref a0), (1, .ref a1), (2, .int i2), (3, .int i3), (4, .int i4), (5, .int st3.1), (6, .int st3.2.1), (7, .int st3.2.2)] → W p l e q_X1_anew_1 s m args below meth c H locs 0 0 Q (F0 m 19 ls [])) hne3 (fun rec3 st3 IH3 hM => ?_) _ _ hL3 _ _ _ Y (lv_sub hl [3, 4, 5, 6, 7, 2, 1, 0] rfl)
  intro H locs ls Y hl
  obtain ⟨st3_1, st3_2_1, st3_2_2⟩ := st3
  replace Y : rY G A s (wBD G a1 a1_firms a1_kindsTold a1_places a1_crowds a1_pipsLeft a1_notHome S0_points S0_home S0_men S0_turn S0_thrower S0_cube S0_owner S0_firms S0_kindsTold S0_places S0_crowds S0_pipsLeft S0_notHome ++ wAS G a0 a0_numbers S1_left S1_numbers) H locs := Y
  replace hl : lv_has ls 8 [(0, .ref a0), (1, .ref a1), (2, .int i2), (3, .int i3), (4, .int i4), (5, .int st3_1), (6, .int st3_2_1), (7, .int st3_2_2)] := hl
  refine r_iload (pc' := 21) X hl 7 rfl 11 rfl rfl ?_
  refine r_bipush (pc' := 23) X (6 : Int32) 12 rfl rfl rfl ?_
  refine r_icmp_ge (pc' := 26) X 53 13 rfl rfl (by decide) (fun c5 => ?_) (fun c5 => ?_)
  · replace hM := mI hM c5
    exact KX3 st3_2_1 _ _ _ hM Y (lv_sub hl [0, 1, 2, 4, 6] rfl)
  · replace hM := mE hM c5
    refine r_iload (pc' := 28) X hl 6 rfl 14 rfl rfl ?_
    refine r_if_ne (pc' := 31) X 53 15 rfl rfl (by decide) (fun c6 => ?_) (fun c6 => ?_)
    · replace hM := mE hM c6
      exact KX3 st3_2_1 _ _ _ hM Y (lv_sub hl [0, 1, 2, 4, 6] rfl)
    · replace hM := mI hM c6
      refine r_getsN_kab (pc' := 34) X Y 16 rfl rfl nw45 ?_
      refine r_iload (pc' := 36) X hl 5 rfl 17 rfl rfl ?_
      obtain ⟨g7, hM⟩ := mG hM hne3
      refine r_sld_kab (pc' := 37) X Y 18 rfl rfl (vin g7) ?_
      refine r_istore (pc' := 39) (L' := [(5, .int (kx0 (st3_1).toNatClampNeg)), (0, .ref a0), (1, .ref a1), (2, .int i2), (3, .int i3), (4, .int i4), (6, .int st3_2_1), (7, .int st3_2_2)]) X hl 19 rfl rfl (by decide) rfl (fun ls hl => ?_)
      refine r_iload_n (pc' := 40) X hl 4 rfl rfl 20 rfl rfl ?_
      refine r_iload (pc' := 42) X hl 0 rfl 21 rfl rfl ?_
      refine r_callS0 (pc' := 45) (As := [.int i3, .int (kx0 (st3_1).toNatClampNeg)]) (rest := []) X Y 22 rfl rfl mRX1_28 (c_X1_bodyTold l G i3 ((kx0 (st3_1).toNatClampNeg))) (mB hM hne3) rfl [] rfl rfl rfl (Nat.le_of_ble_eq_true rfl) ⟨rfl, rfl⟩ ⟨Nat.le_of_ble_eq_true rfl, Nat.le_of_ble_eq_true rfl⟩ ⟨Nat.zero_le _, Nat.zero_le _⟩ hl.1 (st' := fun u8 => [.int u8]) (fun _ => rfl) (fun u8 H locs huu8 Y => ?_)
      replace hM := mS hM huu8
      refine r_istore (pc' := 47) (L' := [(6, .int u8), (5, .int (kx0 (st3_1).toNatClampNeg)), (0, .ref a0), (1, .ref a1), (2, .int i2), (3, .int i3), (4, .int i4), (7, .int st3_2_2)]) X hl 23 rfl rfl (by decide) rfl (fun ls hl => ?_)
      refine r_iinc (pc' := 50) (L' := [(7, .int (st3_2_2 + (1 : Int32))), (6, .int u8), (5, .int (kx0 (st3_1).toNatClampNeg)), (0, .ref a0), (1, .ref a1), (2, .int i2), (3, .int i3), (4, .int i4)]) X (st3_2_2 + (1 : Int32)) hl 7 rfl rfl 24 rfl rfl (by decide) rfl (fun ls hl => ?_)
      refine r_goto X 19 25 rfl (by decide) ?_
      exact IH3 _ hM _ _ _ Y (lv_sub hl [3, 4, 5, 6, 7, 2, 1, 0] rfl)

def M_X1_begun_2 (S0 : AS) (S1 : BD) (i2 : Int32) (i3 : Int32) (i4 : Int32) : Option (Int32 × AS) :=
  (if i4 ≤ (20 : Int32) then ((M_X1_leave S0 i3).bind (fun u2 => (if i3 = 10 then ((M_X2_pipsOf S1 i2).bind (fun u4 => (some (u4, u2)))) else (if i3 = 11 then ((M_X1_begun_1 u2 S1 i2 (10 : Int32) ((i4 + (1 : Int32)))).bind (fun u5 => ((M_X1_anew_1 S1 u5.2 i2 (1 : Int32) ((i4 + (1 : Int32)))).bind (fun u6 => (some ((u5.1 + u6.1), u6.2)))))) else (if i3 = 12 then ((M_X1_begun_1 u2 S1 i2 (11 : Int32) ((i4 + (1 : Int32)))).bind (fun u7 => (some ((-u7.1), u7.2)))) else (if i3 = 13 then ((M_X1_begun_1 u2 S1 i2 (10 : Int32) ((i4 + (1 : Int32)))).bind (fun u8 => (some ((u8.1 - (100 : Int32)), u8.2)))) else (if i3 = 14 then ((M_X1_begun_1 u2 S1 i2 (13 : Int32) ((i4 + (1 : Int32)))).bind (fun u9 => (some (((2 : Int32) * u9.1), u9.2)))) else (if i3 = 15 then (some ((0 : Int32), u2)) else (if i3 = 16 then (some ((0 : Int32), u2)) else (if i3 = 17 then (some ((0 : Int32), u2)) else (if i3 = 18 then (some ((0 : Int32), u2)) else (if i3 = 19 then (some ((0 : Int32), u2)) else (if i3 = 20 then (some (i2, u2)) else (if i3 = 21 then ((M_X1_begun_1 u2 S1 i2 (20 : Int32) ((i4 + (1 : Int32)))).bind (fun u10 => (some ((u10.1 + (bd_cube S1)), u10.2)))) else (if i3 = 22 then ((M_X1_begun_1 u2 S1 i2 (21 : Int32) ((i4 + (1 : Int32)))).bind (fun u11 => (some ((u11.1 - (1000 : Int32)), u11.2)))) else (if i3 = 23 then ((M_X1_begun_1 u2 S1 i2 (20 : Int32) ((i4 + (1 : Int32)))).bind (fun u12 => ((M_X1_anew_1 S1 u12.2 i2 (0 : Int32) ((i4 + (1 : Int32)))).bind (fun u13 => (some ((u12.1 - u13.1), u13.2)))))) else (if i3 = 24 then ((M_X1_begun_1 u2 S1 i2 (21 : Int32) ((i4 + (1 : Int32)))).bind (fun u14 => (some (((2 : Int32) * u14.1), u14.2)))) else (some ((0 : Int32), u2))))))))))))))))))) else (some ((0 : Int32), S0)))
def q_X1_begun_2 : Room := { frames := 6, cells := 0, slots := 0, locals := 186 }
set_option maxHeartbeats 4000000 in
set_option maxRecDepth 100000 in
theorem c_X1_begun_2 (l : Launch) (G : gT) (a0 a1 a0_numbers a1_firms a1_kindsTold a1_places a1_crowds a1_pipsLeft a1_notHome : Nat) (S0_left : Int32) (S0_numbers : Nat → Int32) (S1_points : Int32) (S1_home : Int32) (S1_men : Int32) (S1_turn : Int32) (S1_thrower : Int32) (S1_cube : Int32) (S1_owner : Int32) (S1_firms : Nat → Int32) (S1_kindsTold : Nat → Int32) (S1_places : Nat → Int32) (S1_crowds : Nat → Int32) (S1_pipsLeft : Nat → Int32) (S1_notHome : Nat → Int32) (i2 : Int32) (i3 : Int32) (i4 : Int32) : CT l G yX1_begun cX1_begun 6 (some .int) q_X1_begun_2 [.ref a0, .ref a1, .int i2, .int i3, .int i4] (wAS G a0 a0_numbers S0_left S0_numbers ++ wBD G a1 a1_firms a1_kindsTold a1_places a1_crowds a1_pipsLeft a1_notHome S1_points S1_home S1_men S1_turn S1_thrower S1_cube S1_owner S1_firms S1_kindsTold S1_places S1_crowds S1_pipsLeft S1_notHome) (M_X1_begun_2 (S0_left, S0_numbers) (S1_points, S1_home, S1_men, S1_turn, S1_thrower, S1_cube, S1_owner, S1_firms, S1_kindsTold, S1_places, S1_crowds, S1_pipsLeft, S1_notHome) i2 i3 i4) (fun u => some (.int u.1)) (fun u => wAS G a0 a0_numbers u.2.1 u.2.2 ++ wBD G a1 a1_firms a1_kindsTold a1_places a1_crowds a1_pipsLeft a1_notHome S1_points S1_home S1_men S1_turn S1_thrower S1_cube S1_owner S1_firms S1_kindsTold S1_places S1_crowds S1_pipsLeft S1_notHome) := by
  refine CT.of (P := PX1_begun) (by decide) dPX1_begun (Nat.le_of_ble_eq_true rfl) ?_
  intro p e s m args below meth c A Q ls hne X RT Y hl
  have hl : lv_has ls 6 [(0, .ref a0), (1, .ref a1), (2, .int i2), (3, .int i3), (4, .int i4)] := hl
  generalize hM : M_X1_begun_2 (S0_left, S0_numbers) (S1_points, S1_home, S1_men, S1_turn, S1_thrower, S1_cube, S1_owner, S1_firms, S1_kindsTold, S1_places, S1_crowds, S1_pipsLeft, S1_notHome) i2 i3 i4 = MM at hne RT
  unfold M_X1_begun_2 at hM
  refine r_iload (pc' := 2) X hl 4 rfl 0 rfl rfl ?_
  refine r_bipush (pc' := 4) X (20 : Int32) 1 rfl rfl rfl ?_
  refine r_icmp_le (pc' := 7) X 9 2 rfl rfl (by decide) (fun c1 => ?_) (fun c1 => ?_)
  · replace hM := mI hM c1
    refine r_aload_n (pc' := 10) X hl 0 rfl rfl 5 rfl rfl ?_
    refine r_iload_n (pc' := 11) X hl 3 rfl rfl 6 rfl rfl ?_
    refine r_callV (pc' := 14) (As := [.int i3]) (rest := []) (wr := (wBD G a1 a1_firms a1_kindsTold a1_places a1_crowds a1_pipsLeft a1_notHome S1_points S1_home S1_men S1_turn S1_thrower S1_cube S1_owner S1_firms S1_kindsTold S1_places S1_crowds S1_pipsLeft S1_notHome : va_W)) X Y 7 rfl rfl mRX1_44 (c_X1_leave l G a0 a0_numbers S0_left S0_numbers i3) (mB hM hne) 0 rfl rfl [0, 1] [2, 3, 4, 5, 6, 7, 8] [7, 8, 0, 1, 2, 3, 4, 5, 6] rfl rfl ⟨rfl, rfl, rfl⟩ rfl (w2 := fun u2 => wAS G a0 a0_numbers u2.1 u2.2 ++ wBD G a1 a1_firms a1_kindsTold a1_places a1_crowds a1_pipsLeft a1_notHome S1_points S1_home S1_men S1_turn S1_thrower S1_cube S1_owner S1_firms S1_kindsTold S1_places S1_crowds S1_pipsLeft S1_notHome) (fun _ => rfl) rfl (Nat.le_of_ble_eq_true rfl) ⟨rfl, rfl⟩ ⟨Nat.le_of_ble_eq_true rfl, Nat.le_of_ble_eq_true rfl⟩ ⟨Nat.zero_le _, Nat.zero_le _⟩ hl.1 (st' := fun u2 => []) (fun _ => rfl) (fun u2 H locs huu2 Y => ?_)
    obtain ⟨u2_left, u2_numbers⟩ := u2
    replace Y : rY G A s (wAS G a0 a0_numbers u2_left u2_numbers ++ wBD G a1 a1_firms a1_kindsTold a1_places a1_crowds a1_pipsLeft a1_notHome S1_points S1_home S1_men S1_turn S1_thrower S1_cube S1_owner S1_firms S1_kindsTold S1_places S1_crowds S1_pipsLeft S1_notHome) H locs := Y
    replace hM := mS hM huu2
    show W p l e q_X1_begun_2 s m args below meth c H locs 0 0 Q (F0 m 14 ls [])
    refine r_iload (pc' := 16) X hl 4 rfl 8 rfl rfl ?_
    refine r_iconst (pc' := 17) X (1 : Int32) 9 rfl rfl rfl ?_
    refine r_iadd (pc' := 18) X 10 rfl rfl ?_
    refine r_istore (pc' := 20) (L' := [(5, .int (i4 + (1 : Int32))), (0, .ref a0), (1, .ref a1), (2, .int i2), (3, .int i3), (4, .int i4)]) X hl 11 rfl rfl (by decide) rfl (fun ls hl => ?_)
    refine r_iload_n (pc' := 21) X hl 4 rfl rfl 12 rfl rfl ?_
    by_cases h3_10 : i3 = 10
    · replace hM := mI hM h3_10
      refine r_tabIn X 96 13 rfl (10 : Int32) h3_10 (by decide) rfl (by decide) ?_
      refine r_aload_n (pc' := 97) X hl 2 rfl rfl 14 rfl rfl ?_
      refine r_iload_n (pc' := 98) X hl 3 rfl rfl 15 rfl rfl ?_
      refine r_callV0 (pc' := 101) (As := [.int i2]) (rest := []) X Y 16 rfl rfl mRX1_48 (c_X2_pipsOf l G a1 a1_firms a1_kindsTold a1_places a1_crowds a1_pipsLeft a1_notHome S1_points S1_home S1_men S1_turn S1_thrower S1_cube S1_owner S1_firms S1_kindsTold S1_places S1_crowds S1_pipsLeft S1_notHome i2) (mB hM hne) 2 rfl rfl [2, 3, 4, 5, 6, 7, 8] rfl rfl rfl (Nat.le_of_ble_eq_true rfl) ⟨rfl, rfl⟩ ⟨Nat.le_of_ble_eq_true rfl, Nat.le_of_ble_eq_true rfl⟩ ⟨Nat.zero_le _, Nat.zero_le _⟩ hl.1 (st' := fun u4 => [.int u4]) (fun _ => rfl) (fun u4 H locs huu4 Y => ?_)
      replace hM := mS hM huu4
      exact RT (u4, (u2_left, u2_numbers)) _ _ _ _ _ hM (Or.inl ⟨rfl, rfl, _, rfl⟩) (X.d (k := 17) rfl) Y
    replace hM := mE hM h3_10
    by_cases h3_11 : i3 = 11
    · replace hM := mI hM h3_11
      refine r_tabIn X 102 13 rfl (11 : Int32) h3_11 (by decide) rfl (by decide) ?_
      refine r_aload_n (pc' := 103) X hl 1 rfl rfl 18 rfl rfl ?_
      refine r_aload_n (pc' := 104) X hl 2 rfl rfl 19 rfl rfl ?_
      refine r_iload_n (pc' := 105) X hl 3 rfl rfl 20 rfl rfl ?_
      refine r_bipush (pc' := 107) X (10 : Int32) 21 rfl rfl rfl ?_
      refine r_iload (pc' := 109) X hl 0 rfl 22 rfl rfl ?_
      refine r_callS (pc' := 112) (As := [.ref a0, .ref a1, .int i2, .int (10 : Int32), .int (i4 + (1 : Int32))]) (rest := []) (wr := ([] : va_W)) X Y 23 rfl rfl mRX1_35 (c_X1_begun_1 l G a0 a1 a0_numbers a1_firms a1_kindsTold a1_places a1_crowds a1_pipsLeft a1_notHome u2_left u2_numbers S1_points S1_home S1_men S1_turn S1_thrower S1_cube S1_owner S1_firms S1_kindsTold S1_places S1_crowds S1_pipsLeft S1_notHome i2 (10 : Int32) ((i4 + (1 : Int32)))) (mB hM hne) rfl [0, 1, 2, 3, 4, 5, 6, 7, 8] [] [0, 1, 2, 3, 4, 5, 6, 7, 8] rfl rfl ⟨rfl, rfl, rfl⟩ rfl (w2 := fun u5 => wAS G a0 a0_numbers u5.2.1 u5.2.2 ++ wBD G a1 a1_firms a1_kindsTold a1_places a1_crowds a1_pipsLeft a1_notHome S1_points S1_home S1_men S1_turn S1_thrower S1_cube S1_owner S1_firms S1_kindsTold S1_places S1_crowds S1_pipsLeft S1_notHome) (fun _ => rfl) rfl (Nat.le_of_ble_eq_true rfl) ⟨rfl, rfl⟩ ⟨Nat.le_of_ble_eq_true rfl, Nat.le_of_ble_eq_true rfl⟩ ⟨Nat.zero_le _, Nat.zero_le _⟩ hl.1 (st' := fun u5 => [.int u5.1]) (fun _ => rfl) (fun u5 H locs huu5 Y => ?_)
      obtain ⟨u5_1, ⟨u5_2_left, u5_2_numbers⟩⟩ := u5
      replace Y : rY G A s (wAS G a0 a0_numbers u5_2_left u5_2_numbers ++ wBD G a1 a1_firms a1_kindsTold a1_places a1_crowds a1_pipsLeft a1_notHome S1_points S1_home S1_men S1_turn S1_thrower S1_cube S1_owner S1_firms S1_kindsTold S1_places S1_crowds S1_pipsLeft S1_notHome) H locs := Y
      replace hM := mS hM huu5
      show W p l e q_X1_begun_2 s m args below meth c H locs 0 0 Q (F0 m 112 ls [.int u5_1])
      refine r_aload_n (pc' := 113) X hl 1 rfl rfl 24 rfl rfl ?_
      refine r_aload_n (pc' := 114) X hl 2 rfl rfl 25 rfl rfl ?_
      refine r_iload_n (pc' := 115) X hl 3 rfl rfl 26 rfl rfl ?_
      refine r_iconst (pc' := 116) X (1 : Int32) 27 rfl rfl rfl ?_
      refine r_iload (pc' := 118) X hl 0 rfl 28 rfl rfl ?_
      refine r_callS (pc' := 121) (As := [.ref a0, .ref a1, .int i2, .int (1 : Int32), .int (i4 + (1 : Int32))]) (rest := [.int u5_1]) (wr := ([] : va_W)) X Y 29 rfl rfl mRX1_19 (c_X1_anew_1 l G a0 a1 a1_firms a1_kindsTold a1_places a1_crowds a1_pipsLeft a1_notHome a0_numbers S1_points S1_home S1_men S1_turn S1_thrower S1_cube S1_owner S1_firms S1_kindsTold S1_places S1_crowds S1_pipsLeft S1_notHome u5_2_left u5_2_numbers i2 (1 : Int32) ((i4 + (1 : Int32)))) (mB hM hne) rfl [2, 3, 4, 5, 6, 7, 8, 0, 1] [] [7, 8, 0, 1, 2, 3, 4, 5, 6] rfl rfl ⟨rfl, rfl, rfl⟩ rfl (w2 := fun u6 => wAS G a0 a0_numbers u6.2.1 u6.2.2 ++ wBD G a1 a1_firms a1_kindsTold a1_places a1_crowds a1_pipsLeft a1_notHome S1_points S1_home S1_men S1_turn S1_thrower S1_cube S1_owner S1_firms S1_kindsTold S1_places S1_crowds S1_pipsLeft S1_notHome) (fun _ => rfl) rfl (Nat.le_of_ble_eq_true rfl) ⟨rfl, rfl⟩ ⟨Nat.le_of_ble_eq_true rfl, Nat.le_of_ble_eq_true rfl⟩ ⟨Nat.zero_le _, Nat.zero_le _⟩ hl.1 (st' := fun u6 => [.int u6.1, .int u5_1]) (fun _ => rfl) (fun u6 H locs huu6 Y => ?_)
      obtain ⟨u6_1, ⟨u6_2_left, u6_2_numbers⟩⟩ := u6
      replace Y : rY G A s (wAS G a0 a0_numbers u6_2_left u6_2_numbers ++ wBD G a1 a1_firms a1_kindsTold a1_places a1_crowds a1_pipsLeft a1_notHome S1_points S1_home S1_men S1_turn S1_thrower S1_cube S1_owner S1_firms S1_kindsTold S1_places S1_crowds S1_pipsLeft S1_notHome) H locs := Y
      replace hM := mS hM huu6
      show W p l e q_X1_begun_2 s m args below meth c H locs 0 0 Q (F0 m 121 ls [.int u6_1, .int u5_1])
      refine r_iadd (pc' := 122) X 30 rfl rfl ?_
      exact RT ((u5_1 + u6_1), (u6_2_left, u6_2_numbers)) _ _ _ _ _ hM (Or.inl ⟨rfl, rfl, _, rfl⟩) (X.d (k := 31) rfl) Y
    replace hM := mE hM h3_11
    by_cases h3_12 : i3 = 12
    · replace hM := mI hM h3_12
      refine r_tabIn X 123 13 rfl (12 : Int32) h3_12 (by decide) rfl (by decide) ?_
      refine r_aload_n (pc' := 124) X hl 1 rfl rfl 32 rfl rfl ?_
      refine r_aload_n (pc' := 125) X hl 2 rfl rfl 33 rfl rfl ?_
      refine r_iload_n (pc' := 126) X hl 3 rfl rfl 34 rfl rfl ?_
      refine r_bipush (pc' := 128) X (11 : Int32) 35 rfl rfl rfl ?_
      refine r_iload (pc' := 130) X hl 0 rfl 36 rfl rfl ?_
      refine r_callS (pc' := 133) (As := [.ref a0, .ref a1, .int i2, .int (11 : Int32), .int (i4 + (1 : Int32))]) (rest := []) (wr := ([] : va_W)) X Y 37 rfl rfl mRX1_35 (c_X1_begun_1 l G a0 a1 a0_numbers a1_firms a1_kindsTold a1_places a1_crowds a1_pipsLeft a1_notHome u2_left u2_numbers S1_points S1_home S1_men S1_turn S1_thrower S1_cube S1_owner S1_firms S1_kindsTold S1_places S1_crowds S1_pipsLeft S1_notHome i2 (11 : Int32) ((i4 + (1 : Int32)))) (mB hM hne) rfl [0, 1, 2, 3, 4, 5, 6, 7, 8] [] [0, 1, 2, 3, 4, 5, 6, 7, 8] rfl rfl ⟨rfl, rfl, rfl⟩ rfl (w2 := fun u7 => wAS G a0 a0_numbers u7.2.1 u7.2.2 ++ wBD G a1 a1_firms a1_kindsTold a1_places a1_crowds a1_pipsLeft a1_notHome S1_points S1_home S1_men S1_turn S1_thrower S1_cube S1_owner S1_firms S1_kindsTold S1_places S1_crowds S1_pipsLeft S1_notHome) (fun _ => rfl) rfl (Nat.le_of_ble_eq_true rfl) ⟨rfl, rfl⟩ ⟨Nat.le_of_ble_eq_true rfl, Nat.le_of_ble_eq_true rfl⟩ ⟨Nat.zero_le _, Nat.zero_le _⟩ hl.1 (st' := fun u7 => [.int u7.1]) (fun _ => rfl) (fun u7 H locs huu7 Y => ?_)
      obtain ⟨u7_1, ⟨u7_2_left, u7_2_numbers⟩⟩ := u7
      replace Y : rY G A s (wAS G a0 a0_numbers u7_2_left u7_2_numbers ++ wBD G a1 a1_firms a1_kindsTold a1_places a1_crowds a1_pipsLeft a1_notHome S1_points S1_home S1_men S1_turn S1_thrower S1_cube S1_owner S1_firms S1_kindsTold S1_places S1_crowds S1_pipsLeft S1_notHome) H locs := Y
      replace hM := mS hM huu7
      show W p l e q_X1_begun_2 s m args below meth c H locs 0 0 Q (F0 m 133 ls [.int u7_1])
      refine r_ineg (pc' := 134) X 38 rfl rfl ?_
      exact RT ((-u7_1), (u7_2_left, u7_2_numbers)) _ _ _ _ _ hM (Or.inl ⟨rfl, rfl, _, rfl⟩) (X.d (k := 39) rfl) Y
    replace hM := mE hM h3_12
    by_cases h3_13 : i3 = 13
    · replace hM := mI hM h3_13
      refine r_tabIn X 135 13 rfl (13 : Int32) h3_13 (by decide) rfl (by decide) ?_
      refine r_aload_n (pc' := 136) X hl 1 rfl rfl 40 rfl rfl ?_
      refine r_aload_n (pc' := 137) X hl 2 rfl rfl 41 rfl rfl ?_
      refine r_iload_n (pc' := 138) X hl 3 rfl rfl 42 rfl rfl ?_
      refine r_bipush (pc' := 140) X (10 : Int32) 43 rfl rfl rfl ?_
      refine r_iload (pc' := 142) X hl 0 rfl 44 rfl rfl ?_
      refine r_callS (pc' := 145) (As := [.ref a0, .ref a1, .int i2, .int (10 : Int32), .int (i4 + (1 : Int32))]) (rest := []) (wr := ([] : va_W)) X Y 45 rfl rfl mRX1_35 (c_X1_begun_1 l G a0 a1 a0_numbers a1_firms a1_kindsTold a1_places a1_crowds a1_pipsLeft a1_notHome u2_left u2_numbers S1_points S1_home S1_men S1_turn S1_thrower S1_cube S1_owner S1_firms S1_kindsTold S1_places S1_crowds S1_pipsLeft S1_notHome i2 (10 : Int32) ((i4 + (1 : Int32)))) (mB hM hne) rfl [0, 1, 2, 3, 4, 5, 6, 7, 8] [] [0, 1, 2, 3, 4, 5, 6, 7, 8] rfl rfl ⟨rfl, rfl, rfl⟩ rfl (w2 := fun u8 => wAS G a0 a0_numbers u8.2.1 u8.2.2 ++ wBD G a1 a1_firms a1_kindsTold a1_places a1_crowds a1_pipsLeft a1_notHome S1_points S1_home S1_men S1_turn S1_thrower S1_cube S1_owner S1_firms S1_kindsTold S1_places S1_crowds S1_pipsLeft S1_notHome) (fun _ => rfl) rfl (Nat.le_of_ble_eq_true rfl) ⟨rfl, rfl⟩ ⟨Nat.le_of_ble_eq_true rfl, Nat.le_of_ble_eq_true rfl⟩ ⟨Nat.zero_le _, Nat.zero_le _⟩ hl.1 (st' := fun u8 => [.int u8.1]) (fun _ => rfl) (fun u8 H locs huu8 Y => ?_)
      obtain ⟨u8_1, ⟨u8_2_left, u8_2_numbers⟩⟩ := u8
      replace Y : rY G A s (wAS G a0 a0_numbers u8_2_left u8_2_numbers ++ wBD G a1 a1_firms a1_kindsTold a1_places a1_crowds a1_pipsLeft a1_notHome S1_points S1_home S1_men S1_turn S1_thrower S1_cube S1_owner S1_firms S1_kindsTold S1_places S1_crowds S1_pipsLeft S1_notHome) H locs := Y
      replace hM := mS hM huu8
      show W p l e q_X1_begun_2 s m args below meth c H locs 0 0 Q (F0 m 145 ls [.int u8_1])
      refine r_bipush (pc' := 147) X (100 : Int32) 46 rfl rfl rfl ?_
      refine r_isub (pc' := 148) X 47 rfl rfl ?_
      exact RT ((u8_1 - (100 : Int32)), (u8_2_left, u8_2_numbers)) _ _ _ _ _ hM (Or.inl ⟨rfl, rfl, _, rfl⟩) (X.d (k := 48) rfl) Y
    replace hM := mE hM h3_13
    by_cases h3_14 : i3 = 14
    · replace hM := mI hM h3_14
      refine r_tabIn X 149 13 rfl (14 : Int32) h3_14 (by decide) rfl (by decide) ?_
      refine r_iconst (pc' := 150) X (2 : Int32) 49 rfl rfl rfl ?_
      refine r_aload_n (pc' := 151) X hl 1 rfl rfl 50 rfl rfl ?_
      refine r_aload_n (pc' := 152) X hl 2 rfl rfl 51 rfl rfl ?_
      refine r_iload_n (pc' := 153) X hl 3 rfl rfl 52 rfl rfl ?_
      refine r_bipush (pc' := 155) X (13 : Int32) 53 rfl rfl rfl ?_
      refine r_iload (pc' := 157) X hl 0 rfl 54 rfl rfl ?_
      refine r_callS (pc' := 160) (As := [.ref a0, .ref a1, .int i2, .int (13 : Int32), .int (i4 + (1 : Int32))]) (rest := [.int (2 : Int32)]) (wr := ([] : va_W)) X Y 55 rfl rfl mRX1_35 (c_X1_begun_1 l G a0 a1 a0_numbers a1_firms a1_kindsTold a1_places a1_crowds a1_pipsLeft a1_notHome u2_left u2_numbers S1_points S1_home S1_men S1_turn S1_thrower S1_cube S1_owner S1_firms S1_kindsTold S1_places S1_crowds S1_pipsLeft S1_notHome i2 (13 : Int32) ((i4 + (1 : Int32)))) (mB hM hne) rfl [0, 1, 2, 3, 4, 5, 6, 7, 8] [] [0, 1, 2, 3, 4, 5, 6, 7, 8] rfl rfl ⟨rfl, rfl, rfl⟩ rfl (w2 := fun u9 => wAS G a0 a0_numbers u9.2.1 u9.2.2 ++ wBD G a1 a1_firms a1_kindsTold a1_places a1_crowds a1_pipsLeft a1_notHome S1_points S1_home S1_men S1_turn S1_thrower S1_cube S1_owner S1_firms S1_kindsTold S1_places S1_crowds S1_pipsLeft S1_notHome) (fun _ => rfl) rfl (Nat.le_of_ble_eq_true rfl) ⟨rfl, rfl⟩ ⟨Nat.le_of_ble_eq_true rfl, Nat.le_of_ble_eq_true rfl⟩ ⟨Nat.zero_le _, Nat.zero_le _⟩ hl.1 (st' := fun u9 => [.int u9.1, .int (2 : Int32)]) (fun _ => rfl) (fun u9 H locs huu9 Y => ?_)
      obtain ⟨u9_1, ⟨u9_2_left, u9_2_numbers⟩⟩ := u9
      replace Y : rY G A s (wAS G a0 a0_numbers u9_2_left u9_2_numbers ++ wBD G a1 a1_firms a1_kindsTold a1_places a1_crowds a1_pipsLeft a1_notHome S1_points S1_home S1_men S1_turn S1_thrower S1_cube S1_owner S1_firms S1_kindsTold S1_places S1_crowds S1_pipsLeft S1_notHome) H locs := Y
      replace hM := mS hM huu9
      show W p l e q_X1_begun_2 s m args below meth c H locs 0 0 Q (F0 m 160 ls [.int u9_1, .int (2 : Int32)])
      refine r_imul (pc' := 161) X 56 rfl rfl ?_
      exact RT (((2 : Int32) * u9_1), (u9_2_left, u9_2_numbers)) _ _ _ _ _ hM (Or.inl ⟨rfl, rfl, _, rfl⟩) (X.d (k := 57) rfl) Y
    replace hM := mE hM h3_14
    by_cases h3_15 : i3 = 15
    · replace hM := mI hM h3_15
      refine r_tabIn X 229 13 rfl (15 : Int32) h3_15 (by decide) rfl (by decide) ?_
      refine r_iconst (pc' := 230) X (0 : Int32) 102 rfl rfl rfl ?_
      exact RT ((0 : Int32), (u2_left, u2_numbers)) _ _ _ _ _ hM (Or.inl ⟨rfl, rfl, _, rfl⟩) (X.d (k := 103) rfl) Y
    replace hM := mE hM h3_15
    by_cases h3_16 : i3 = 16
    · replace hM := mI hM h3_16
      refine r_tabIn X 229 13 rfl (16 : Int32) h3_16 (by decide) rfl (by decide) ?_
      refine r_iconst (pc' := 230) X (0 : Int32) 102 rfl rfl rfl ?_
      exact RT ((0 : Int32), (u2_left, u2_numbers)) _ _ _ _ _ hM (Or.inl ⟨rfl, rfl, _, rfl⟩) (X.d (k := 103) rfl) Y
    replace hM := mE hM h3_16
    by_cases h3_17 : i3 = 17
    · replace hM := mI hM h3_17
      refine r_tabIn X 229 13 rfl (17 : Int32) h3_17 (by decide) rfl (by decide) ?_
      refine r_iconst (pc' := 230) X (0 : Int32) 102 rfl rfl rfl ?_
      exact RT ((0 : Int32), (u2_left, u2_numbers)) _ _ _ _ _ hM (Or.inl ⟨rfl, rfl, _, rfl⟩) (X.d (k := 103) rfl) Y
    replace hM := mE hM h3_17
    by_cases h3_18 : i3 = 18
    · replace hM := mI hM h3_18
      refine r_tabIn X 229 13 rfl (18 : Int32) h3_18 (by decide) rfl (by decide) ?_
      refine r_iconst (pc' := 230) X (0 : Int32) 102 rfl rfl rfl ?_
      exact RT ((0 : Int32), (u2_left, u2_numbers)) _ _ _ _ _ hM (Or.inl ⟨rfl, rfl, _, rfl⟩) (X.d (k := 103) rfl) Y
    replace hM := mE hM h3_18
    by_cases h3_19 : i3 = 19
    · replace hM := mI hM h3_19
      refine r_tabIn X 229 13 rfl (19 : Int32) h3_19 (by decide) rfl (by decide) ?_
      refine r_iconst (pc' := 230) X (0 : Int32) 102 rfl rfl rfl ?_
      exact RT ((0 : Int32), (u2_left, u2_numbers)) _ _ _ _ _ hM (Or.inl ⟨rfl, rfl, _, rfl⟩) (X.d (k := 103) rfl) Y
    replace hM := mE hM h3_19
    by_cases h3_20 : i3 = 20
    · replace hM := mI hM h3_20
      refine r_tabIn X 162 13 rfl (20 : Int32) h3_20 (by decide) rfl (by decide) ?_
      refine r_iload_n (pc' := 163) X hl 3 rfl rfl 58 rfl rfl ?_
      exact RT (i2, (u2_left, u2_numbers)) _ _ _ _ _ hM (Or.inl ⟨rfl, rfl, _, rfl⟩) (X.d (k := 59) rfl) Y
    replace hM := mE hM h3_20
    by_cases h3_21 : i3 = 21
    · replace hM := mI hM h3_21
      refine r_tabIn X 164 13 rfl (21 : Int32) h3_21 (by decide) rfl (by decide) ?_
      refine r_aload_n (pc' := 165) X hl 1 rfl rfl 60 rfl rfl ?_
      refine r_aload_n (pc' := 166) X hl 2 rfl rfl 61 rfl rfl ?_
      refine r_iload_n (pc' := 167) X hl 3 rfl rfl 62 rfl rfl ?_
      refine r_bipush (pc' := 169) X (20 : Int32) 63 rfl rfl rfl ?_
      refine r_iload (pc' := 171) X hl 0 rfl 64 rfl rfl ?_
      refine r_callS (pc' := 174) (As := [.ref a0, .ref a1, .int i2, .int (20 : Int32), .int (i4 + (1 : Int32))]) (rest := []) (wr := ([] : va_W)) X Y 65 rfl rfl mRX1_35 (c_X1_begun_1 l G a0 a1 a0_numbers a1_firms a1_kindsTold a1_places a1_crowds a1_pipsLeft a1_notHome u2_left u2_numbers S1_points S1_home S1_men S1_turn S1_thrower S1_cube S1_owner S1_firms S1_kindsTold S1_places S1_crowds S1_pipsLeft S1_notHome i2 (20 : Int32) ((i4 + (1 : Int32)))) (mB hM hne) rfl [0, 1, 2, 3, 4, 5, 6, 7, 8] [] [0, 1, 2, 3, 4, 5, 6, 7, 8] rfl rfl ⟨rfl, rfl, rfl⟩ rfl (w2 := fun u10 => wAS G a0 a0_numbers u10.2.1 u10.2.2 ++ wBD G a1 a1_firms a1_kindsTold a1_places a1_crowds a1_pipsLeft a1_notHome S1_points S1_home S1_men S1_turn S1_thrower S1_cube S1_owner S1_firms S1_kindsTold S1_places S1_crowds S1_pipsLeft S1_notHome) (fun _ => rfl) rfl (Nat.le_of_ble_eq_true rfl) ⟨rfl, rfl⟩ ⟨Nat.le_of_ble_eq_true rfl, Nat.le_of_ble_eq_true rfl⟩ ⟨Nat.zero_le _, Nat.zero_le _⟩ hl.1 (st' := fun u10 => [.int u10.1]) (fun _ => rfl) (fun u10 H locs huu10 Y => ?_)
      obtain ⟨u10_1, ⟨u10_2_left, u10_2_numbers⟩⟩ := u10
      replace Y : rY G A s (wAS G a0 a0_numbers u10_2_left u10_2_numbers ++ wBD G a1 a1_firms a1_kindsTold a1_places a1_crowds a1_pipsLeft a1_notHome S1_points S1_home S1_men S1_turn S1_thrower S1_cube S1_owner S1_firms S1_kindsTold S1_places S1_crowds S1_pipsLeft S1_notHome) H locs := Y
      replace hM := mS hM huu10
      show W p l e q_X1_begun_2 s m args below meth c H locs 0 0 Q (F0 m 174 ls [.int u10_1])
      refine r_aload_n (pc' := 175) X hl 2 rfl rfl 66 rfl rfl ?_
      refine r_getN (pc' := 178) (v := .int S1_cube) X Y 67 rfl rfl fRX1_52 2 rfl rfl ?_
      refine r_iadd (pc' := 179) X 68 rfl rfl ?_
      exact RT ((u10_1 + S1_cube), (u10_2_left, u10_2_numbers)) _ _ _ _ _ hM (Or.inl ⟨rfl, rfl, _, rfl⟩) (X.d (k := 69) rfl) Y
    replace hM := mE hM h3_21
    by_cases h3_22 : i3 = 22
    · replace hM := mI hM h3_22
      refine r_tabIn X 180 13 rfl (22 : Int32) h3_22 (by decide) rfl (by decide) ?_
      refine r_aload_n (pc' := 181) X hl 1 rfl rfl 70 rfl rfl ?_
      refine r_aload_n (pc' := 182) X hl 2 rfl rfl 71 rfl rfl ?_
      refine r_iload_n (pc' := 183) X hl 3 rfl rfl 72 rfl rfl ?_
      refine r_bipush (pc' := 185) X (21 : Int32) 73 rfl rfl rfl ?_
      refine r_iload (pc' := 187) X hl 0 rfl 74 rfl rfl ?_
      refine r_callS (pc' := 190) (As := [.ref a0, .ref a1, .int i2, .int (21 : Int32), .int (i4 + (1 : Int32))]) (rest := []) (wr := ([] : va_W)) X Y 75 rfl rfl mRX1_35 (c_X1_begun_1 l G a0 a1 a0_numbers a1_firms a1_kindsTold a1_places a1_crowds a1_pipsLeft a1_notHome u2_left u2_numbers S1_points S1_home S1_men S1_turn S1_thrower S1_cube S1_owner S1_firms S1_kindsTold S1_places S1_crowds S1_pipsLeft S1_notHome i2 (21 : Int32) ((i4 + (1 : Int32)))) (mB hM hne) rfl [0, 1, 2, 3, 4, 5, 6, 7, 8] [] [0, 1, 2, 3, 4, 5, 6, 7, 8] rfl rfl ⟨rfl, rfl, rfl⟩ rfl (w2 := fun u11 => wAS G a0 a0_numbers u11.2.1 u11.2.2 ++ wBD G a1 a1_firms a1_kindsTold a1_places a1_crowds a1_pipsLeft a1_notHome S1_points S1_home S1_men S1_turn S1_thrower S1_cube S1_owner S1_firms S1_kindsTold S1_places S1_crowds S1_pipsLeft S1_notHome) (fun _ => rfl) rfl (Nat.le_of_ble_eq_true rfl) ⟨rfl, rfl⟩ ⟨Nat.le_of_ble_eq_true rfl, Nat.le_of_ble_eq_true rfl⟩ ⟨Nat.zero_le _, Nat.zero_le _⟩ hl.1 (st' := fun u11 => [.int u11.1]) (fun _ => rfl) (fun u11 H locs huu11 Y => ?_)
      obtain ⟨u11_1, ⟨u11_2_left, u11_2_numbers⟩⟩ := u11
      replace Y : rY G A s (wAS G a0 a0_numbers u11_2_left u11_2_numbers ++ wBD G a1 a1_firms a1_kindsTold a1_places a1_crowds a1_pipsLeft a1_notHome S1_points S1_home S1_men S1_turn S1_thrower S1_cube S1_owner S1_firms S1_kindsTold S1_places S1_crowds S1_pipsLeft S1_notHome) H locs := Y
      replace hM := mS hM huu11
      show W p l e q_X1_begun_2 s m args below meth c H locs 0 0 Q (F0 m 190 ls [.int u11_1])
      refine r_sipush (pc' := 193) X (1000 : Int32) 76 rfl rfl rfl ?_
      refine r_isub (pc' := 194) X 77 rfl rfl ?_
      exact RT ((u11_1 - (1000 : Int32)), (u11_2_left, u11_2_numbers)) _ _ _ _ _ hM (Or.inl ⟨rfl, rfl, _, rfl⟩) (X.d (k := 78) rfl) Y
    replace hM := mE hM h3_22
    by_cases h3_23 : i3 = 23
    · replace hM := mI hM h3_23
      refine r_tabIn X 195 13 rfl (23 : Int32) h3_23 (by decide) rfl (by decide) ?_
      refine r_aload_n (pc' := 196) X hl 1 rfl rfl 79 rfl rfl ?_
      refine r_aload_n (pc' := 197) X hl 2 rfl rfl 80 rfl rfl ?_
      refine r_iload_n (pc' := 198) X hl 3 rfl rfl 81 rfl rfl ?_
      refine r_bipush (pc' := 200) X (20 : Int32) 82 rfl rfl rfl ?_
      refine r_iload (pc' := 202) X hl 0 rfl 83 rfl rfl ?_
      refine r_callS (pc' := 205) (As := [.ref a0, .ref a1, .int i2, .int (20 : Int32), .int (i4 + (1 : Int32))]) (rest := []) (wr := ([] : va_W)) X Y 84 rfl rfl mRX1_35 (c_X1_begun_1 l G a0 a1 a0_numbers a1_firms a1_kindsTold a1_places a1_crowds a1_pipsLeft a1_notHome u2_left u2_numbers S1_points S1_home S1_men S1_turn S1_thrower S1_cube S1_owner S1_firms S1_kindsTold S1_places S1_crowds S1_pipsLeft S1_notHome i2 (20 : Int32) ((i4 + (1 : Int32)))) (mB hM hne) rfl [0, 1, 2, 3, 4, 5, 6, 7, 8] [] [0, 1, 2, 3, 4, 5, 6, 7, 8] rfl rfl ⟨rfl, rfl, rfl⟩ rfl (w2 := fun u12 => wAS G a0 a0_numbers u12.2.1 u12.2.2 ++ wBD G a1 a1_firms a1_kindsTold a1_places a1_crowds a1_pipsLeft a1_notHome S1_points S1_home S1_men S1_turn S1_thrower S1_cube S1_owner S1_firms S1_kindsTold S1_places S1_crowds S1_pipsLeft S1_notHome) (fun _ => rfl) rfl (Nat.le_of_ble_eq_true rfl) ⟨rfl, rfl⟩ ⟨Nat.le_of_ble_eq_true rfl, Nat.le_of_ble_eq_true rfl⟩ ⟨Nat.zero_le _, Nat.zero_le _⟩ hl.1 (st' := fun u12 => [.int u12.1]) (fun _ => rfl) (fun u12 H locs huu12 Y => ?_)
      obtain ⟨u12_1, ⟨u12_2_left, u12_2_numbers⟩⟩ := u12
      replace Y : rY G A s (wAS G a0 a0_numbers u12_2_left u12_2_numbers ++ wBD G a1 a1_firms a1_kindsTold a1_places a1_crowds a1_pipsLeft a1_notHome S1_points S1_home S1_men S1_turn S1_thrower S1_cube S1_owner S1_firms S1_kindsTold S1_places S1_crowds S1_pipsLeft S1_notHome) H locs := Y
      replace hM := mS hM huu12
      show W p l e q_X1_begun_2 s m args below meth c H locs 0 0 Q (F0 m 205 ls [.int u12_1])
      refine r_aload_n (pc' := 206) X hl 1 rfl rfl 85 rfl rfl ?_
      refine r_aload_n (pc' := 207) X hl 2 rfl rfl 86 rfl rfl ?_
      refine r_iload_n (pc' := 208) X hl 3 rfl rfl 87 rfl rfl ?_
      refine r_iconst (pc' := 209) X (0 : Int32) 88 rfl rfl rfl ?_
      refine r_iload (pc' := 211) X hl 0 rfl 89 rfl rfl ?_
      refine r_callS (pc' := 214) (As := [.ref a0, .ref a1, .int i2, .int (0 : Int32), .int (i4 + (1 : Int32))]) (rest := [.int u12_1]) (wr := ([] : va_W)) X Y 90 rfl rfl mRX1_19 (c_X1_anew_1 l G a0 a1 a1_firms a1_kindsTold a1_places a1_crowds a1_pipsLeft a1_notHome a0_numbers S1_points S1_home S1_men S1_turn S1_thrower S1_cube S1_owner S1_firms S1_kindsTold S1_places S1_crowds S1_pipsLeft S1_notHome u12_2_left u12_2_numbers i2 (0 : Int32) ((i4 + (1 : Int32)))) (mB hM hne) rfl [2, 3, 4, 5, 6, 7, 8, 0, 1] [] [7, 8, 0, 1, 2, 3, 4, 5, 6] rfl rfl ⟨rfl, rfl, rfl⟩ rfl (w2 := fun u13 => wAS G a0 a0_numbers u13.2.1 u13.2.2 ++ wBD G a1 a1_firms a1_kindsTold a1_places a1_crowds a1_pipsLeft a1_notHome S1_points S1_home S1_men S1_turn S1_thrower S1_cube S1_owner S1_firms S1_kindsTold S1_places S1_crowds S1_pipsLeft S1_notHome) (fun _ => rfl) rfl (Nat.le_of_ble_eq_true rfl) ⟨rfl, rfl⟩ ⟨Nat.le_of_ble_eq_true rfl, Nat.le_of_ble_eq_true rfl⟩ ⟨Nat.zero_le _, Nat.zero_le _⟩ hl.1 (st' := fun u13 => [.int u13.1, .int u12_1]) (fun _ => rfl) (fun u13 H locs huu13 Y => ?_)
      obtain ⟨u13_1, ⟨u13_2_left, u13_2_numbers⟩⟩ := u13
      replace Y : rY G A s (wAS G a0 a0_numbers u13_2_left u13_2_numbers ++ wBD G a1 a1_firms a1_kindsTold a1_places a1_crowds a1_pipsLeft a1_notHome S1_points S1_home S1_men S1_turn S1_thrower S1_cube S1_owner S1_firms S1_kindsTold S1_places S1_crowds S1_pipsLeft S1_notHome) H locs := Y
      replace hM := mS hM huu13
      show W p l e q_X1_begun_2 s m args below meth c H locs 0 0 Q (F0 m 214 ls [.int u13_1, .int u12_1])
      refine r_isub (pc' := 215) X 91 rfl rfl ?_
      exact RT ((u12_1 - u13_1), (u13_2_left, u13_2_numbers)) _ _ _ _ _ hM (Or.inl ⟨rfl, rfl, _, rfl⟩) (X.d (k := 92) rfl) Y
    replace hM := mE hM h3_23
    by_cases h3_24 : i3 = 24
    · replace hM := mI hM h3_24
      refine r_tabIn X 216 13 rfl (24 : Int32) h3_24 (by decide) rfl (by decide) ?_
      refine r_iconst (pc' := 217) X (2 : Int32) 93 rfl rfl rfl ?_
      refine r_aload_n (pc' := 218) X hl 1 rfl rfl 94 rfl rfl ?_
      refine r_aload_n (pc' := 219) X hl 2 rfl rfl 95 rfl rfl ?_
      refine r_iload_n (pc' := 220) X hl 3 rfl rfl 96 rfl rfl ?_
      refine r_bipush (pc' := 222) X (21 : Int32) 97 rfl rfl rfl ?_
      refine r_iload (pc' := 224) X hl 0 rfl 98 rfl rfl ?_
      refine r_callS (pc' := 227) (As := [.ref a0, .ref a1, .int i2, .int (21 : Int32), .int (i4 + (1 : Int32))]) (rest := [.int (2 : Int32)]) (wr := ([] : va_W)) X Y 99 rfl rfl mRX1_35 (c_X1_begun_1 l G a0 a1 a0_numbers a1_firms a1_kindsTold a1_places a1_crowds a1_pipsLeft a1_notHome u2_left u2_numbers S1_points S1_home S1_men S1_turn S1_thrower S1_cube S1_owner S1_firms S1_kindsTold S1_places S1_crowds S1_pipsLeft S1_notHome i2 (21 : Int32) ((i4 + (1 : Int32)))) (mB hM hne) rfl [0, 1, 2, 3, 4, 5, 6, 7, 8] [] [0, 1, 2, 3, 4, 5, 6, 7, 8] rfl rfl ⟨rfl, rfl, rfl⟩ rfl (w2 := fun u14 => wAS G a0 a0_numbers u14.2.1 u14.2.2 ++ wBD G a1 a1_firms a1_kindsTold a1_places a1_crowds a1_pipsLeft a1_notHome S1_points S1_home S1_men S1_turn S1_thrower S1_cube S1_owner S1_firms S1_kindsTold S1_places S1_crowds S1_pipsLeft S1_notHome) (fun _ => rfl) rfl (Nat.le_of_ble_eq_true rfl) ⟨rfl, rfl⟩ ⟨Nat.le_of_ble_eq_true rfl, Nat.le_of_ble_eq_true rfl⟩ ⟨Nat.zero_le _, Nat.zero_le _⟩ hl.1 (st' := fun u14 => [.int u14.1, .int (2 : Int32)]) (fun _ => rfl) (fun u14 H locs huu14 Y => ?_)
      obtain ⟨u14_1, ⟨u14_2_left, u14_2_numbers⟩⟩ := u14
      replace Y : rY G A s (wAS G a0 a0_numbers u14_2_left u14_2_numbers ++ wBD G a1 a1_firms a1_kindsTold a1_places a1_crowds a1_pipsLeft a1_notHome S1_points S1_home S1_men S1_turn S1_thrower S1_cube S1_owner S1_firms S1_kindsTold S1_places S1_crowds S1_pipsLeft S1_notHome) H locs := Y
      replace hM := mS hM huu14
      show W p l e q_X1_begun_2 s m args below meth c H locs 0 0 Q (F0 m 227 ls [.int u14_1, .int (2 : Int32)])
      refine r_imul (pc' := 228) X 100 rfl rfl ?_
      exact RT (((2 : Int32) * u14_1), (u14_2_left, u14_2_numbers)) _ _ _ _ _ hM (Or.inl ⟨rfl, rfl, _, rfl⟩) (X.d (k := 101) rfl) Y
    replace hM := mE hM h3_24
    refine r_tabOut X 229 13 rfl ((tsw (x := i3) 10 15 (fun k hk => match k, hk with | 0, _ => h3_10 | 1, _ => h3_11 | 2, _ => h3_12 | 3, _ => h3_13 | 4, _ => h3_14 | 5, _ => h3_15 | 6, _ => h3_16 | 7, _ => h3_17 | 8, _ => h3_18 | 9, _ => h3_19 | 10, _ => h3_20 | 11, _ => h3_21 | 12, _ => h3_22 | 13, _ => h3_23 | 14, _ => h3_24) (by decide)).imp id (fun z => Int.lt_of_lt_of_le (by decide) z)) (by decide) ?_
    refine r_iconst (pc' := 230) X (0 : Int32) 102 rfl rfl rfl ?_
    exact RT ((0 : Int32), (u2_left, u2_numbers)) _ _ _ _ _ hM (Or.inl ⟨rfl, rfl, _, rfl⟩) (X.d (k := 103) rfl) Y
  · replace hM := mE hM c1
    refine r_iconst (pc' := 8) X (0 : Int32) 3 rfl rfl rfl ?_
    exact RT ((0 : Int32), (S0_left, S0_numbers)) _ _ _ _ _ hM (Or.inl ⟨rfl, rfl, _, rfl⟩) (X.d (k := 4) rfl) Y

def M_X1_anew_2 (S0 : BD) (S1 : AS) (i2 : Int32) (i3 : Int32) (i4 : Int32) : Option (Int32 × AS) :=
  (if inb i2 8 = true then ((M_X1_bodyTold i3 (((bd_kindsTold S0) (i2).toNatClampNeg))).bind (fun u2 => ((lp (σ := Int32 × Int32 × Int32) (β := Int32) (fun rec3 st3 => (if (6 : Int32) ≤ st3.2.2 then (some st3.2.1) else (if st3.2.1 = 0 then (if inb st3.1 6 = true then ((M_X1_bodyTold i3 ((kx0 (st3.1).toNatClampNeg))).bind (fun u8 => (rec3 ((kx0 (st3.1).toNatClampNeg), u8, (st3.2.2 + (1 : Int32)))))) else none) else (some st3.2.1)))) 1000000 (((bd_kindsTold S0) (i2).toNatClampNeg), u2, (0 : Int32))).bind (fun b3 => ((M_X1_begun_2 S1 S0 i2 b3 i4).bind (fun u4 => (some (u4.1, u4.2)))))))) else none)
def q_X1_anew_2 : Room := { frames := 7, cells := 0, slots := 0, locals := 211 }
set_option maxHeartbeats 4000000 in
set_option maxRecDepth 100000 in
theorem c_X1_anew_2 (l : Launch) (G : gT) (a0 a1 a1_firms a1_kindsTold a1_places a1_crowds a1_pipsLeft a1_notHome a0_numbers : Nat) (S0_points : Int32) (S0_home : Int32) (S0_men : Int32) (S0_turn : Int32) (S0_thrower : Int32) (S0_cube : Int32) (S0_owner : Int32) (S0_firms : Nat → Int32) (S0_kindsTold : Nat → Int32) (S0_places : Nat → Int32) (S0_crowds : Nat → Int32) (S0_pipsLeft : Nat → Int32) (S0_notHome : Nat → Int32) (S1_left : Int32) (S1_numbers : Nat → Int32) (i2 : Int32) (i3 : Int32) (i4 : Int32) : CT l G yX1_anew cX1_anew 8 (some .int) q_X1_anew_2 [.ref a0, .ref a1, .int i2, .int i3, .int i4] (wBD G a1 a1_firms a1_kindsTold a1_places a1_crowds a1_pipsLeft a1_notHome S0_points S0_home S0_men S0_turn S0_thrower S0_cube S0_owner S0_firms S0_kindsTold S0_places S0_crowds S0_pipsLeft S0_notHome ++ wAS G a0 a0_numbers S1_left S1_numbers) (M_X1_anew_2 (S0_points, S0_home, S0_men, S0_turn, S0_thrower, S0_cube, S0_owner, S0_firms, S0_kindsTold, S0_places, S0_crowds, S0_pipsLeft, S0_notHome) (S1_left, S1_numbers) i2 i3 i4) (fun u => some (.int u.1)) (fun u => wBD G a1 a1_firms a1_kindsTold a1_places a1_crowds a1_pipsLeft a1_notHome S0_points S0_home S0_men S0_turn S0_thrower S0_cube S0_owner S0_firms S0_kindsTold S0_places S0_crowds S0_pipsLeft S0_notHome ++ wAS G a0 a0_numbers u.2.1 u.2.2) := by
  refine CT.of (P := PX1_anew) (by decide) dPX1_anew (Nat.le_of_ble_eq_true rfl) ?_
  intro p e s m args below meth c A Q ls hne X RT Y hl
  have hl : lv_has ls 8 [(0, .ref a0), (1, .ref a1), (2, .int i2), (3, .int i3), (4, .int i4)] := hl
  generalize hM : M_X1_anew_2 (S0_points, S0_home, S0_men, S0_turn, S0_thrower, S0_cube, S0_owner, S0_firms, S0_kindsTold, S0_places, S0_crowds, S0_pipsLeft, S0_notHome) (S1_left, S1_numbers) i2 i3 i4 = MM at hne RT
  unfold M_X1_anew_2 at hM
  refine r_aload_n (pc' := 1) X hl 1 rfl rfl 0 rfl rfl ?_
  refine r_getN (pc' := 4) (v := .ref a1_kindsTold) X Y 1 rfl rfl fRX1_23 0 rfl rfl ?_
  refine r_iload_n (pc' := 5) X hl 2 rfl rfl 2 rfl rfl ?_
  obtain ⟨g1, hM⟩ := mG hM hne
  refine r_iald (pc' := 6) X Y 3 rfl rfl 2 rfl (vin g1) ?_
  refine r_istore (pc' := 8) (L' := [(5, .int (S0_kindsTold (i2).toNatClampNeg)), (0, .ref a0), (1, .ref a1), (2, .int i2), (3, .int i3), (4, .int i4)]) X hl 4 rfl rfl (by decide) rfl (fun ls hl => ?_)
  refine r_iload_n (pc' := 9) X hl 4 rfl rfl 5 rfl rfl ?_
  refine r_iload (pc' := 11) X hl 0 rfl 6 rfl rfl ?_
  refine r_callS0 (pc' := 14) (As := [.int i3, .int (S0_kindsTold (i2).toNatClampNeg)]) (rest := []) X Y 7 rfl rfl mRX1_28 (c_X1_bodyTold l G i3 ((S0_kindsTold (i2).toNatClampNeg))) (mB hM hne) rfl [] rfl rfl rfl (Nat.le_of_ble_eq_true rfl) ⟨rfl, rfl⟩ ⟨Nat.le_of_ble_eq_true rfl, Nat.le_of_ble_eq_true rfl⟩ ⟨Nat.zero_le _, Nat.zero_le _⟩ hl.1 (st' := fun u2 => [.int u2]) (fun _ => rfl) (fun u2 H locs huu2 Y => ?_)
  replace hM := mS hM huu2
  refine r_istore (pc' := 16) (L' := [(6, .int u2), (5, .int (S0_kindsTold (i2).toNatClampNeg)), (0, .ref a0), (1, .ref a1), (2, .int i2), (3, .int i3), (4, .int i4)]) X hl 8 rfl rfl (by decide) rfl (fun ls hl => ?_)
  refine r_iconst (pc' := 17) X (0 : Int32) 9 rfl rfl rfl ?_
  refine r_istore (pc' := 19) (L' := [(7, .int (0 : Int32)), (6, .int u2), (5, .int (S0_kindsTold (i2).toNatClampNeg)), (0, .ref a0), (1, .ref a1), (2, .int i2), (3, .int i3), (4, .int i4)]) X hl 10 rfl rfl (by decide) rfl (fun ls hl => ?_)
  obtain ⟨LL3, hL3, hne3, hX3⟩ := mL hM hne
  have KX3 : ∀ (b3 : Int32) (H : Heap) (locs : List Loc) (ls : Array Slot), some b3 = LL3 → rY G A s (wBD G a1 a1_firms a1_kindsTold a1_places a1_crowds a1_pipsLeft a1_notHome S0_points S0_home S0_men S0_turn S0_thrower S0_cube S0_owner S0_firms S0_kindsTold S0_places S0_crowds S0_pipsLeft S0_notHome ++ wAS G a0 a0_numbers S1_left S1_numbers) H locs → lv_has ls 8 [(0, .ref a0), (1, .ref a1), (2, .int i2), (4, .int i4), (6, .int b3)] → W p l e q_X1_anew_2 s m args below meth c H locs 0 0 Q (F0 m 53 ls []) := by
    intro b3 H locs ls hM Y hl
    replace hM := hX3 _ hM
    refine r_aload_n (pc' := 54) X hl 0 rfl rfl 26 rfl rfl ?_
    refine r_aload_n (pc' := 55) X hl 1 rfl rfl 27 rfl rfl ?_
    refine r_iload_n (pc' := 56) X hl 2 rfl rfl 28 rfl rfl ?_
    refine r_iload (pc' := 58) X hl 4 rfl 29 rfl rfl ?_
    refine r_iload (pc' := 60) X hl 3 rfl 30 rfl rfl ?_
    refine r_callS (pc' := 63) (As := [.ref a0, .ref a1, .int i2, .int b3, .int i4]) (rest := []) (wr := ([] : va_W)) X Y 31 rfl rfl mRX1_35 (c_X1_begun_2 l G a0 a1 a0_numbers a1_firms a1_kindsTold a1_places a1_crowds a1_pipsLeft a1_notHome S1_left S1_numbers S0_points S0_home S0_men S0_turn S0_thrower S0_cube S0_owner S0_firms S0_kindsTold S0_places S0_crowds S0_pipsLeft S0_notHome i2 b3 i4) (mB hM hne) rfl [7, 8, 0, 1, 2, 3, 4, 5, 6] [] [2, 3, 4, 5, 6, 7, 8, 0, 1] rfl rfl ⟨rfl, rfl, rfl⟩ rfl (w2 := fun u4 => wBD G a1 a1_firms a1_kindsTold a1_places a1_crowds a1_pipsLeft a1_notHome S0_points S0_home S0_men S0_turn S0_thrower S0_cube S0_owner S0_firms S0_kindsTold S0_places S0_crowds S0_pipsLeft S0_notHome ++ wAS G a0 a0_numbers u4.2.1 u4.2.2) (fun _ => rfl) rfl (Nat.le_of_ble_eq_true rfl) ⟨rfl, rfl⟩ ⟨Nat.le_of_ble_eq_true rfl, Nat.le_of_ble_eq_true rfl⟩ ⟨Nat.zero_le _, Nat.zero_le _⟩ hl.1 (st' := fun u4 => [.int u4.1]) (fun _ => rfl) (fun u4 H locs huu4 Y => ?_)
    obtain ⟨u4_1, ⟨u4_2_left, u4_2_numbers⟩⟩ := u4
    replace Y : rY G A s (wBD G a1 a1_firms a1_kindsTold a1_places a1_crowds a1_pipsLeft a1_notHome S0_points S0_home S0_men S0_turn S0_thrower S0_cube S0_owner S0_firms S0_kindsTold S0_places S0_crowds S0_pipsLeft S0_notHome ++ wAS G a0 a0_numbers u4_2_left u4_2_numbers) H locs := Y
    replace hM := mS hM huu4
    show W p l e q_X1_anew_2 s m args below meth c H locs 0 0 Q (F0 m 63 ls [.int u4_1])
    exact RT (u4_1, (u4_2_left, u4_2_numbers)) _ _ _ _ _ hM (Or.inl ⟨rfl, rfl, _, rfl⟩) (X.d (k := 32) rfl) Y
  refine lp_rule (I := fun (st3 : Int32 × Int32 × Int32) => ∀ (H : Heap) (locs : List Loc) (ls : Array Slot), rY G A s (wBD G a1 a1_firms a1_kindsTold a1_places a1_crowds a1_pipsLeft a1_notHome S0_points S0_home S0_men S0_turn S0_thrower S0_cube S0_owner S0_firms S0_kindsTold S0_places S0_crowds S0_pipsLeft S0_notHome ++ wAS G a0 a0_numbers S1_left S1_numbers) H locs → lv_has ls 8 [(0, .ref a0), (1, .ref a1), (2, .int i2), (3, .int i3), (4, .int i4), (5, .int st3.1), (6, .int st3.2.1), (7, .int st3.2.2)] → W p l e q_X1_anew_2 s m args below meth c H locs 0 0 Q (F0 m 19 ls [])) hne3 (fun rec3 st3 IH3 hM => ?_) _ _ hL3 _ _ _ Y (lv_sub hl [3, 4, 5, 6, 7, 2, 1, 0] rfl)
  intro H locs ls Y hl
  obtain ⟨st3_1, st3_2_1, st3_2_2⟩ := st3
  replace Y : rY G A s (wBD G a1 a1_firms a1_kindsTold a1_places a1_crowds a1_pipsLeft a1_notHome S0_points S0_home S0_men S0_turn S0_thrower S0_cube S0_owner S0_firms S0_kindsTold S0_places S0_crowds S0_pipsLeft S0_notHome ++ wAS G a0 a0_numbers S1_left S1_numbers) H locs := Y
  replace hl : lv_has ls 8 [(0, .ref a0), (1, .ref a1), (2, .int i2), (3, .int i3), (4, .int i4), (5, .int st3_1), (6, .int st3_2_1), (7, .int st3_2_2)] := hl
  refine r_iload (pc' := 21) X hl 7 rfl 11 rfl rfl ?_
  refine r_bipush (pc' := 23) X (6 : Int32) 12 rfl rfl rfl ?_
  refine r_icmp_ge (pc' := 26) X 53 13 rfl rfl (by decide) (fun c5 => ?_) (fun c5 => ?_)
  · replace hM := mI hM c5
    exact KX3 st3_2_1 _ _ _ hM Y (lv_sub hl [0, 1, 2, 4, 6] rfl)
  · replace hM := mE hM c5
    refine r_iload (pc' := 28) X hl 6 rfl 14 rfl rfl ?_
    refine r_if_ne (pc' := 31) X 53 15 rfl rfl (by decide) (fun c6 => ?_) (fun c6 => ?_)
    · replace hM := mE hM c6
      exact KX3 st3_2_1 _ _ _ hM Y (lv_sub hl [0, 1, 2, 4, 6] rfl)
    · replace hM := mI hM c6
      refine r_getsN_kab (pc' := 34) X Y 16 rfl rfl nw45 ?_
      refine r_iload (pc' := 36) X hl 5 rfl 17 rfl rfl ?_
      obtain ⟨g7, hM⟩ := mG hM hne3
      refine r_sld_kab (pc' := 37) X Y 18 rfl rfl (vin g7) ?_
      refine r_istore (pc' := 39) (L' := [(5, .int (kx0 (st3_1).toNatClampNeg)), (0, .ref a0), (1, .ref a1), (2, .int i2), (3, .int i3), (4, .int i4), (6, .int st3_2_1), (7, .int st3_2_2)]) X hl 19 rfl rfl (by decide) rfl (fun ls hl => ?_)
      refine r_iload_n (pc' := 40) X hl 4 rfl rfl 20 rfl rfl ?_
      refine r_iload (pc' := 42) X hl 0 rfl 21 rfl rfl ?_
      refine r_callS0 (pc' := 45) (As := [.int i3, .int (kx0 (st3_1).toNatClampNeg)]) (rest := []) X Y 22 rfl rfl mRX1_28 (c_X1_bodyTold l G i3 ((kx0 (st3_1).toNatClampNeg))) (mB hM hne3) rfl [] rfl rfl rfl (Nat.le_of_ble_eq_true rfl) ⟨rfl, rfl⟩ ⟨Nat.le_of_ble_eq_true rfl, Nat.le_of_ble_eq_true rfl⟩ ⟨Nat.zero_le _, Nat.zero_le _⟩ hl.1 (st' := fun u8 => [.int u8]) (fun _ => rfl) (fun u8 H locs huu8 Y => ?_)
      replace hM := mS hM huu8
      refine r_istore (pc' := 47) (L' := [(6, .int u8), (5, .int (kx0 (st3_1).toNatClampNeg)), (0, .ref a0), (1, .ref a1), (2, .int i2), (3, .int i3), (4, .int i4), (7, .int st3_2_2)]) X hl 23 rfl rfl (by decide) rfl (fun ls hl => ?_)
      refine r_iinc (pc' := 50) (L' := [(7, .int (st3_2_2 + (1 : Int32))), (6, .int u8), (5, .int (kx0 (st3_1).toNatClampNeg)), (0, .ref a0), (1, .ref a1), (2, .int i2), (3, .int i3), (4, .int i4)]) X (st3_2_2 + (1 : Int32)) hl 7 rfl rfl 24 rfl rfl (by decide) rfl (fun ls hl => ?_)
      refine r_goto X 19 25 rfl (by decide) ?_
      exact IH3 _ hM _ _ _ Y (lv_sub hl [3, 4, 5, 6, 7, 2, 1, 0] rfl)

def M_X1_begun_3 (S0 : AS) (S1 : BD) (i2 : Int32) (i3 : Int32) (i4 : Int32) : Option (Int32 × AS) :=
  (if i4 ≤ (20 : Int32) then ((M_X1_leave S0 i3).bind (fun u2 => (if i3 = 10 then ((M_X2_pipsOf S1 i2).bind (fun u4 => (some (u4, u2)))) else (if i3 = 11 then ((M_X1_begun_2 u2 S1 i2 (10 : Int32) ((i4 + (1 : Int32)))).bind (fun u5 => ((M_X1_anew_2 S1 u5.2 i2 (1 : Int32) ((i4 + (1 : Int32)))).bind (fun u6 => (some ((u5.1 + u6.1), u6.2)))))) else (if i3 = 12 then ((M_X1_begun_2 u2 S1 i2 (11 : Int32) ((i4 + (1 : Int32)))).bind (fun u7 => (some ((-u7.1), u7.2)))) else (if i3 = 13 then ((M_X1_begun_2 u2 S1 i2 (10 : Int32) ((i4 + (1 : Int32)))).bind (fun u8 => (some ((u8.1 - (100 : Int32)), u8.2)))) else (if i3 = 14 then ((M_X1_begun_2 u2 S1 i2 (13 : Int32) ((i4 + (1 : Int32)))).bind (fun u9 => (some (((2 : Int32) * u9.1), u9.2)))) else (if i3 = 15 then (some ((0 : Int32), u2)) else (if i3 = 16 then (some ((0 : Int32), u2)) else (if i3 = 17 then (some ((0 : Int32), u2)) else (if i3 = 18 then (some ((0 : Int32), u2)) else (if i3 = 19 then (some ((0 : Int32), u2)) else (if i3 = 20 then (some (i2, u2)) else (if i3 = 21 then ((M_X1_begun_2 u2 S1 i2 (20 : Int32) ((i4 + (1 : Int32)))).bind (fun u10 => (some ((u10.1 + (bd_cube S1)), u10.2)))) else (if i3 = 22 then ((M_X1_begun_2 u2 S1 i2 (21 : Int32) ((i4 + (1 : Int32)))).bind (fun u11 => (some ((u11.1 - (1000 : Int32)), u11.2)))) else (if i3 = 23 then ((M_X1_begun_2 u2 S1 i2 (20 : Int32) ((i4 + (1 : Int32)))).bind (fun u12 => ((M_X1_anew_2 S1 u12.2 i2 (0 : Int32) ((i4 + (1 : Int32)))).bind (fun u13 => (some ((u12.1 - u13.1), u13.2)))))) else (if i3 = 24 then ((M_X1_begun_2 u2 S1 i2 (21 : Int32) ((i4 + (1 : Int32)))).bind (fun u14 => (some (((2 : Int32) * u14.1), u14.2)))) else (some ((0 : Int32), u2))))))))))))))))))) else (some ((0 : Int32), S0)))
def q_X1_begun_3 : Room := { frames := 8, cells := 0, slots := 0, locals := 238 }
set_option maxHeartbeats 4000000 in
set_option maxRecDepth 100000 in
theorem c_X1_begun_3 (l : Launch) (G : gT) (a0 a1 a0_numbers a1_firms a1_kindsTold a1_places a1_crowds a1_pipsLeft a1_notHome : Nat) (S0_left : Int32) (S0_numbers : Nat → Int32) (S1_points : Int32) (S1_home : Int32) (S1_men : Int32) (S1_turn : Int32) (S1_thrower : Int32) (S1_cube : Int32) (S1_owner : Int32) (S1_firms : Nat → Int32) (S1_kindsTold : Nat → Int32) (S1_places : Nat → Int32) (S1_crowds : Nat → Int32) (S1_pipsLeft : Nat → Int32) (S1_notHome : Nat → Int32) (i2 : Int32) (i3 : Int32) (i4 : Int32) : CT l G yX1_begun cX1_begun 6 (some .int) q_X1_begun_3 [.ref a0, .ref a1, .int i2, .int i3, .int i4] (wAS G a0 a0_numbers S0_left S0_numbers ++ wBD G a1 a1_firms a1_kindsTold a1_places a1_crowds a1_pipsLeft a1_notHome S1_points S1_home S1_men S1_turn S1_thrower S1_cube S1_owner S1_firms S1_kindsTold S1_places S1_crowds S1_pipsLeft S1_notHome) (M_X1_begun_3 (S0_left, S0_numbers) (S1_points, S1_home, S1_men, S1_turn, S1_thrower, S1_cube, S1_owner, S1_firms, S1_kindsTold, S1_places, S1_crowds, S1_pipsLeft, S1_notHome) i2 i3 i4) (fun u => some (.int u.1)) (fun u => wAS G a0 a0_numbers u.2.1 u.2.2 ++ wBD G a1 a1_firms a1_kindsTold a1_places a1_crowds a1_pipsLeft a1_notHome S1_points S1_home S1_men S1_turn S1_thrower S1_cube S1_owner S1_firms S1_kindsTold S1_places S1_crowds S1_pipsLeft S1_notHome) := by
  refine CT.of (P := PX1_begun) (by decide) dPX1_begun (Nat.le_of_ble_eq_true rfl) ?_
  intro p e s m args below meth c A Q ls hne X RT Y hl
  have hl : lv_has ls 6 [(0, .ref a0), (1, .ref a1), (2, .int i2), (3, .int i3), (4, .int i4)] := hl
  generalize hM : M_X1_begun_3 (S0_left, S0_numbers) (S1_points, S1_home, S1_men, S1_turn, S1_thrower, S1_cube, S1_owner, S1_firms, S1_kindsTold, S1_places, S1_crowds, S1_pipsLeft, S1_notHome) i2 i3 i4 = MM at hne RT
  unfold M_X1_begun_3 at hM
  refine r_iload (pc' := 2) X hl 4 rfl 0 rfl rfl ?_
  refine r_bipush (pc' := 4) X (20 : Int32) 1 rfl rfl rfl ?_
  refine r_icmp_le (pc' := 7) X 9 2 rfl rfl (by decide) (fun c1 => ?_) (fun c1 => ?_)
  · replace hM := mI hM c1
    refine r_aload_n (pc' := 10) X hl 0 rfl rfl 5 rfl rfl ?_
    refine r_iload_n (pc' := 11) X hl 3 rfl rfl 6 rfl rfl ?_
    refine r_callV (pc' := 14) (As := [.int i3]) (rest := []) (wr := (wBD G a1 a1_firms a1_kindsTold a1_places a1_crowds a1_pipsLeft a1_notHome S1_points S1_home S1_men S1_turn S1_thrower S1_cube S1_owner S1_firms S1_kindsTold S1_places S1_crowds S1_pipsLeft S1_notHome : va_W)) X Y 7 rfl rfl mRX1_44 (c_X1_leave l G a0 a0_numbers S0_left S0_numbers i3) (mB hM hne) 0 rfl rfl [0, 1] [2, 3, 4, 5, 6, 7, 8] [7, 8, 0, 1, 2, 3, 4, 5, 6] rfl rfl ⟨rfl, rfl, rfl⟩ rfl (w2 := fun u2 => wAS G a0 a0_numbers u2.1 u2.2 ++ wBD G a1 a1_firms a1_kindsTold a1_places a1_crowds a1_pipsLeft a1_notHome S1_points S1_home S1_men S1_turn S1_thrower S1_cube S1_owner S1_firms S1_kindsTold S1_places S1_crowds S1_pipsLeft S1_notHome) (fun _ => rfl) rfl (Nat.le_of_ble_eq_true rfl) ⟨rfl, rfl⟩ ⟨Nat.le_of_ble_eq_true rfl, Nat.le_of_ble_eq_true rfl⟩ ⟨Nat.zero_le _, Nat.zero_le _⟩ hl.1 (st' := fun u2 => []) (fun _ => rfl) (fun u2 H locs huu2 Y => ?_)
    obtain ⟨u2_left, u2_numbers⟩ := u2
    replace Y : rY G A s (wAS G a0 a0_numbers u2_left u2_numbers ++ wBD G a1 a1_firms a1_kindsTold a1_places a1_crowds a1_pipsLeft a1_notHome S1_points S1_home S1_men S1_turn S1_thrower S1_cube S1_owner S1_firms S1_kindsTold S1_places S1_crowds S1_pipsLeft S1_notHome) H locs := Y
    replace hM := mS hM huu2
    show W p l e q_X1_begun_3 s m args below meth c H locs 0 0 Q (F0 m 14 ls [])
    refine r_iload (pc' := 16) X hl 4 rfl 8 rfl rfl ?_
    refine r_iconst (pc' := 17) X (1 : Int32) 9 rfl rfl rfl ?_
    refine r_iadd (pc' := 18) X 10 rfl rfl ?_
    refine r_istore (pc' := 20) (L' := [(5, .int (i4 + (1 : Int32))), (0, .ref a0), (1, .ref a1), (2, .int i2), (3, .int i3), (4, .int i4)]) X hl 11 rfl rfl (by decide) rfl (fun ls hl => ?_)
    refine r_iload_n (pc' := 21) X hl 4 rfl rfl 12 rfl rfl ?_
    by_cases h3_10 : i3 = 10
    · replace hM := mI hM h3_10
      refine r_tabIn X 96 13 rfl (10 : Int32) h3_10 (by decide) rfl (by decide) ?_
      refine r_aload_n (pc' := 97) X hl 2 rfl rfl 14 rfl rfl ?_
      refine r_iload_n (pc' := 98) X hl 3 rfl rfl 15 rfl rfl ?_
      refine r_callV0 (pc' := 101) (As := [.int i2]) (rest := []) X Y 16 rfl rfl mRX1_48 (c_X2_pipsOf l G a1 a1_firms a1_kindsTold a1_places a1_crowds a1_pipsLeft a1_notHome S1_points S1_home S1_men S1_turn S1_thrower S1_cube S1_owner S1_firms S1_kindsTold S1_places S1_crowds S1_pipsLeft S1_notHome i2) (mB hM hne) 2 rfl rfl [2, 3, 4, 5, 6, 7, 8] rfl rfl rfl (Nat.le_of_ble_eq_true rfl) ⟨rfl, rfl⟩ ⟨Nat.le_of_ble_eq_true rfl, Nat.le_of_ble_eq_true rfl⟩ ⟨Nat.zero_le _, Nat.zero_le _⟩ hl.1 (st' := fun u4 => [.int u4]) (fun _ => rfl) (fun u4 H locs huu4 Y => ?_)
      replace hM := mS hM huu4
      exact RT (u4, (u2_left, u2_numbers)) _ _ _ _ _ hM (Or.inl ⟨rfl, rfl, _, rfl⟩) (X.d (k := 17) rfl) Y
    replace hM := mE hM h3_10
    by_cases h3_11 : i3 = 11
    · replace hM := mI hM h3_11
      refine r_tabIn X 102 13 rfl (11 : Int32) h3_11 (by decide) rfl (by decide) ?_
      refine r_aload_n (pc' := 103) X hl 1 rfl rfl 18 rfl rfl ?_
      refine r_aload_n (pc' := 104) X hl 2 rfl rfl 19 rfl rfl ?_
      refine r_iload_n (pc' := 105) X hl 3 rfl rfl 20 rfl rfl ?_
      refine r_bipush (pc' := 107) X (10 : Int32) 21 rfl rfl rfl ?_
      refine r_iload (pc' := 109) X hl 0 rfl 22 rfl rfl ?_
      refine r_callS (pc' := 112) (As := [.ref a0, .ref a1, .int i2, .int (10 : Int32), .int (i4 + (1 : Int32))]) (rest := []) (wr := ([] : va_W)) X Y 23 rfl rfl mRX1_35 (c_X1_begun_2 l G a0 a1 a0_numbers a1_firms a1_kindsTold a1_places a1_crowds a1_pipsLeft a1_notHome u2_left u2_numbers S1_points S1_home S1_men S1_turn S1_thrower S1_cube S1_owner S1_firms S1_kindsTold S1_places S1_crowds S1_pipsLeft S1_notHome i2 (10 : Int32) ((i4 + (1 : Int32)))) (mB hM hne) rfl [0, 1, 2, 3, 4, 5, 6, 7, 8] [] [0, 1, 2, 3, 4, 5, 6, 7, 8] rfl rfl ⟨rfl, rfl, rfl⟩ rfl (w2 := fun u5 => wAS G a0 a0_numbers u5.2.1 u5.2.2 ++ wBD G a1 a1_firms a1_kindsTold a1_places a1_crowds a1_pipsLeft a1_notHome S1_points S1_home S1_men S1_turn S1_thrower S1_cube S1_owner S1_firms S1_kindsTold S1_places S1_crowds S1_pipsLeft S1_notHome) (fun _ => rfl) rfl (Nat.le_of_ble_eq_true rfl) ⟨rfl, rfl⟩ ⟨Nat.le_of_ble_eq_true rfl, Nat.le_of_ble_eq_true rfl⟩ ⟨Nat.zero_le _, Nat.zero_le _⟩ hl.1 (st' := fun u5 => [.int u5.1]) (fun _ => rfl) (fun u5 H locs huu5 Y => ?_)
      obtain ⟨u5_1, ⟨u5_2_left, u5_2_numbers⟩⟩ := u5
      replace Y : rY G A s (wAS G a0 a0_numbers u5_2_left u5_2_numbers ++ wBD G a1 a1_firms a1_kindsTold a1_places a1_crowds a1_pipsLeft a1_notHome S1_points S1_home S1_men S1_turn S1_thrower S1_cube S1_owner S1_firms S1_kindsTold S1_places S1_crowds S1_pipsLeft S1_notHome) H locs := Y
      replace hM := mS hM huu5
      show W p l e q_X1_begun_3 s m args below meth c H locs 0 0 Q (F0 m 112 ls [.int u5_1])
      refine r_aload_n (pc' := 113) X hl 1 rfl rfl 24 rfl rfl ?_
      refine r_aload_n (pc' := 114) X hl 2 rfl rfl 25 rfl rfl ?_
      refine r_iload_n (pc' := 115) X hl 3 rfl rfl 26 rfl rfl ?_
      refine r_iconst (pc' := 116) X (1 : Int32) 27 rfl rfl rfl ?_
      refine r_iload (pc' := 118) X hl 0 rfl 28 rfl rfl ?_
      refine r_callS (pc' := 121) (As := [.ref a0, .ref a1, .int i2, .int (1 : Int32), .int (i4 + (1 : Int32))]) (rest := [.int u5_1]) (wr := ([] : va_W)) X Y 29 rfl rfl mRX1_19 (c_X1_anew_2 l G a0 a1 a1_firms a1_kindsTold a1_places a1_crowds a1_pipsLeft a1_notHome a0_numbers S1_points S1_home S1_men S1_turn S1_thrower S1_cube S1_owner S1_firms S1_kindsTold S1_places S1_crowds S1_pipsLeft S1_notHome u5_2_left u5_2_numbers i2 (1 : Int32) ((i4 + (1 : Int32)))) (mB hM hne) rfl [2, 3, 4, 5, 6, 7, 8, 0, 1] [] [7, 8, 0, 1, 2, 3, 4, 5, 6] rfl rfl ⟨rfl, rfl, rfl⟩ rfl (w2 := fun u6 => wAS G a0 a0_numbers u6.2.1 u6.2.2 ++ wBD G a1 a1_firms a1_kindsTold a1_places a1_crowds a1_pipsLeft a1_notHome S1_points S1_home S1_men S1_turn S1_thrower S1_cube S1_owner S1_firms S1_kindsTold S1_places S1_crowds S1_pipsLeft S1_notHome) (fun _ => rfl) rfl (Nat.le_of_ble_eq_true rfl) ⟨rfl, rfl⟩ ⟨Nat.le_of_ble_eq_true rfl, Nat.le_of_ble_eq_true rfl⟩ ⟨Nat.zero_le _, Nat.zero_le _⟩ hl.1 (st' := fun u6 => [.int u6.1, .int u5_1]) (fun _ => rfl) (fun u6 H locs huu6 Y => ?_)
      obtain ⟨u6_1, ⟨u6_2_left, u6_2_numbers⟩⟩ := u6
      replace Y : rY G A s (wAS G a0 a0_numbers u6_2_left u6_2_numbers ++ wBD G a1 a1_firms a1_kindsTold a1_places a1_crowds a1_pipsLeft a1_notHome S1_points S1_home S1_men S1_turn S1_thrower S1_cube S1_owner S1_firms S1_kindsTold S1_places S1_crowds S1_pipsLeft S1_notHome) H locs := Y
      replace hM := mS hM huu6
      show W p l e q_X1_begun_3 s m args below meth c H locs 0 0 Q (F0 m 121 ls [.int u6_1, .int u5_1])
      refine r_iadd (pc' := 122) X 30 rfl rfl ?_
      exact RT ((u5_1 + u6_1), (u6_2_left, u6_2_numbers)) _ _ _ _ _ hM (Or.inl ⟨rfl, rfl, _, rfl⟩) (X.d (k := 31) rfl) Y
    replace hM := mE hM h3_11
    by_cases h3_12 : i3 = 12
    · replace hM := mI hM h3_12
      refine r_tabIn X 123 13 rfl (12 : Int32) h3_12 (by decide) rfl (by decide) ?_
      refine r_aload_n (pc' := 124) X hl 1 rfl rfl 32 rfl rfl ?_
      refine r_aload_n (pc' := 125) X hl 2 rfl rfl 33 rfl rfl ?_
      refine r_iload_n (pc' := 126) X hl 3 rfl rfl 34 rfl rfl ?_
      refine r_bipush (pc' := 128) X (11 : Int32) 35 rfl rfl rfl ?_
      refine r_iload (pc' := 130) X hl 0 rfl 36 rfl rfl ?_
      refine r_callS (pc' := 133) (As := [.ref a0, .ref a1, .int i2, .int (11 : Int32), .int (i4 + (1 : Int32))]) (rest := []) (wr := ([] : va_W)) X Y 37 rfl rfl mRX1_35 (c_X1_begun_2 l G a0 a1 a0_numbers a1_firms a1_kindsTold a1_places a1_crowds a1_pipsLeft a1_notHome u2_left u2_numbers S1_points S1_home S1_men S1_turn S1_thrower S1_cube S1_owner S1_firms S1_kindsTold S1_places S1_crowds S1_pipsLeft S1_notHome i2 (11 : Int32) ((i4 + (1 : Int32)))) (mB hM hne) rfl [0, 1, 2, 3, 4, 5, 6, 7, 8] [] [0, 1, 2, 3, 4, 5, 6, 7, 8] rfl rfl ⟨rfl, rfl, rfl⟩ rfl (w2 := fun u7 => wAS G a0 a0_numbers u7.2.1 u7.2.2 ++ wBD G a1 a1_firms a1_kindsTold a1_places a1_crowds a1_pipsLeft a1_notHome S1_points S1_home S1_men S1_turn S1_thrower S1_cube S1_owner S1_firms S1_kindsTold S1_places S1_crowds S1_pipsLeft S1_notHome) (fun _ => rfl) rfl (Nat.le_of_ble_eq_true rfl) ⟨rfl, rfl⟩ ⟨Nat.le_of_ble_eq_true rfl, Nat.le_of_ble_eq_true rfl⟩ ⟨Nat.zero_le _, Nat.zero_le _⟩ hl.1 (st' := fun u7 => [.int u7.1]) (fun _ => rfl) (fun u7 H locs huu7 Y => ?_)
      obtain ⟨u7_1, ⟨u7_2_left, u7_2_numbers⟩⟩ := u7
      replace Y : rY G A s (wAS G a0 a0_numbers u7_2_left u7_2_numbers ++ wBD G a1 a1_firms a1_kindsTold a1_places a1_crowds a1_pipsLeft a1_notHome S1_points S1_home S1_men S1_turn S1_thrower S1_cube S1_owner S1_firms S1_kindsTold S1_places S1_crowds S1_pipsLeft S1_notHome) H locs := Y
      replace hM := mS hM huu7
      show W p l e q_X1_begun_3 s m args below meth c H locs 0 0 Q (F0 m 133 ls [.int u7_1])
      refine r_ineg (pc' := 134) X 38 rfl rfl ?_
      exact RT ((-u7_1), (u7_2_left, u7_2_numbers)) _ _ _ _ _ hM (Or.inl ⟨rfl, rfl, _, rfl⟩) (X.d (k := 39) rfl) Y
    replace hM := mE hM h3_12
    by_cases h3_13 : i3 = 13
    · replace hM := mI hM h3_13
      refine r_tabIn X 135 13 rfl (13 : Int32) h3_13 (by decide) rfl (by decide) ?_
      refine r_aload_n (pc' := 136) X hl 1 rfl rfl 40 rfl rfl ?_
      refine r_aload_n (pc' := 137) X hl 2 rfl rfl 41 rfl rfl ?_
      refine r_iload_n (pc' := 138) X hl 3 rfl rfl 42 rfl rfl ?_
      refine r_bipush (pc' := 140) X (10 : Int32) 43 rfl rfl rfl ?_
      refine r_iload (pc' := 142) X hl 0 rfl 44 rfl rfl ?_
      refine r_callS (pc' := 145) (As := [.ref a0, .ref a1, .int i2, .int (10 : Int32), .int (i4 + (1 : Int32))]) (rest := []) (wr := ([] : va_W)) X Y 45 rfl rfl mRX1_35 (c_X1_begun_2 l G a0 a1 a0_numbers a1_firms a1_kindsTold a1_places a1_crowds a1_pipsLeft a1_notHome u2_left u2_numbers S1_points S1_home S1_men S1_turn S1_thrower S1_cube S1_owner S1_firms S1_kindsTold S1_places S1_crowds S1_pipsLeft S1_notHome i2 (10 : Int32) ((i4 + (1 : Int32)))) (mB hM hne) rfl [0, 1, 2, 3, 4, 5, 6, 7, 8] [] [0, 1, 2, 3, 4, 5, 6, 7, 8] rfl rfl ⟨rfl, rfl, rfl⟩ rfl (w2 := fun u8 => wAS G a0 a0_numbers u8.2.1 u8.2.2 ++ wBD G a1 a1_firms a1_kindsTold a1_places a1_crowds a1_pipsLeft a1_notHome S1_points S1_home S1_men S1_turn S1_thrower S1_cube S1_owner S1_firms S1_kindsTold S1_places S1_crowds S1_pipsLeft S1_notHome) (fun _ => rfl) rfl (Nat.le_of_ble_eq_true rfl) ⟨rfl, rfl⟩ ⟨Nat.le_of_ble_eq_true rfl, Nat.le_of_ble_eq_true rfl⟩ ⟨Nat.zero_le _, Nat.zero_le _⟩ hl.1 (st' := fun u8 => [.int u8.1]) (fun _ => rfl) (fun u8 H locs huu8 Y => ?_)
      obtain ⟨u8_1, ⟨u8_2_left, u8_2_numbers⟩⟩ := u8
      replace Y : rY G A s (wAS G a0 a0_numbers u8_2_left u8_2_numbers ++ wBD G a1 a1_firms a1_kindsTold a1_places a1_crowds a1_pipsLeft a1_notHome S1_points S1_home S1_men S1_turn S1_thrower S1_cube S1_owner S1_firms S1_kindsTold S1_places S1_crowds S1_pipsLeft S1_notHome) H locs := Y
      replace hM := mS hM huu8
      show W p l e q_X1_begun_3 s m args below meth c H locs 0 0 Q (F0 m 145 ls [.int u8_1])
      refine r_bipush (pc' := 147) X (100 : Int32) 46 rfl rfl rfl ?_
      refine r_isub (pc' := 148) X 47 rfl rfl ?_
      exact RT ((u8_1 - (100 : Int32)), (u8_2_left, u8_2_numbers)) _ _ _ _ _ hM (Or.inl ⟨rfl, rfl, _, rfl⟩) (X.d (k := 48) rfl) Y
    replace hM := mE hM h3_13
    by_cases h3_14 : i3 = 14
    · replace hM := mI hM h3_14
      refine r_tabIn X 149 13 rfl (14 : Int32) h3_14 (by decide) rfl (by decide) ?_
      refine r_iconst (pc' := 150) X (2 : Int32) 49 rfl rfl rfl ?_
      refine r_aload_n (pc' := 151) X hl 1 rfl rfl 50 rfl rfl ?_
      refine r_aload_n (pc' := 152) X hl 2 rfl rfl 51 rfl rfl ?_
      refine r_iload_n (pc' := 153) X hl 3 rfl rfl 52 rfl rfl ?_
      refine r_bipush (pc' := 155) X (13 : Int32) 53 rfl rfl rfl ?_
      refine r_iload (pc' := 157) X hl 0 rfl 54 rfl rfl ?_
      refine r_callS (pc' := 160) (As := [.ref a0, .ref a1, .int i2, .int (13 : Int32), .int (i4 + (1 : Int32))]) (rest := [.int (2 : Int32)]) (wr := ([] : va_W)) X Y 55 rfl rfl mRX1_35 (c_X1_begun_2 l G a0 a1 a0_numbers a1_firms a1_kindsTold a1_places a1_crowds a1_pipsLeft a1_notHome u2_left u2_numbers S1_points S1_home S1_men S1_turn S1_thrower S1_cube S1_owner S1_firms S1_kindsTold S1_places S1_crowds S1_pipsLeft S1_notHome i2 (13 : Int32) ((i4 + (1 : Int32)))) (mB hM hne) rfl [0, 1, 2, 3, 4, 5, 6, 7, 8] [] [0, 1, 2, 3, 4, 5, 6, 7, 8] rfl rfl ⟨rfl, rfl, rfl⟩ rfl (w2 := fun u9 => wAS G a0 a0_numbers u9.2.1 u9.2.2 ++ wBD G a1 a1_firms a1_kindsTold a1_places a1_crowds a1_pipsLeft a1_notHome S1_points S1_home S1_men S1_turn S1_thrower S1_cube S1_owner S1_firms S1_kindsTold S1_places S1_crowds S1_pipsLeft S1_notHome) (fun _ => rfl) rfl (Nat.le_of_ble_eq_true rfl) ⟨rfl, rfl⟩ ⟨Nat.le_of_ble_eq_true rfl, Nat.le_of_ble_eq_true rfl⟩ ⟨Nat.zero_le _, Nat.zero_le _⟩ hl.1 (st' := fun u9 => [.int u9.1, .int (2 : Int32)]) (fun _ => rfl) (fun u9 H locs huu9 Y => ?_)
      obtain ⟨u9_1, ⟨u9_2_left, u9_2_numbers⟩⟩ := u9
      replace Y : rY G A s (wAS G a0 a0_numbers u9_2_left u9_2_numbers ++ wBD G a1 a1_firms a1_kindsTold a1_places a1_crowds a1_pipsLeft a1_notHome S1_points S1_home S1_men S1_turn S1_thrower S1_cube S1_owner S1_firms S1_kindsTold S1_places S1_crowds S1_pipsLeft S1_notHome) H locs := Y
      replace hM := mS hM huu9
      show W p l e q_X1_begun_3 s m args below meth c H locs 0 0 Q (F0 m 160 ls [.int u9_1, .int (2 : Int32)])
      refine r_imul (pc' := 161) X 56 rfl rfl ?_
      exact RT (((2 : Int32) * u9_1), (u9_2_left, u9_2_numbers)) _ _ _ _ _ hM (Or.inl ⟨rfl, rfl, _, rfl⟩) (X.d (k := 57) rfl) Y
    replace hM := mE hM h3_14
    by_cases h3_15 : i3 = 15
    · replace hM := mI hM h3_15
      refine r_tabIn X 229 13 rfl (15 : Int32) h3_15 (by decide) rfl (by decide) ?_
      refine r_iconst (pc' := 230) X (0 : Int32) 102 rfl rfl rfl ?_
      exact RT ((0 : Int32), (u2_left, u2_numbers)) _ _ _ _ _ hM (Or.inl ⟨rfl, rfl, _, rfl⟩) (X.d (k := 103) rfl) Y
    replace hM := mE hM h3_15
    by_cases h3_16 : i3 = 16
    · replace hM := mI hM h3_16
      refine r_tabIn X 229 13 rfl (16 : Int32) h3_16 (by decide) rfl (by decide) ?_
      refine r_iconst (pc' := 230) X (0 : Int32) 102 rfl rfl rfl ?_
      exact RT ((0 : Int32), (u2_left, u2_numbers)) _ _ _ _ _ hM (Or.inl ⟨rfl, rfl, _, rfl⟩) (X.d (k := 103) rfl) Y
    replace hM := mE hM h3_16
    by_cases h3_17 : i3 = 17
    · replace hM := mI hM h3_17
      refine r_tabIn X 229 13 rfl (17 : Int32) h3_17 (by decide) rfl (by decide) ?_
      refine r_iconst (pc' := 230) X (0 : Int32) 102 rfl rfl rfl ?_
      exact RT ((0 : Int32), (u2_left, u2_numbers)) _ _ _ _ _ hM (Or.inl ⟨rfl, rfl, _, rfl⟩) (X.d (k := 103) rfl) Y
    replace hM := mE hM h3_17
    by_cases h3_18 : i3 = 18
    · replace hM := mI hM h3_18
      refine r_tabIn X 229 13 rfl (18 : Int32) h3_18 (by decide) rfl (by decide) ?_
      refine r_iconst (pc' := 230) X (0 : Int32) 102 rfl rfl rfl ?_
      exact RT ((0 : Int32), (u2_left, u2_numbers)) _ _ _ _ _ hM (Or.inl ⟨rfl, rfl, _, rfl⟩) (X.d (k := 103) rfl) Y
    replace hM := mE hM h3_18
    by_cases h3_19 : i3 = 19
    · replace hM := mI hM h3_19
      refine r_tabIn X 229 13 rfl (19 : Int32) h3_19 (by decide) rfl (by decide) ?_
      refine r_iconst (pc' := 230) X (0 : Int32) 102 rfl rfl rfl ?_
      exact RT ((0 : Int32), (u2_left, u2_numbers)) _ _ _ _ _ hM (Or.inl ⟨rfl, rfl, _, rfl⟩) (X.d (k := 103) rfl) Y
    replace hM := mE hM h3_19
    by_cases h3_20 : i3 = 20
    · replace hM := mI hM h3_20
      refine r_tabIn X 162 13 rfl (20 : Int32) h3_20 (by decide) rfl (by decide) ?_
      refine r_iload_n (pc' := 163) X hl 3 rfl rfl 58 rfl rfl ?_
      exact RT (i2, (u2_left, u2_numbers)) _ _ _ _ _ hM (Or.inl ⟨rfl, rfl, _, rfl⟩) (X.d (k := 59) rfl) Y
    replace hM := mE hM h3_20
    by_cases h3_21 : i3 = 21
    · replace hM := mI hM h3_21
      refine r_tabIn X 164 13 rfl (21 : Int32) h3_21 (by decide) rfl (by decide) ?_
      refine r_aload_n (pc' := 165) X hl 1 rfl rfl 60 rfl rfl ?_
      refine r_aload_n (pc' := 166) X hl 2 rfl rfl 61 rfl rfl ?_
      refine r_iload_n (pc' := 167) X hl 3 rfl rfl 62 rfl rfl ?_
      refine r_bipush (pc' := 169) X (20 : Int32) 63 rfl rfl rfl ?_
      refine r_iload (pc' := 171) X hl 0 rfl 64 rfl rfl ?_
      refine r_callS (pc' := 174) (As := [.ref a0, .ref a1, .int i2, .int (20 : Int32), .int (i4 + (1 : Int32))]) (rest := []) (wr := ([] : va_W)) X Y 65 rfl rfl mRX1_35 (c_X1_begun_2 l G a0 a1 a0_numbers a1_firms a1_kindsTold a1_places a1_crowds a1_pipsLeft a1_notHome u2_left u2_numbers S1_points S1_home S1_men S1_turn S1_thrower S1_cube S1_owner S1_firms S1_kindsTold S1_places S1_crowds S1_pipsLeft S1_notHome i2 (20 : Int32) ((i4 + (1 : Int32)))) (mB hM hne) rfl [0, 1, 2, 3, 4, 5, 6, 7, 8] [] [0, 1, 2, 3, 4, 5, 6, 7, 8] rfl rfl ⟨rfl, rfl, rfl⟩ rfl (w2 := fun u10 => wAS G a0 a0_numbers u10.2.1 u10.2.2 ++ wBD G a1 a1_firms a1_kindsTold a1_places a1_crowds a1_pipsLeft a1_notHome S1_points S1_home S1_men S1_turn S1_thrower S1_cube S1_owner S1_firms S1_kindsTold S1_places S1_crowds S1_pipsLeft S1_notHome) (fun _ => rfl) rfl (Nat.le_of_ble_eq_true rfl) ⟨rfl, rfl⟩ ⟨Nat.le_of_ble_eq_true rfl, Nat.le_of_ble_eq_true rfl⟩ ⟨Nat.zero_le _, Nat.zero_le _⟩ hl.1 (st' := fun u10 => [.int u10.1]) (fun _ => rfl) (fun u10 H locs huu10 Y => ?_)
      obtain ⟨u10_1, ⟨u10_2_left, u10_2_numbers⟩⟩ := u10
      replace Y : rY G A s (wAS G a0 a0_numbers u10_2_left u10_2_numbers ++ wBD G a1 a1_firms a1_kindsTold a1_places a1_crowds a1_pipsLeft a1_notHome S1_points S1_home S1_men S1_turn S1_thrower S1_cube S1_owner S1_firms S1_kindsTold S1_places S1_crowds S1_pipsLeft S1_notHome) H locs := Y
      replace hM := mS hM huu10
      show W p l e q_X1_begun_3 s m args below meth c H locs 0 0 Q (F0 m 174 ls [.int u10_1])
      refine r_aload_n (pc' := 175) X hl 2 rfl rfl 66 rfl rfl ?_
      refine r_getN (pc' := 178) (v := .int S1_cube) X Y 67 rfl rfl fRX1_52 2 rfl rfl ?_
      refine r_iadd (pc' := 179) X 68 rfl rfl ?_
      exact RT ((u10_1 + S1_cube), (u10_2_left, u10_2_numbers)) _ _ _ _ _ hM (Or.inl ⟨rfl, rfl, _, rfl⟩) (X.d (k := 69) rfl) Y
    replace hM := mE hM h3_21
    by_cases h3_22 : i3 = 22
    · replace hM := mI hM h3_22
      refine r_tabIn X 180 13 rfl (22 : Int32) h3_22 (by decide) rfl (by decide) ?_
      refine r_aload_n (pc' := 181) X hl 1 rfl rfl 70 rfl rfl ?_
      refine r_aload_n (pc' := 182) X hl 2 rfl rfl 71 rfl rfl ?_
      refine r_iload_n (pc' := 183) X hl 3 rfl rfl 72 rfl rfl ?_
      refine r_bipush (pc' := 185) X (21 : Int32) 73 rfl rfl rfl ?_
      refine r_iload (pc' := 187) X hl 0 rfl 74 rfl rfl ?_
      refine r_callS (pc' := 190) (As := [.ref a0, .ref a1, .int i2, .int (21 : Int32), .int (i4 + (1 : Int32))]) (rest := []) (wr := ([] : va_W)) X Y 75 rfl rfl mRX1_35 (c_X1_begun_2 l G a0 a1 a0_numbers a1_firms a1_kindsTold a1_places a1_crowds a1_pipsLeft a1_notHome u2_left u2_numbers S1_points S1_home S1_men S1_turn S1_thrower S1_cube S1_owner S1_firms S1_kindsTold S1_places S1_crowds S1_pipsLeft S1_notHome i2 (21 : Int32) ((i4 + (1 : Int32)))) (mB hM hne) rfl [0, 1, 2, 3, 4, 5, 6, 7, 8] [] [0, 1, 2, 3, 4, 5, 6, 7, 8] rfl rfl ⟨rfl, rfl, rfl⟩ rfl (w2 := fun u11 => wAS G a0 a0_numbers u11.2.1 u11.2.2 ++ wBD G a1 a1_firms a1_kindsTold a1_places a1_crowds a1_pipsLeft a1_notHome S1_points S1_home S1_men S1_turn S1_thrower S1_cube S1_owner S1_firms S1_kindsTold S1_places S1_crowds S1_pipsLeft S1_notHome) (fun _ => rfl) rfl (Nat.le_of_ble_eq_true rfl) ⟨rfl, rfl⟩ ⟨Nat.le_of_ble_eq_true rfl, Nat.le_of_ble_eq_true rfl⟩ ⟨Nat.zero_le _, Nat.zero_le _⟩ hl.1 (st' := fun u11 => [.int u11.1]) (fun _ => rfl) (fun u11 H locs huu11 Y => ?_)
      obtain ⟨u11_1, ⟨u11_2_left, u11_2_numbers⟩⟩ := u11
      replace Y : rY G A s (wAS G a0 a0_numbers u11_2_left u11_2_numbers ++ wBD G a1 a1_firms a1_kindsTold a1_places a1_crowds a1_pipsLeft a1_notHome S1_points S1_home S1_men S1_turn S1_thrower S1_cube S1_owner S1_firms S1_kindsTold S1_places S1_crowds S1_pipsLeft S1_notHome) H locs := Y
      replace hM := mS hM huu11
      show W p l e q_X1_begun_3 s m args below meth c H locs 0 0 Q (F0 m 190 ls [.int u11_1])
      refine r_sipush (pc' := 193) X (1000 : Int32) 76 rfl rfl rfl ?_
      refine r_isub (pc' := 194) X 77 rfl rfl ?_
      exact RT ((u11_1 - (1000 : Int32)), (u11_2_left, u11_2_numbers)) _ _ _ _ _ hM (Or.inl ⟨rfl, rfl, _, rfl⟩) (X.d (k := 78) rfl) Y
    replace hM := mE hM h3_22
    by_cases h3_23 : i3 = 23
    · replace hM := mI hM h3_23
      refine r_tabIn X 195 13 rfl (23 : Int32) h3_23 (by decide) rfl (by decide) ?_
      refine r_aload_n (pc' := 196) X hl 1 rfl rfl 79 rfl rfl ?_
      refine r_aload_n (pc' := 197) X hl 2 rfl rfl 80 rfl rfl ?_
      refine r_iload_n (pc' := 198) X hl 3 rfl rfl 81 rfl rfl ?_
      refine r_bipush (pc' := 200) X (20 : Int32) 82 rfl rfl rfl ?_
      refine r_iload (pc' := 202) X hl 0 rfl 83 rfl rfl ?_
      refine r_callS (pc' := 205) (As := [.ref a0, .ref a1, .int i2, .int (20 : Int32), .int (i4 + (1 : Int32))]) (rest := []) (wr := ([] : va_W)) X Y 84 rfl rfl mRX1_35 (c_X1_begun_2 l G a0 a1 a0_numbers a1_firms a1_kindsTold a1_places a1_crowds a1_pipsLeft a1_notHome u2_left u2_numbers S1_points S1_home S1_men S1_turn S1_thrower S1_cube S1_owner S1_firms S1_kindsTold S1_places S1_crowds S1_pipsLeft S1_notHome i2 (20 : Int32) ((i4 + (1 : Int32)))) (mB hM hne) rfl [0, 1, 2, 3, 4, 5, 6, 7, 8] [] [0, 1, 2, 3, 4, 5, 6, 7, 8] rfl rfl ⟨rfl, rfl, rfl⟩ rfl (w2 := fun u12 => wAS G a0 a0_numbers u12.2.1 u12.2.2 ++ wBD G a1 a1_firms a1_kindsTold a1_places a1_crowds a1_pipsLeft a1_notHome S1_points S1_home S1_men S1_turn S1_thrower S1_cube S1_owner S1_firms S1_kindsTold S1_places S1_crowds S1_pipsLeft S1_notHome) (fun _ => rfl) rfl (Nat.le_of_ble_eq_true rfl) ⟨rfl, rfl⟩ ⟨Nat.le_of_ble_eq_true rfl, Nat.le_of_ble_eq_true rfl⟩ ⟨Nat.zero_le _, Nat.zero_le _⟩ hl.1 (st' := fun u12 => [.int u12.1]) (fun _ => rfl) (fun u12 H locs huu12 Y => ?_)
      obtain ⟨u12_1, ⟨u12_2_left, u12_2_numbers⟩⟩ := u12
      replace Y : rY G A s (wAS G a0 a0_numbers u12_2_left u12_2_numbers ++ wBD G a1 a1_firms a1_kindsTold a1_places a1_crowds a1_pipsLeft a1_notHome S1_points S1_home S1_men S1_turn S1_thrower S1_cube S1_owner S1_firms S1_kindsTold S1_places S1_crowds S1_pipsLeft S1_notHome) H locs := Y
      replace hM := mS hM huu12
      show W p l e q_X1_begun_3 s m args below meth c H locs 0 0 Q (F0 m 205 ls [.int u12_1])
      refine r_aload_n (pc' := 206) X hl 1 rfl rfl 85 rfl rfl ?_
      refine r_aload_n (pc' := 207) X hl 2 rfl rfl 86 rfl rfl ?_
      refine r_iload_n (pc' := 208) X hl 3 rfl rfl 87 rfl rfl ?_
      refine r_iconst (pc' := 209) X (0 : Int32) 88 rfl rfl rfl ?_
      refine r_iload (pc' := 211) X hl 0 rfl 89 rfl rfl ?_
      refine r_callS (pc' := 214) (As := [.ref a0, .ref a1, .int i2, .int (0 : Int32), .int (i4 + (1 : Int32))]) (rest := [.int u12_1]) (wr := ([] : va_W)) X Y 90 rfl rfl mRX1_19 (c_X1_anew_2 l G a0 a1 a1_firms a1_kindsTold a1_places a1_crowds a1_pipsLeft a1_notHome a0_numbers S1_points S1_home S1_men S1_turn S1_thrower S1_cube S1_owner S1_firms S1_kindsTold S1_places S1_crowds S1_pipsLeft S1_notHome u12_2_left u12_2_numbers i2 (0 : Int32) ((i4 + (1 : Int32)))) (mB hM hne) rfl [2, 3, 4, 5, 6, 7, 8, 0, 1] [] [7, 8, 0, 1, 2, 3, 4, 5, 6] rfl rfl ⟨rfl, rfl, rfl⟩ rfl (w2 := fun u13 => wAS G a0 a0_numbers u13.2.1 u13.2.2 ++ wBD G a1 a1_firms a1_kindsTold a1_places a1_crowds a1_pipsLeft a1_notHome S1_points S1_home S1_men S1_turn S1_thrower S1_cube S1_owner S1_firms S1_kindsTold S1_places S1_crowds S1_pipsLeft S1_notHome) (fun _ => rfl) rfl (Nat.le_of_ble_eq_true rfl) ⟨rfl, rfl⟩ ⟨Nat.le_of_ble_eq_true rfl, Nat.le_of_ble_eq_true rfl⟩ ⟨Nat.zero_le _, Nat.zero_le _⟩ hl.1 (st' := fun u13 => [.int u13.1, .int u12_1]) (fun _ => rfl) (fun u13 H locs huu13 Y => ?_)
      obtain ⟨u13_1, ⟨u13_2_left, u13_2_numbers⟩⟩ := u13
      replace Y : rY G A s (wAS G a0 a0_numbers u13_2_left u13_2_numbers ++ wBD G a1 a1_firms a1_kindsTold a1_places a1_crowds a1_pipsLeft a1_notHome S1_points S1_home S1_men S1_turn S1_thrower S1_cube S1_owner S1_firms S1_kindsTold S1_places S1_crowds S1_pipsLeft S1_notHome) H locs := Y
      replace hM := mS hM huu13
      show W p l e q_X1_begun_3 s m args below meth c H locs 0 0 Q (F0 m 214 ls [.int u13_1, .int u12_1])
      refine r_isub (pc' := 215) X 91 rfl rfl ?_
      exact RT ((u12_1 - u13_1), (u13_2_left, u13_2_numbers)) _ _ _ _ _ hM (Or.inl ⟨rfl, rfl, _, rfl⟩) (X.d (k := 92) rfl) Y
    replace hM := mE hM h3_23
    by_cases h3_24 : i3 = 24
    · replace hM := mI hM h3_24
      refine r_tabIn X 216 13 rfl (24 : Int32) h3_24 (by decide) rfl (by decide) ?_
      refine r_iconst (pc' := 217) X (2 : Int32) 93 rfl rfl rfl ?_
      refine r_aload_n (pc' := 218) X hl 1 rfl rfl 94 rfl rfl ?_
      refine r_aload_n (pc' := 219) X hl 2 rfl rfl 95 rfl rfl ?_
      refine r_iload_n (pc' := 220) X hl 3 rfl rfl 96 rfl rfl ?_
      refine r_bipush (pc' := 222) X (21 : Int32) 97 rfl rfl rfl ?_
      refine r_iload (pc' := 224) X hl 0 rfl 98 rfl rfl ?_
      refine r_callS (pc' := 227) (As := [.ref a0, .ref a1, .int i2, .int (21 : Int32), .int (i4 + (1 : Int32))]) (rest := [.int (2 : Int32)]) (wr := ([] : va_W)) X Y 99 rfl rfl mRX1_35 (c_X1_begun_2 l G a0 a1 a0_numbers a1_firms a1_kindsTold a1_places a1_crowds a1_pipsLeft a1_notHome u2_left u2_numbers S1_points S1_home S1_men S1_turn S1_thrower S1_cube S1_owner S1_firms S1_kindsTold S1_places S1_crowds S1_pipsLeft S1_notHome i2 (21 : Int32) ((i4 + (1 : Int32)))) (mB hM hne) rfl [0, 1, 2, 3, 4, 5, 6, 7, 8] [] [0, 1, 2, 3, 4, 5, 6, 7, 8] rfl rfl ⟨rfl, rfl, rfl⟩ rfl (w2 := fun u14 => wAS G a0 a0_numbers u14.2.1 u14.2.2 ++ wBD G a1 a1_firms a1_kindsTold a1_places a1_crowds a1_pipsLeft a1_notHome S1_points S1_home S1_men S1_turn S1_thrower S1_cube S1_owner S1_firms S1_kindsTold S1_places S1_crowds S1_pipsLeft S1_notHome) (fun _ => rfl) rfl (Nat.le_of_ble_eq_true rfl) ⟨rfl, rfl⟩ ⟨Nat.le_of_ble_eq_true rfl, Nat.le_of_ble_eq_true rfl⟩ ⟨Nat.zero_le _, Nat.zero_le _⟩ hl.1 (st' := fun u14 => [.int u14.1, .int (2 : Int32)]) (fun _ => rfl) (fun u14 H locs huu14 Y => ?_)
      obtain ⟨u14_1, ⟨u14_2_left, u14_2_numbers⟩⟩ := u14
      replace Y : rY G A s (wAS G a0 a0_numbers u14_2_left u14_2_numbers ++ wBD G a1 a1_firms a1_kindsTold a1_places a1_crowds a1_pipsLeft a1_notHome S1_points S1_home S1_men S1_turn S1_thrower S1_cube S1_owner S1_firms S1_kindsTold S1_places S1_crowds S1_pipsLeft S1_notHome) H locs := Y
      replace hM := mS hM huu14
      show W p l e q_X1_begun_3 s m args below meth c H locs 0 0 Q (F0 m 227 ls [.int u14_1, .int (2 : Int32)])
      refine r_imul (pc' := 228) X 100 rfl rfl ?_
      exact RT (((2 : Int32) * u14_1), (u14_2_left, u14_2_numbers)) _ _ _ _ _ hM (Or.inl ⟨rfl, rfl, _, rfl⟩) (X.d (k := 101) rfl) Y
    replace hM := mE hM h3_24
    refine r_tabOut X 229 13 rfl ((tsw (x := i3) 10 15 (fun k hk => match k, hk with | 0, _ => h3_10 | 1, _ => h3_11 | 2, _ => h3_12 | 3, _ => h3_13 | 4, _ => h3_14 | 5, _ => h3_15 | 6, _ => h3_16 | 7, _ => h3_17 | 8, _ => h3_18 | 9, _ => h3_19 | 10, _ => h3_20 | 11, _ => h3_21 | 12, _ => h3_22 | 13, _ => h3_23 | 14, _ => h3_24) (by decide)).imp id (fun z => Int.lt_of_lt_of_le (by decide) z)) (by decide) ?_
    refine r_iconst (pc' := 230) X (0 : Int32) 102 rfl rfl rfl ?_
    exact RT ((0 : Int32), (u2_left, u2_numbers)) _ _ _ _ _ hM (Or.inl ⟨rfl, rfl, _, rfl⟩) (X.d (k := 103) rfl) Y
  · replace hM := mE hM c1
    refine r_iconst (pc' := 8) X (0 : Int32) 3 rfl rfl rfl ?_
    exact RT ((0 : Int32), (S0_left, S0_numbers)) _ _ _ _ _ hM (Or.inl ⟨rfl, rfl, _, rfl⟩) (X.d (k := 4) rfl) Y

def M_X1_anew_3 (S0 : BD) (S1 : AS) (i2 : Int32) (i3 : Int32) (i4 : Int32) : Option (Int32 × AS) :=
  (if inb i2 8 = true then ((M_X1_bodyTold i3 (((bd_kindsTold S0) (i2).toNatClampNeg))).bind (fun u2 => ((lp (σ := Int32 × Int32 × Int32) (β := Int32) (fun rec3 st3 => (if (6 : Int32) ≤ st3.2.2 then (some st3.2.1) else (if st3.2.1 = 0 then (if inb st3.1 6 = true then ((M_X1_bodyTold i3 ((kx0 (st3.1).toNatClampNeg))).bind (fun u8 => (rec3 ((kx0 (st3.1).toNatClampNeg), u8, (st3.2.2 + (1 : Int32)))))) else none) else (some st3.2.1)))) 1000000 (((bd_kindsTold S0) (i2).toNatClampNeg), u2, (0 : Int32))).bind (fun b3 => ((M_X1_begun_3 S1 S0 i2 b3 i4).bind (fun u4 => (some (u4.1, u4.2)))))))) else none)
def q_X1_anew_3 : Room := { frames := 9, cells := 0, slots := 0, locals := 263 }
set_option maxHeartbeats 4000000 in
set_option maxRecDepth 100000 in
theorem c_X1_anew_3 (l : Launch) (G : gT) (a0 a1 a1_firms a1_kindsTold a1_places a1_crowds a1_pipsLeft a1_notHome a0_numbers : Nat) (S0_points : Int32) (S0_home : Int32) (S0_men : Int32) (S0_turn : Int32) (S0_thrower : Int32) (S0_cube : Int32) (S0_owner : Int32) (S0_firms : Nat → Int32) (S0_kindsTold : Nat → Int32) (S0_places : Nat → Int32) (S0_crowds : Nat → Int32) (S0_pipsLeft : Nat → Int32) (S0_notHome : Nat → Int32) (S1_left : Int32) (S1_numbers : Nat → Int32) (i2 : Int32) (i3 : Int32) (i4 : Int32) : CT l G yX1_anew cX1_anew 8 (some .int) q_X1_anew_3 [.ref a0, .ref a1, .int i2, .int i3, .int i4] (wBD G a1 a1_firms a1_kindsTold a1_places a1_crowds a1_pipsLeft a1_notHome S0_points S0_home S0_men S0_turn S0_thrower S0_cube S0_owner S0_firms S0_kindsTold S0_places S0_crowds S0_pipsLeft S0_notHome ++ wAS G a0 a0_numbers S1_left S1_numbers) (M_X1_anew_3 (S0_points, S0_home, S0_men, S0_turn, S0_thrower, S0_cube, S0_owner, S0_firms, S0_kindsTold, S0_places, S0_crowds, S0_pipsLeft, S0_notHome) (S1_left, S1_numbers) i2 i3 i4) (fun u => some (.int u.1)) (fun u => wBD G a1 a1_firms a1_kindsTold a1_places a1_crowds a1_pipsLeft a1_notHome S0_points S0_home S0_men S0_turn S0_thrower S0_cube S0_owner S0_firms S0_kindsTold S0_places S0_crowds S0_pipsLeft S0_notHome ++ wAS G a0 a0_numbers u.2.1 u.2.2) := by
  refine CT.of (P := PX1_anew) (by decide) dPX1_anew (Nat.le_of_ble_eq_true rfl) ?_
  intro p e s m args below meth c A Q ls hne X RT Y hl
  have hl : lv_has ls 8 [(0, .ref a0), (1, .ref a1), (2, .int i2), (3, .int i3), (4, .int i4)] := hl
  generalize hM : M_X1_anew_3 (S0_points, S0_home, S0_men, S0_turn, S0_thrower, S0_cube, S0_owner, S0_firms, S0_kindsTold, S0_places, S0_crowds, S0_pipsLeft, S0_notHome) (S1_left, S1_numbers) i2 i3 i4 = MM at hne RT
  unfold M_X1_anew_3 at hM
  refine r_aload_n (pc' := 1) X hl 1 rfl rfl 0 rfl rfl ?_
  refine r_getN (pc' := 4) (v := .ref a1_kindsTold) X Y 1 rfl rfl fRX1_23 0 rfl rfl ?_
  refine r_iload_n (pc' := 5) X hl 2 rfl rfl 2 rfl rfl ?_
  obtain ⟨g1, hM⟩ := mG hM hne
  refine r_iald (pc' := 6) X Y 3 rfl rfl 2 rfl (vin g1) ?_
  refine r_istore (pc' := 8) (L' := [(5, .int (S0_kindsTold (i2).toNatClampNeg)), (0, .ref a0), (1, .ref a1), (2, .int i2), (3, .int i3), (4, .int i4)]) X hl 4 rfl rfl (by decide) rfl (fun ls hl => ?_)
  refine r_iload_n (pc' := 9) X hl 4 rfl rfl 5 rfl rfl ?_
  refine r_iload (pc' := 11) X hl 0 rfl 6 rfl rfl ?_
  refine r_callS0 (pc' := 14) (As := [.int i3, .int (S0_kindsTold (i2).toNatClampNeg)]) (rest := []) X Y 7 rfl rfl mRX1_28 (c_X1_bodyTold l G i3 ((S0_kindsTold (i2).toNatClampNeg))) (mB hM hne) rfl [] rfl rfl rfl (Nat.le_of_ble_eq_true rfl) ⟨rfl, rfl⟩ ⟨Nat.le_of_ble_eq_true rfl, Nat.le_of_ble_eq_true rfl⟩ ⟨Nat.zero_le _, Nat.zero_le _⟩ hl.1 (st' := fun u2 => [.int u2]) (fun _ => rfl) (fun u2 H locs huu2 Y => ?_)
  replace hM := mS hM huu2
  refine r_istore (pc' := 16) (L' := [(6, .int u2), (5, .int (S0_kindsTold (i2).toNatClampNeg)), (0, .ref a0), (1, .ref a1), (2, .int i2), (3, .int i3), (4, .int i4)]) X hl 8 rfl rfl (by decide) rfl (fun ls hl => ?_)
  refine r_iconst (pc' := 17) X (0 : Int32) 9 rfl rfl rfl ?_
  refine r_istore (pc' := 19) (L' := [(7, .int (0 : Int32)), (6, .int u2), (5, .int (S0_kindsTold (i2).toNatClampNeg)), (0, .ref a0), (1, .ref a1), (2, .int i2), (3, .int i3), (4, .int i4)]) X hl 10 rfl rfl (by decide) rfl (fun ls hl => ?_)
  obtain ⟨LL3, hL3, hne3, hX3⟩ := mL hM hne
  have KX3 : ∀ (b3 : Int32) (H : Heap) (locs : List Loc) (ls : Array Slot), some b3 = LL3 → rY G A s (wBD G a1 a1_firms a1_kindsTold a1_places a1_crowds a1_pipsLeft a1_notHome S0_points S0_home S0_men S0_turn S0_thrower S0_cube S0_owner S0_firms S0_kindsTold S0_places S0_crowds S0_pipsLeft S0_notHome ++ wAS G a0 a0_numbers S1_left S1_numbers) H locs → lv_has ls 8 [(0, .ref a0), (1, .ref a1), (2, .int i2), (4, .int i4), (6, .int b3)] → W p l e q_X1_anew_3 s m args below meth c H locs 0 0 Q (F0 m 53 ls []) := by
    intro b3 H locs ls hM Y hl
    replace hM := hX3 _ hM
    refine r_aload_n (pc' := 54) X hl 0 rfl rfl 26 rfl rfl ?_
    refine r_aload_n (pc' := 55) X hl 1 rfl rfl 27 rfl rfl ?_
    refine r_iload_n (pc' := 56) X hl 2 rfl rfl 28 rfl rfl ?_
    refine r_iload (pc' := 58) X hl 4 rfl 29 rfl rfl ?_
    refine r_iload (pc' := 60) X hl 3 rfl 30 rfl rfl ?_
    refine r_callS (pc' := 63) (As := [.ref a0, .ref a1, .int i2, .int b3, .int i4]) (rest := []) (wr := ([] : va_W)) X Y 31 rfl rfl mRX1_35 (c_X1_begun_3 l G a0 a1 a0_numbers a1_firms a1_kindsTold a1_places a1_crowds a1_pipsLeft a1_notHome S1_left S1_numbers S0_points S0_home S0_men S0_turn S0_thrower S0_cube S0_owner S0_firms S0_kindsTold S0_places S0_crowds S0_pipsLeft S0_notHome i2 b3 i4) (mB hM hne) rfl [7, 8, 0, 1, 2, 3, 4, 5, 6] [] [2, 3, 4, 5, 6, 7, 8, 0, 1] rfl rfl ⟨rfl, rfl, rfl⟩ rfl (w2 := fun u4 => wBD G a1 a1_firms a1_kindsTold a1_places a1_crowds a1_pipsLeft a1_notHome S0_points S0_home S0_men S0_turn S0_thrower S0_cube S0_owner S0_firms S0_kindsTold S0_places S0_crowds S0_pipsLeft S0_notHome ++ wAS G a0 a0_numbers u4.2.1 u4.2.2) (fun _ => rfl) rfl (Nat.le_of_ble_eq_true rfl) ⟨rfl, rfl⟩ ⟨Nat.le_of_ble_eq_true rfl, Nat.le_of_ble_eq_true rfl⟩ ⟨Nat.zero_le _, Nat.zero_le _⟩ hl.1 (st' := fun u4 => [.int u4.1]) (fun _ => rfl) (fun u4 H locs huu4 Y => ?_)
    obtain ⟨u4_1, ⟨u4_2_left, u4_2_numbers⟩⟩ := u4
    replace Y : rY G A s (wBD G a1 a1_firms a1_kindsTold a1_places a1_crowds a1_pipsLeft a1_notHome S0_points S0_home S0_men S0_turn S0_thrower S0_cube S0_owner S0_firms S0_kindsTold S0_places S0_crowds S0_pipsLeft S0_notHome ++ wAS G a0 a0_numbers u4_2_left u4_2_numbers) H locs := Y
    replace hM := mS hM huu4
    show W p l e q_X1_anew_3 s m args below meth c H locs 0 0 Q (F0 m 63 ls [.int u4_1])
    exact RT (u4_1, (u4_2_left, u4_2_numbers)) _ _ _ _ _ hM (Or.inl ⟨rfl, rfl, _, rfl⟩) (X.d (k := 32) rfl) Y
  refine lp_rule (I := fun (st3 : Int32 × Int32 × Int32) => ∀ (H : Heap) (locs : List Loc) (ls : Array Slot), rY G A s (wBD G a1 a1_firms a1_kindsTold a1_places a1_crowds a1_pipsLeft a1_notHome S0_points S0_home S0_men S0_turn S0_thrower S0_cube S0_owner S0_firms S0_kindsTold S0_places S0_crowds S0_pipsLeft S0_notHome ++ wAS G a0 a0_numbers S1_left S1_numbers) H locs → lv_has ls 8 [(0, .ref a0), (1, .ref a1), (2, .int i2), (3, .int i3), (4, .int i4), (5, .int st3.1), (6, .int st3.2.1), (7, .int st3.2.2)] → W p l e q_X1_anew_3 s m args below meth c H locs 0 0 Q (F0 m 19 ls [])) hne3 (fun rec3 st3 IH3 hM => ?_) _ _ hL3 _ _ _ Y (lv_sub hl [3, 4, 5, 6, 7, 2, 1, 0] rfl)
  intro H locs ls Y hl
  obtain ⟨st3_1, st3_2_1, st3_2_2⟩ := st3
  replace Y : rY G A s (wBD G a1 a1_firms a1_kindsTold a1_places a1_crowds a1_pipsLeft a1_notHome S0_points S0_home S0_men S0_turn S0_thrower S0_cube S0_owner S0_firms S0_kindsTold S0_places S0_crowds S0_pipsLeft S0_notHome ++ wAS G a0 a0_numbers S1_left S1_numbers) H locs := Y
  replace hl : lv_has ls 8 [(0, .ref a0), (1, .ref a1), (2, .int i2), (3, .int i3), (4, .int i4), (5, .int st3_1), (6, .int st3_2_1), (7, .int st3_2_2)] := hl
  refine r_iload (pc' := 21) X hl 7 rfl 11 rfl rfl ?_
  refine r_bipush (pc' := 23) X (6 : Int32) 12 rfl rfl rfl ?_
  refine r_icmp_ge (pc' := 26) X 53 13 rfl rfl (by decide) (fun c5 => ?_) (fun c5 => ?_)
  · replace hM := mI hM c5
    exact KX3 st3_2_1 _ _ _ hM Y (lv_sub hl [0, 1, 2, 4, 6] rfl)
  · replace hM := mE hM c5
    refine r_iload (pc' := 28) X hl 6 rfl 14 rfl rfl ?_
    refine r_if_ne (pc' := 31) X 53 15 rfl rfl (by decide) (fun c6 => ?_) (fun c6 => ?_)
    · replace hM := mE hM c6
      exact KX3 st3_2_1 _ _ _ hM Y (lv_sub hl [0, 1, 2, 4, 6] rfl)
    · replace hM := mI hM c6
      refine r_getsN_kab (pc' := 34) X Y 16 rfl rfl nw45 ?_
      refine r_iload (pc' := 36) X hl 5 rfl 17 rfl rfl ?_
      obtain ⟨g7, hM⟩ := mG hM hne3
      refine r_sld_kab (pc' := 37) X Y 18 rfl rfl (vin g7) ?_
      refine r_istore (pc' := 39) (L' := [(5, .int (kx0 (st3_1).toNatClampNeg)), (0, .ref a0), (1, .ref a1), (2, .int i2), (3, .int i3), (4, .int i4), (6, .int st3_2_1), (7, .int st3_2_2)]) X hl 19 rfl rfl (by decide) rfl (fun ls hl => ?_)
      refine r_iload_n (pc' := 40) X hl 4 rfl rfl 20 rfl rfl ?_
      refine r_iload (pc' := 42) X hl 0 rfl 21 rfl rfl ?_
      refine r_callS0 (pc' := 45) (As := [.int i3, .int (kx0 (st3_1).toNatClampNeg)]) (rest := []) X Y 22 rfl rfl mRX1_28 (c_X1_bodyTold l G i3 ((kx0 (st3_1).toNatClampNeg))) (mB hM hne3) rfl [] rfl rfl rfl (Nat.le_of_ble_eq_true rfl) ⟨rfl, rfl⟩ ⟨Nat.le_of_ble_eq_true rfl, Nat.le_of_ble_eq_true rfl⟩ ⟨Nat.zero_le _, Nat.zero_le _⟩ hl.1 (st' := fun u8 => [.int u8]) (fun _ => rfl) (fun u8 H locs huu8 Y => ?_)
      replace hM := mS hM huu8
      refine r_istore (pc' := 47) (L' := [(6, .int u8), (5, .int (kx0 (st3_1).toNatClampNeg)), (0, .ref a0), (1, .ref a1), (2, .int i2), (3, .int i3), (4, .int i4), (7, .int st3_2_2)]) X hl 23 rfl rfl (by decide) rfl (fun ls hl => ?_)
      refine r_iinc (pc' := 50) (L' := [(7, .int (st3_2_2 + (1 : Int32))), (6, .int u8), (5, .int (kx0 (st3_1).toNatClampNeg)), (0, .ref a0), (1, .ref a1), (2, .int i2), (3, .int i3), (4, .int i4)]) X (st3_2_2 + (1 : Int32)) hl 7 rfl rfl 24 rfl rfl (by decide) rfl (fun ls hl => ?_)
      refine r_goto X 19 25 rfl (by decide) ?_
      exact IH3 _ hM _ _ _ Y (lv_sub hl [3, 4, 5, 6, 7, 2, 1, 0] rfl)

def M_X1_begun_4 (S0 : AS) (S1 : BD) (i2 : Int32) (i3 : Int32) (i4 : Int32) : Option (Int32 × AS) :=
  (if i4 ≤ (20 : Int32) then ((M_X1_leave S0 i3).bind (fun u2 => (if i3 = 10 then ((M_X2_pipsOf S1 i2).bind (fun u4 => (some (u4, u2)))) else (if i3 = 11 then ((M_X1_begun_3 u2 S1 i2 (10 : Int32) ((i4 + (1 : Int32)))).bind (fun u5 => ((M_X1_anew_3 S1 u5.2 i2 (1 : Int32) ((i4 + (1 : Int32)))).bind (fun u6 => (some ((u5.1 + u6.1), u6.2)))))) else (if i3 = 12 then ((M_X1_begun_3 u2 S1 i2 (11 : Int32) ((i4 + (1 : Int32)))).bind (fun u7 => (some ((-u7.1), u7.2)))) else (if i3 = 13 then ((M_X1_begun_3 u2 S1 i2 (10 : Int32) ((i4 + (1 : Int32)))).bind (fun u8 => (some ((u8.1 - (100 : Int32)), u8.2)))) else (if i3 = 14 then ((M_X1_begun_3 u2 S1 i2 (13 : Int32) ((i4 + (1 : Int32)))).bind (fun u9 => (some (((2 : Int32) * u9.1), u9.2)))) else (if i3 = 15 then (some ((0 : Int32), u2)) else (if i3 = 16 then (some ((0 : Int32), u2)) else (if i3 = 17 then (some ((0 : Int32), u2)) else (if i3 = 18 then (some ((0 : Int32), u2)) else (if i3 = 19 then (some ((0 : Int32), u2)) else (if i3 = 20 then (some (i2, u2)) else (if i3 = 21 then ((M_X1_begun_3 u2 S1 i2 (20 : Int32) ((i4 + (1 : Int32)))).bind (fun u10 => (some ((u10.1 + (bd_cube S1)), u10.2)))) else (if i3 = 22 then ((M_X1_begun_3 u2 S1 i2 (21 : Int32) ((i4 + (1 : Int32)))).bind (fun u11 => (some ((u11.1 - (1000 : Int32)), u11.2)))) else (if i3 = 23 then ((M_X1_begun_3 u2 S1 i2 (20 : Int32) ((i4 + (1 : Int32)))).bind (fun u12 => ((M_X1_anew_3 S1 u12.2 i2 (0 : Int32) ((i4 + (1 : Int32)))).bind (fun u13 => (some ((u12.1 - u13.1), u13.2)))))) else (if i3 = 24 then ((M_X1_begun_3 u2 S1 i2 (21 : Int32) ((i4 + (1 : Int32)))).bind (fun u14 => (some (((2 : Int32) * u14.1), u14.2)))) else (some ((0 : Int32), u2))))))))))))))))))) else (some ((0 : Int32), S0)))
def q_X1_begun_4 : Room := { frames := 10, cells := 0, slots := 0, locals := 290 }
set_option maxHeartbeats 4000000 in
set_option maxRecDepth 100000 in
theorem c_X1_begun_4 (l : Launch) (G : gT) (a0 a1 a0_numbers a1_firms a1_kindsTold a1_places a1_crowds a1_pipsLeft a1_notHome : Nat) (S0_left : Int32) (S0_numbers : Nat → Int32) (S1_points : Int32) (S1_home : Int32) (S1_men : Int32) (S1_turn : Int32) (S1_thrower : Int32) (S1_cube : Int32) (S1_owner : Int32) (S1_firms : Nat → Int32) (S1_kindsTold : Nat → Int32) (S1_places : Nat → Int32) (S1_crowds : Nat → Int32) (S1_pipsLeft : Nat → Int32) (S1_notHome : Nat → Int32) (i2 : Int32) (i3 : Int32) (i4 : Int32) : CT l G yX1_begun cX1_begun 6 (some .int) q_X1_begun_4 [.ref a0, .ref a1, .int i2, .int i3, .int i4] (wAS G a0 a0_numbers S0_left S0_numbers ++ wBD G a1 a1_firms a1_kindsTold a1_places a1_crowds a1_pipsLeft a1_notHome S1_points S1_home S1_men S1_turn S1_thrower S1_cube S1_owner S1_firms S1_kindsTold S1_places S1_crowds S1_pipsLeft S1_notHome) (M_X1_begun_4 (S0_left, S0_numbers) (S1_points, S1_home, S1_men, S1_turn, S1_thrower, S1_cube, S1_owner, S1_firms, S1_kindsTold, S1_places, S1_crowds, S1_pipsLeft, S1_notHome) i2 i3 i4) (fun u => some (.int u.1)) (fun u => wAS G a0 a0_numbers u.2.1 u.2.2 ++ wBD G a1 a1_firms a1_kindsTold a1_places a1_crowds a1_pipsLeft a1_notHome S1_points S1_home S1_men S1_turn S1_thrower S1_cube S1_owner S1_firms S1_kindsTold S1_places S1_crowds S1_pipsLeft S1_notHome) := by
  refine CT.of (P := PX1_begun) (by decide) dPX1_begun (Nat.le_of_ble_eq_true rfl) ?_
  intro p e s m args below meth c A Q ls hne X RT Y hl
  have hl : lv_has ls 6 [(0, .ref a0), (1, .ref a1), (2, .int i2), (3, .int i3), (4, .int i4)] := hl
  generalize hM : M_X1_begun_4 (S0_left, S0_numbers) (S1_points, S1_home, S1_men, S1_turn, S1_thrower, S1_cube, S1_owner, S1_firms, S1_kindsTold, S1_places, S1_crowds, S1_pipsLeft, S1_notHome) i2 i3 i4 = MM at hne RT
  unfold M_X1_begun_4 at hM
  refine r_iload (pc' := 2) X hl 4 rfl 0 rfl rfl ?_
  refine r_bipush (pc' := 4) X (20 : Int32) 1 rfl rfl rfl ?_
  refine r_icmp_le (pc' := 7) X 9 2 rfl rfl (by decide) (fun c1 => ?_) (fun c1 => ?_)
  · replace hM := mI hM c1
    refine r_aload_n (pc' := 10) X hl 0 rfl rfl 5 rfl rfl ?_
    refine r_iload_n (pc' := 11) X hl 3 rfl rfl 6 rfl rfl ?_
    refine r_callV (pc' := 14) (As := [.int i3]) (rest := []) (wr := (wBD G a1 a1_firms a1_kindsTold a1_places a1_crowds a1_pipsLeft a1_notHome S1_points S1_home S1_men S1_turn S1_thrower S1_cube S1_owner S1_firms S1_kindsTold S1_places S1_crowds S1_pipsLeft S1_notHome : va_W)) X Y 7 rfl rfl mRX1_44 (c_X1_leave l G a0 a0_numbers S0_left S0_numbers i3) (mB hM hne) 0 rfl rfl [0, 1] [2, 3, 4, 5, 6, 7, 8] [7, 8, 0, 1, 2, 3, 4, 5, 6] rfl rfl ⟨rfl, rfl, rfl⟩ rfl (w2 := fun u2 => wAS G a0 a0_numbers u2.1 u2.2 ++ wBD G a1 a1_firms a1_kindsTold a1_places a1_crowds a1_pipsLeft a1_notHome S1_points S1_home S1_men S1_turn S1_thrower S1_cube S1_owner S1_firms S1_kindsTold S1_places S1_crowds S1_pipsLeft S1_notHome) (fun _ => rfl) rfl (Nat.le_of_ble_eq_true rfl) ⟨rfl, rfl⟩ ⟨Nat.le_of_ble_eq_true rfl, Nat.le_of_ble_eq_true rfl⟩ ⟨Nat.zero_le _, Nat.zero_le _⟩ hl.1 (st' := fun u2 => []) (fun _ => rfl) (fun u2 H locs huu2 Y => ?_)
    obtain ⟨u2_left, u2_numbers⟩ := u2
    replace Y : rY G A s (wAS G a0 a0_numbers u2_left u2_numbers ++ wBD G a1 a1_firms a1_kindsTold a1_places a1_crowds a1_pipsLeft a1_notHome S1_points S1_home S1_men S1_turn S1_thrower S1_cube S1_owner S1_firms S1_kindsTold S1_places S1_crowds S1_pipsLeft S1_notHome) H locs := Y
    replace hM := mS hM huu2
    show W p l e q_X1_begun_4 s m args below meth c H locs 0 0 Q (F0 m 14 ls [])
    refine r_iload (pc' := 16) X hl 4 rfl 8 rfl rfl ?_
    refine r_iconst (pc' := 17) X (1 : Int32) 9 rfl rfl rfl ?_
    refine r_iadd (pc' := 18) X 10 rfl rfl ?_
    refine r_istore (pc' := 20) (L' := [(5, .int (i4 + (1 : Int32))), (0, .ref a0), (1, .ref a1), (2, .int i2), (3, .int i3), (4, .int i4)]) X hl 11 rfl rfl (by decide) rfl (fun ls hl => ?_)
    refine r_iload_n (pc' := 21) X hl 4 rfl rfl 12 rfl rfl ?_
    by_cases h3_10 : i3 = 10
    · replace hM := mI hM h3_10
      refine r_tabIn X 96 13 rfl (10 : Int32) h3_10 (by decide) rfl (by decide) ?_
      refine r_aload_n (pc' := 97) X hl 2 rfl rfl 14 rfl rfl ?_
      refine r_iload_n (pc' := 98) X hl 3 rfl rfl 15 rfl rfl ?_
      refine r_callV0 (pc' := 101) (As := [.int i2]) (rest := []) X Y 16 rfl rfl mRX1_48 (c_X2_pipsOf l G a1 a1_firms a1_kindsTold a1_places a1_crowds a1_pipsLeft a1_notHome S1_points S1_home S1_men S1_turn S1_thrower S1_cube S1_owner S1_firms S1_kindsTold S1_places S1_crowds S1_pipsLeft S1_notHome i2) (mB hM hne) 2 rfl rfl [2, 3, 4, 5, 6, 7, 8] rfl rfl rfl (Nat.le_of_ble_eq_true rfl) ⟨rfl, rfl⟩ ⟨Nat.le_of_ble_eq_true rfl, Nat.le_of_ble_eq_true rfl⟩ ⟨Nat.zero_le _, Nat.zero_le _⟩ hl.1 (st' := fun u4 => [.int u4]) (fun _ => rfl) (fun u4 H locs huu4 Y => ?_)
      replace hM := mS hM huu4
      exact RT (u4, (u2_left, u2_numbers)) _ _ _ _ _ hM (Or.inl ⟨rfl, rfl, _, rfl⟩) (X.d (k := 17) rfl) Y
    replace hM := mE hM h3_10
    by_cases h3_11 : i3 = 11
    · replace hM := mI hM h3_11
      refine r_tabIn X 102 13 rfl (11 : Int32) h3_11 (by decide) rfl (by decide) ?_
      refine r_aload_n (pc' := 103) X hl 1 rfl rfl 18 rfl rfl ?_
      refine r_aload_n (pc' := 104) X hl 2 rfl rfl 19 rfl rfl ?_
      refine r_iload_n (pc' := 105) X hl 3 rfl rfl 20 rfl rfl ?_
      refine r_bipush (pc' := 107) X (10 : Int32) 21 rfl rfl rfl ?_
      refine r_iload (pc' := 109) X hl 0 rfl 22 rfl rfl ?_
      refine r_callS (pc' := 112) (As := [.ref a0, .ref a1, .int i2, .int (10 : Int32), .int (i4 + (1 : Int32))]) (rest := []) (wr := ([] : va_W)) X Y 23 rfl rfl mRX1_35 (c_X1_begun_3 l G a0 a1 a0_numbers a1_firms a1_kindsTold a1_places a1_crowds a1_pipsLeft a1_notHome u2_left u2_numbers S1_points S1_home S1_men S1_turn S1_thrower S1_cube S1_owner S1_firms S1_kindsTold S1_places S1_crowds S1_pipsLeft S1_notHome i2 (10 : Int32) ((i4 + (1 : Int32)))) (mB hM hne) rfl [0, 1, 2, 3, 4, 5, 6, 7, 8] [] [0, 1, 2, 3, 4, 5, 6, 7, 8] rfl rfl ⟨rfl, rfl, rfl⟩ rfl (w2 := fun u5 => wAS G a0 a0_numbers u5.2.1 u5.2.2 ++ wBD G a1 a1_firms a1_kindsTold a1_places a1_crowds a1_pipsLeft a1_notHome S1_points S1_home S1_men S1_turn S1_thrower S1_cube S1_owner S1_firms S1_kindsTold S1_places S1_crowds S1_pipsLeft S1_notHome) (fun _ => rfl) rfl (Nat.le_of_ble_eq_true rfl) ⟨rfl, rfl⟩ ⟨Nat.le_of_ble_eq_true rfl, Nat.le_of_ble_eq_true rfl⟩ ⟨Nat.zero_le _, Nat.zero_le _⟩ hl.1 (st' := fun u5 => [.int u5.1]) (fun _ => rfl) (fun u5 H locs huu5 Y => ?_)
      obtain ⟨u5_1, ⟨u5_2_left, u5_2_numbers⟩⟩ := u5
      replace Y : rY G A s (wAS G a0 a0_numbers u5_2_left u5_2_numbers ++ wBD G a1 a1_firms a1_kindsTold a1_places a1_crowds a1_pipsLeft a1_notHome S1_points S1_home S1_men S1_turn S1_thrower S1_cube S1_owner S1_firms S1_kindsTold S1_places S1_crowds S1_pipsLeft S1_notHome) H locs := Y
      replace hM := mS hM huu5
      show W p l e q_X1_begun_4 s m args below meth c H locs 0 0 Q (F0 m 112 ls [.int u5_1])
      refine r_aload_n (pc' := 113) X hl 1 rfl rfl 24 rfl rfl ?_
      refine r_aload_n (pc' := 114) X hl 2 rfl rfl 25 rfl rfl ?_
      refine r_iload_n (pc' := 115) X hl 3 rfl rfl 26 rfl rfl ?_
      refine r_iconst (pc' := 116) X (1 : Int32) 27 rfl rfl rfl ?_
      refine r_iload (pc' := 118) X hl 0 rfl 28 rfl rfl ?_
      refine r_callS (pc' := 121) (As := [.ref a0, .ref a1, .int i2, .int (1 : Int32), .int (i4 + (1 : Int32))]) (rest := [.int u5_1]) (wr := ([] : va_W)) X Y 29 rfl rfl mRX1_19 (c_X1_anew_3 l G a0 a1 a1_firms a1_kindsTold a1_places a1_crowds a1_pipsLeft a1_notHome a0_numbers S1_points S1_home S1_men S1_turn S1_thrower S1_cube S1_owner S1_firms S1_kindsTold S1_places S1_crowds S1_pipsLeft S1_notHome u5_2_left u5_2_numbers i2 (1 : Int32) ((i4 + (1 : Int32)))) (mB hM hne) rfl [2, 3, 4, 5, 6, 7, 8, 0, 1] [] [7, 8, 0, 1, 2, 3, 4, 5, 6] rfl rfl ⟨rfl, rfl, rfl⟩ rfl (w2 := fun u6 => wAS G a0 a0_numbers u6.2.1 u6.2.2 ++ wBD G a1 a1_firms a1_kindsTold a1_places a1_crowds a1_pipsLeft a1_notHome S1_points S1_home S1_men S1_turn S1_thrower S1_cube S1_owner S1_firms S1_kindsTold S1_places S1_crowds S1_pipsLeft S1_notHome) (fun _ => rfl) rfl (Nat.le_of_ble_eq_true rfl) ⟨rfl, rfl⟩ ⟨Nat.le_of_ble_eq_true rfl, Nat.le_of_ble_eq_true rfl⟩ ⟨Nat.zero_le _, Nat.zero_le _⟩ hl.1 (st' := fun u6 => [.int u6.1, .int u5_1]) (fun _ => rfl) (fun u6 H locs huu6 Y => ?_)
      obtain ⟨u6_1, ⟨u6_2_left, u6_2_numbers⟩⟩ := u6
      replace Y : rY G A s (wAS G a0 a0_numbers u6_2_left u6_2_numbers ++ wBD G a1 a1_firms a1_kindsTold a1_places a1_crowds a1_pipsLeft a1_notHome S1_points S1_home S1_men S1_turn S1_thrower S1_cube S1_owner S1_firms S1_kindsTold S1_places S1_crowds S1_pipsLeft S1_notHome) H locs := Y
      replace hM := mS hM huu6
      show W p l e q_X1_begun_4 s m args below meth c H locs 0 0 Q (F0 m 121 ls [.int u6_1, .int u5_1])
      refine r_iadd (pc' := 122) X 30 rfl rfl ?_
      exact RT ((u5_1 + u6_1), (u6_2_left, u6_2_numbers)) _ _ _ _ _ hM (Or.inl ⟨rfl, rfl, _, rfl⟩) (X.d (k := 31) rfl) Y
    replace hM := mE hM h3_11
    by_cases h3_12 : i3 = 12
    · replace hM := mI hM h3_12
      refine r_tabIn X 123 13 rfl (12 : Int32) h3_12 (by decide) rfl (by decide) ?_
      refine r_aload_n (pc' := 124) X hl 1 rfl rfl 32 rfl rfl ?_
      refine r_aload_n (pc' := 125) X hl 2 rfl rfl 33 rfl rfl ?_
      refine r_iload_n (pc' := 126) X hl 3 rfl rfl 34 rfl rfl ?_
      refine r_bipush (pc' := 128) X (11 : Int32) 35 rfl rfl rfl ?_
      refine r_iload (pc' := 130) X hl 0 rfl 36 rfl rfl ?_
      refine r_callS (pc' := 133) (As := [.ref a0, .ref a1, .int i2, .int (11 : Int32), .int (i4 + (1 : Int32))]) (rest := []) (wr := ([] : va_W)) X Y 37 rfl rfl mRX1_35 (c_X1_begun_3 l G a0 a1 a0_numbers a1_firms a1_kindsTold a1_places a1_crowds a1_pipsLeft a1_notHome u2_left u2_numbers S1_points S1_home S1_men S1_turn S1_thrower S1_cube S1_owner S1_firms S1_kindsTold S1_places S1_crowds S1_pipsLeft S1_notHome i2 (11 : Int32) ((i4 + (1 : Int32)))) (mB hM hne) rfl [0, 1, 2, 3, 4, 5, 6, 7, 8] [] [0, 1, 2, 3, 4, 5, 6, 7, 8] rfl rfl ⟨rfl, rfl, rfl⟩ rfl (w2 := fun u7 => wAS G a0 a0_numbers u7.2.1 u7.2.2 ++ wBD G a1 a1_firms a1_kindsTold a1_places a1_crowds a1_pipsLeft a1_notHome S1_points S1_home S1_men S1_turn S1_thrower S1_cube S1_owner S1_firms S1_kindsTold S1_places S1_crowds S1_pipsLeft S1_notHome) (fun _ => rfl) rfl (Nat.le_of_ble_eq_true rfl) ⟨rfl, rfl⟩ ⟨Nat.le_of_ble_eq_true rfl, Nat.le_of_ble_eq_true rfl⟩ ⟨Nat.zero_le _, Nat.zero_le _⟩ hl.1 (st' := fun u7 => [.int u7.1]) (fun _ => rfl) (fun u7 H locs huu7 Y => ?_)
      obtain ⟨u7_1, ⟨u7_2_left, u7_2_numbers⟩⟩ := u7
      replace Y : rY G A s (wAS G a0 a0_numbers u7_2_left u7_2_numbers ++ wBD G a1 a1_firms a1_kindsTold a1_places a1_crowds a1_pipsLeft a1_notHome S1_points S1_home S1_men S1_turn S1_thrower S1_cube S1_owner S1_firms S1_kindsTold S1_places S1_crowds S1_pipsLeft S1_notHome) H locs := Y
      replace hM := mS hM huu7
      show W p l e q_X1_begun_4 s m args below meth c H locs 0 0 Q (F0 m 133 ls [.int u7_1])
      refine r_ineg (pc' := 134) X 38 rfl rfl ?_
      exact RT ((-u7_1), (u7_2_left, u7_2_numbers)) _ _ _ _ _ hM (Or.inl ⟨rfl, rfl, _, rfl⟩) (X.d (k := 39) rfl) Y
    replace hM := mE hM h3_12
    by_cases h3_13 : i3 = 13
    · replace hM := mI hM h3_13
      refine r_tabIn X 135 13 rfl (13 : Int32) h3_13 (by decide) rfl (by decide) ?_
      refine r_aload_n (pc' := 136) X hl 1 rfl rfl 40 rfl rfl ?_
      refine r_aload_n (pc' := 137) X hl 2 rfl rfl 41 rfl rfl ?_
      refine r_iload_n (pc' := 138) X hl 3 rfl rfl 42 rfl rfl ?_
      refine r_bipush (pc' := 140) X (10 : Int32) 43 rfl rfl rfl ?_
      refine r_iload (pc' := 142) X hl 0 rfl 44 rfl rfl ?_
      refine r_callS (pc' := 145) (As := [.ref a0, .ref a1, .int i2, .int (10 : Int32), .int (i4 + (1 : Int32))]) (rest := []) (wr := ([] : va_W)) X Y 45 rfl rfl mRX1_35 (c_X1_begun_3 l G a0 a1 a0_numbers a1_firms a1_kindsTold a1_places a1_crowds a1_pipsLeft a1_notHome u2_left u2_numbers S1_points S1_home S1_men S1_turn S1_thrower S1_cube S1_owner S1_firms S1_kindsTold S1_places S1_crowds S1_pipsLeft S1_notHome i2 (10 : Int32) ((i4 + (1 : Int32)))) (mB hM hne) rfl [0, 1, 2, 3, 4, 5, 6, 7, 8] [] [0, 1, 2, 3, 4, 5, 6, 7, 8] rfl rfl ⟨rfl, rfl, rfl⟩ rfl (w2 := fun u8 => wAS G a0 a0_numbers u8.2.1 u8.2.2 ++ wBD G a1 a1_firms a1_kindsTold a1_places a1_crowds a1_pipsLeft a1_notHome S1_points S1_home S1_men S1_turn S1_thrower S1_cube S1_owner S1_firms S1_kindsTold S1_places S1_crowds S1_pipsLeft S1_notHome) (fun _ => rfl) rfl (Nat.le_of_ble_eq_true rfl) ⟨rfl, rfl⟩ ⟨Nat.le_of_ble_eq_true rfl, Nat.le_of_ble_eq_true rfl⟩ ⟨Nat.zero_le _, Nat.zero_le _⟩ hl.1 (st' := fun u8 => [.int u8.1]) (fun _ => rfl) (fun u8 H locs huu8 Y => ?_)
      obtain ⟨u8_1, ⟨u8_2_left, u8_2_numbers⟩⟩ := u8
      replace Y : rY G A s (wAS G a0 a0_numbers u8_2_left u8_2_numbers ++ wBD G a1 a1_firms a1_kindsTold a1_places a1_crowds a1_pipsLeft a1_notHome S1_points S1_home S1_men S1_turn S1_thrower S1_cube S1_owner S1_firms S1_kindsTold S1_places S1_crowds S1_pipsLeft S1_notHome) H locs := Y
      replace hM := mS hM huu8
      show W p l e q_X1_begun_4 s m args below meth c H locs 0 0 Q (F0 m 145 ls [.int u8_1])
      refine r_bipush (pc' := 147) X (100 : Int32) 46 rfl rfl rfl ?_
      refine r_isub (pc' := 148) X 47 rfl rfl ?_
      exact RT ((u8_1 - (100 : Int32)), (u8_2_left, u8_2_numbers)) _ _ _ _ _ hM (Or.inl ⟨rfl, rfl, _, rfl⟩) (X.d (k := 48) rfl) Y
    replace hM := mE hM h3_13
    by_cases h3_14 : i3 = 14
    · replace hM := mI hM h3_14
      refine r_tabIn X 149 13 rfl (14 : Int32) h3_14 (by decide) rfl (by decide) ?_
      refine r_iconst (pc' := 150) X (2 : Int32) 49 rfl rfl rfl ?_
      refine r_aload_n (pc' := 151) X hl 1 rfl rfl 50 rfl rfl ?_
      refine r_aload_n (pc' := 152) X hl 2 rfl rfl 51 rfl rfl ?_
      refine r_iload_n (pc' := 153) X hl 3 rfl rfl 52 rfl rfl ?_
      refine r_bipush (pc' := 155) X (13 : Int32) 53 rfl rfl rfl ?_
      refine r_iload (pc' := 157) X hl 0 rfl 54 rfl rfl ?_
      refine r_callS (pc' := 160) (As := [.ref a0, .ref a1, .int i2, .int (13 : Int32), .int (i4 + (1 : Int32))]) (rest := [.int (2 : Int32)]) (wr := ([] : va_W)) X Y 55 rfl rfl mRX1_35 (c_X1_begun_3 l G a0 a1 a0_numbers a1_firms a1_kindsTold a1_places a1_crowds a1_pipsLeft a1_notHome u2_left u2_numbers S1_points S1_home S1_men S1_turn S1_thrower S1_cube S1_owner S1_firms S1_kindsTold S1_places S1_crowds S1_pipsLeft S1_notHome i2 (13 : Int32) ((i4 + (1 : Int32)))) (mB hM hne) rfl [0, 1, 2, 3, 4, 5, 6, 7, 8] [] [0, 1, 2, 3, 4, 5, 6, 7, 8] rfl rfl ⟨rfl, rfl, rfl⟩ rfl (w2 := fun u9 => wAS G a0 a0_numbers u9.2.1 u9.2.2 ++ wBD G a1 a1_firms a1_kindsTold a1_places a1_crowds a1_pipsLeft a1_notHome S1_points S1_home S1_men S1_turn S1_thrower S1_cube S1_owner S1_firms S1_kindsTold S1_places S1_crowds S1_pipsLeft S1_notHome) (fun _ => rfl) rfl (Nat.le_of_ble_eq_true rfl) ⟨rfl, rfl⟩ ⟨Nat.le_of_ble_eq_true rfl, Nat.le_of_ble_eq_true rfl⟩ ⟨Nat.zero_le _, Nat.zero_le _⟩ hl.1 (st' := fun u9 => [.int u9.1, .int (2 : Int32)]) (fun _ => rfl) (fun u9 H locs huu9 Y => ?_)
      obtain ⟨u9_1, ⟨u9_2_left, u9_2_numbers⟩⟩ := u9
      replace Y : rY G A s (wAS G a0 a0_numbers u9_2_left u9_2_numbers ++ wBD G a1 a1_firms a1_kindsTold a1_places a1_crowds a1_pipsLeft a1_notHome S1_points S1_home S1_men S1_turn S1_thrower S1_cube S1_owner S1_firms S1_kindsTold S1_places S1_crowds S1_pipsLeft S1_notHome) H locs := Y
      replace hM := mS hM huu9
      show W p l e q_X1_begun_4 s m args below meth c H locs 0 0 Q (F0 m 160 ls [.int u9_1, .int (2 : Int32)])
      refine r_imul (pc' := 161) X 56 rfl rfl ?_
      exact RT (((2 : Int32) * u9_1), (u9_2_left, u9_2_numbers)) _ _ _ _ _ hM (Or.inl ⟨rfl, rfl, _, rfl⟩) (X.d (k := 57) rfl) Y
    replace hM := mE hM h3_14
    by_cases h3_15 : i3 = 15
    · replace hM := mI hM h3_15
      refine r_tabIn X 229 13 rfl (15 : Int32) h3_15 (by decide) rfl (by decide) ?_
      refine r_iconst (pc' := 230) X (0 : Int32) 102 rfl rfl rfl ?_
      exact RT ((0 : Int32), (u2_left, u2_numbers)) _ _ _ _ _ hM (Or.inl ⟨rfl, rfl, _, rfl⟩) (X.d (k := 103) rfl) Y
    replace hM := mE hM h3_15
    by_cases h3_16 : i3 = 16
    · replace hM := mI hM h3_16
      refine r_tabIn X 229 13 rfl (16 : Int32) h3_16 (by decide) rfl (by decide) ?_
      refine r_iconst (pc' := 230) X (0 : Int32) 102 rfl rfl rfl ?_
      exact RT ((0 : Int32), (u2_left, u2_numbers)) _ _ _ _ _ hM (Or.inl ⟨rfl, rfl, _, rfl⟩) (X.d (k := 103) rfl) Y
    replace hM := mE hM h3_16
    by_cases h3_17 : i3 = 17
    · replace hM := mI hM h3_17
      refine r_tabIn X 229 13 rfl (17 : Int32) h3_17 (by decide) rfl (by decide) ?_
      refine r_iconst (pc' := 230) X (0 : Int32) 102 rfl rfl rfl ?_
      exact RT ((0 : Int32), (u2_left, u2_numbers)) _ _ _ _ _ hM (Or.inl ⟨rfl, rfl, _, rfl⟩) (X.d (k := 103) rfl) Y
    replace hM := mE hM h3_17
    by_cases h3_18 : i3 = 18
    · replace hM := mI hM h3_18
      refine r_tabIn X 229 13 rfl (18 : Int32) h3_18 (by decide) rfl (by decide) ?_
      refine r_iconst (pc' := 230) X (0 : Int32) 102 rfl rfl rfl ?_
      exact RT ((0 : Int32), (u2_left, u2_numbers)) _ _ _ _ _ hM (Or.inl ⟨rfl, rfl, _, rfl⟩) (X.d (k := 103) rfl) Y
    replace hM := mE hM h3_18
    by_cases h3_19 : i3 = 19
    · replace hM := mI hM h3_19
      refine r_tabIn X 229 13 rfl (19 : Int32) h3_19 (by decide) rfl (by decide) ?_
      refine r_iconst (pc' := 230) X (0 : Int32) 102 rfl rfl rfl ?_
      exact RT ((0 : Int32), (u2_left, u2_numbers)) _ _ _ _ _ hM (Or.inl ⟨rfl, rfl, _, rfl⟩) (X.d (k := 103) rfl) Y
    replace hM := mE hM h3_19
    by_cases h3_20 : i3 = 20
    · replace hM := mI hM h3_20
      refine r_tabIn X 162 13 rfl (20 : Int32) h3_20 (by decide) rfl (by decide) ?_
      refine r_iload_n (pc' := 163) X hl 3 rfl rfl 58 rfl rfl ?_
      exact RT (i2, (u2_left, u2_numbers)) _ _ _ _ _ hM (Or.inl ⟨rfl, rfl, _, rfl⟩) (X.d (k := 59) rfl) Y
    replace hM := mE hM h3_20
    by_cases h3_21 : i3 = 21
    · replace hM := mI hM h3_21
      refine r_tabIn X 164 13 rfl (21 : Int32) h3_21 (by decide) rfl (by decide) ?_
      refine r_aload_n (pc' := 165) X hl 1 rfl rfl 60 rfl rfl ?_
      refine r_aload_n (pc' := 166) X hl 2 rfl rfl 61 rfl rfl ?_
      refine r_iload_n (pc' := 167) X hl 3 rfl rfl 62 rfl rfl ?_
      refine r_bipush (pc' := 169) X (20 : Int32) 63 rfl rfl rfl ?_
      refine r_iload (pc' := 171) X hl 0 rfl 64 rfl rfl ?_
      refine r_callS (pc' := 174) (As := [.ref a0, .ref a1, .int i2, .int (20 : Int32), .int (i4 + (1 : Int32))]) (rest := []) (wr := ([] : va_W)) X Y 65 rfl rfl mRX1_35 (c_X1_begun_3 l G a0 a1 a0_numbers a1_firms a1_kindsTold a1_places a1_crowds a1_pipsLeft a1_notHome u2_left u2_numbers S1_points S1_home S1_men S1_turn S1_thrower S1_cube S1_owner S1_firms S1_kindsTold S1_places S1_crowds S1_pipsLeft S1_notHome i2 (20 : Int32) ((i4 + (1 : Int32)))) (mB hM hne) rfl [0, 1, 2, 3, 4, 5, 6, 7, 8] [] [0, 1, 2, 3, 4, 5, 6, 7, 8] rfl rfl ⟨rfl, rfl, rfl⟩ rfl (w2 := fun u10 => wAS G a0 a0_numbers u10.2.1 u10.2.2 ++ wBD G a1 a1_firms a1_kindsTold a1_places a1_crowds a1_pipsLeft a1_notHome S1_points S1_home S1_men S1_turn S1_thrower S1_cube S1_owner S1_firms S1_kindsTold S1_places S1_crowds S1_pipsLeft S1_notHome) (fun _ => rfl) rfl (Nat.le_of_ble_eq_true rfl) ⟨rfl, rfl⟩ ⟨Nat.le_of_ble_eq_true rfl, Nat.le_of_ble_eq_true rfl⟩ ⟨Nat.zero_le _, Nat.zero_le _⟩ hl.1 (st' := fun u10 => [.int u10.1]) (fun _ => rfl) (fun u10 H locs huu10 Y => ?_)
      obtain ⟨u10_1, ⟨u10_2_left, u10_2_numbers⟩⟩ := u10
      replace Y : rY G A s (wAS G a0 a0_numbers u10_2_left u10_2_numbers ++ wBD G a1 a1_firms a1_kindsTold a1_places a1_crowds a1_pipsLeft a1_notHome S1_points S1_home S1_men S1_turn S1_thrower S1_cube S1_owner S1_firms S1_kindsTold S1_places S1_crowds S1_pipsLeft S1_notHome) H locs := Y
      replace hM := mS hM huu10
      show W p l e q_X1_begun_4 s m args below meth c H locs 0 0 Q (F0 m 174 ls [.int u10_1])
      refine r_aload_n (pc' := 175) X hl 2 rfl rfl 66 rfl rfl ?_
      refine r_getN (pc' := 178) (v := .int S1_cube) X Y 67 rfl rfl fRX1_52 2 rfl rfl ?_
      refine r_iadd (pc' := 179) X 68 rfl rfl ?_
      exact RT ((u10_1 + S1_cube), (u10_2_left, u10_2_numbers)) _ _ _ _ _ hM (Or.inl ⟨rfl, rfl, _, rfl⟩) (X.d (k := 69) rfl) Y
    replace hM := mE hM h3_21
    by_cases h3_22 : i3 = 22
    · replace hM := mI hM h3_22
      refine r_tabIn X 180 13 rfl (22 : Int32) h3_22 (by decide) rfl (by decide) ?_
      refine r_aload_n (pc' := 181) X hl 1 rfl rfl 70 rfl rfl ?_
      refine r_aload_n (pc' := 182) X hl 2 rfl rfl 71 rfl rfl ?_
      refine r_iload_n (pc' := 183) X hl 3 rfl rfl 72 rfl rfl ?_
      refine r_bipush (pc' := 185) X (21 : Int32) 73 rfl rfl rfl ?_
      refine r_iload (pc' := 187) X hl 0 rfl 74 rfl rfl ?_
      refine r_callS (pc' := 190) (As := [.ref a0, .ref a1, .int i2, .int (21 : Int32), .int (i4 + (1 : Int32))]) (rest := []) (wr := ([] : va_W)) X Y 75 rfl rfl mRX1_35 (c_X1_begun_3 l G a0 a1 a0_numbers a1_firms a1_kindsTold a1_places a1_crowds a1_pipsLeft a1_notHome u2_left u2_numbers S1_points S1_home S1_men S1_turn S1_thrower S1_cube S1_owner S1_firms S1_kindsTold S1_places S1_crowds S1_pipsLeft S1_notHome i2 (21 : Int32) ((i4 + (1 : Int32)))) (mB hM hne) rfl [0, 1, 2, 3, 4, 5, 6, 7, 8] [] [0, 1, 2, 3, 4, 5, 6, 7, 8] rfl rfl ⟨rfl, rfl, rfl⟩ rfl (w2 := fun u11 => wAS G a0 a0_numbers u11.2.1 u11.2.2 ++ wBD G a1 a1_firms a1_kindsTold a1_places a1_crowds a1_pipsLeft a1_notHome S1_points S1_home S1_men S1_turn S1_thrower S1_cube S1_owner S1_firms S1_kindsTold S1_places S1_crowds S1_pipsLeft S1_notHome) (fun _ => rfl) rfl (Nat.le_of_ble_eq_true rfl) ⟨rfl, rfl⟩ ⟨Nat.le_of_ble_eq_true rfl, Nat.le_of_ble_eq_true rfl⟩ ⟨Nat.zero_le _, Nat.zero_le _⟩ hl.1 (st' := fun u11 => [.int u11.1]) (fun _ => rfl) (fun u11 H locs huu11 Y => ?_)
      obtain ⟨u11_1, ⟨u11_2_left, u11_2_numbers⟩⟩ := u11
      replace Y : rY G A s (wAS G a0 a0_numbers u11_2_left u11_2_numbers ++ wBD G a1 a1_firms a1_kindsTold a1_places a1_crowds a1_pipsLeft a1_notHome S1_points S1_home S1_men S1_turn S1_thrower S1_cube S1_owner S1_firms S1_kindsTold S1_places S1_crowds S1_pipsLeft S1_notHome) H locs := Y
      replace hM := mS hM huu11
      show W p l e q_X1_begun_4 s m args below meth c H locs 0 0 Q (F0 m 190 ls [.int u11_1])
      refine r_sipush (pc' := 193) X (1000 : Int32) 76 rfl rfl rfl ?_
      refine r_isub (pc' := 194) X 77 rfl rfl ?_
      exact RT ((u11_1 - (1000 : Int32)), (u11_2_left, u11_2_numbers)) _ _ _ _ _ hM (Or.inl ⟨rfl, rfl, _, rfl⟩) (X.d (k := 78) rfl) Y
    replace hM := mE hM h3_22
    by_cases h3_23 : i3 = 23
    · replace hM := mI hM h3_23
      refine r_tabIn X 195 13 rfl (23 : Int32) h3_23 (by decide) rfl (by decide) ?_
      refine r_aload_n (pc' := 196) X hl 1 rfl rfl 79 rfl rfl ?_
      refine r_aload_n (pc' := 197) X hl 2 rfl rfl 80 rfl rfl ?_
      refine r_iload_n (pc' := 198) X hl 3 rfl rfl 81 rfl rfl ?_
      refine r_bipush (pc' := 200) X (20 : Int32) 82 rfl rfl rfl ?_
      refine r_iload (pc' := 202) X hl 0 rfl 83 rfl rfl ?_
      refine r_callS (pc' := 205) (As := [.ref a0, .ref a1, .int i2, .int (20 : Int32), .int (i4 + (1 : Int32))]) (rest := []) (wr := ([] : va_W)) X Y 84 rfl rfl mRX1_35 (c_X1_begun_3 l G a0 a1 a0_numbers a1_firms a1_kindsTold a1_places a1_crowds a1_pipsLeft a1_notHome u2_left u2_numbers S1_points S1_home S1_men S1_turn S1_thrower S1_cube S1_owner S1_firms S1_kindsTold S1_places S1_crowds S1_pipsLeft S1_notHome i2 (20 : Int32) ((i4 + (1 : Int32)))) (mB hM hne) rfl [0, 1, 2, 3, 4, 5, 6, 7, 8] [] [0, 1, 2, 3, 4, 5, 6, 7, 8] rfl rfl ⟨rfl, rfl, rfl⟩ rfl (w2 := fun u12 => wAS G a0 a0_numbers u12.2.1 u12.2.2 ++ wBD G a1 a1_firms a1_kindsTold a1_places a1_crowds a1_pipsLeft a1_notHome S1_points S1_home S1_men S1_turn S1_thrower S1_cube S1_owner S1_firms S1_kindsTold S1_places S1_crowds S1_pipsLeft S1_notHome) (fun _ => rfl) rfl (Nat.le_of_ble_eq_true rfl) ⟨rfl, rfl⟩ ⟨Nat.le_of_ble_eq_true rfl, Nat.le_of_ble_eq_true rfl⟩ ⟨Nat.zero_le _, Nat.zero_le _⟩ hl.1 (st' := fun u12 => [.int u12.1]) (fun _ => rfl) (fun u12 H locs huu12 Y => ?_)
      obtain ⟨u12_1, ⟨u12_2_left, u12_2_numbers⟩⟩ := u12
      replace Y : rY G A s (wAS G a0 a0_numbers u12_2_left u12_2_numbers ++ wBD G a1 a1_firms a1_kindsTold a1_places a1_crowds a1_pipsLeft a1_notHome S1_points S1_home S1_men S1_turn S1_thrower S1_cube S1_owner S1_firms S1_kindsTold S1_places S1_crowds S1_pipsLeft S1_notHome) H locs := Y
      replace hM := mS hM huu12
      show W p l e q_X1_begun_4 s m args below meth c H locs 0 0 Q (F0 m 205 ls [.int u12_1])
      refine r_aload_n (pc' := 206) X hl 1 rfl rfl 85 rfl rfl ?_
      refine r_aload_n (pc' := 207) X hl 2 rfl rfl 86 rfl rfl ?_
      refine r_iload_n (pc' := 208) X hl 3 rfl rfl 87 rfl rfl ?_
      refine r_iconst (pc' := 209) X (0 : Int32) 88 rfl rfl rfl ?_
      refine r_iload (pc' := 211) X hl 0 rfl 89 rfl rfl ?_
      refine r_callS (pc' := 214) (As := [.ref a0, .ref a1, .int i2, .int (0 : Int32), .int (i4 + (1 : Int32))]) (rest := [.int u12_1]) (wr := ([] : va_W)) X Y 90 rfl rfl mRX1_19 (c_X1_anew_3 l G a0 a1 a1_firms a1_kindsTold a1_places a1_crowds a1_pipsLeft a1_notHome a0_numbers S1_points S1_home S1_men S1_turn S1_thrower S1_cube S1_owner S1_firms S1_kindsTold S1_places S1_crowds S1_pipsLeft S1_notHome u12_2_left u12_2_numbers i2 (0 : Int32) ((i4 + (1 : Int32)))) (mB hM hne) rfl [2, 3, 4, 5, 6, 7, 8, 0, 1] [] [7, 8, 0, 1, 2, 3, 4, 5, 6] rfl rfl ⟨rfl, rfl, rfl⟩ rfl (w2 := fun u13 => wAS G a0 a0_numbers u13.2.1 u13.2.2 ++ wBD G a1 a1_firms a1_kindsTold a1_places a1_crowds a1_pipsLeft a1_notHome S1_points S1_home S1_men S1_turn S1_thrower S1_cube S1_owner S1_firms S1_kindsTold S1_places S1_crowds S1_pipsLeft S1_notHome) (fun _ => rfl) rfl (Nat.le_of_ble_eq_true rfl) ⟨rfl, rfl⟩ ⟨Nat.le_of_ble_eq_true rfl, Nat.le_of_ble_eq_true rfl⟩ ⟨Nat.zero_le _, Nat.zero_le _⟩ hl.1 (st' := fun u13 => [.int u13.1, .int u12_1]) (fun _ => rfl) (fun u13 H locs huu13 Y => ?_)
      obtain ⟨u13_1, ⟨u13_2_left, u13_2_numbers⟩⟩ := u13
      replace Y : rY G A s (wAS G a0 a0_numbers u13_2_left u13_2_numbers ++ wBD G a1 a1_firms a1_kindsTold a1_places a1_crowds a1_pipsLeft a1_notHome S1_points S1_home S1_men S1_turn S1_thrower S1_cube S1_owner S1_firms S1_kindsTold S1_places S1_crowds S1_pipsLeft S1_notHome) H locs := Y
      replace hM := mS hM huu13
      show W p l e q_X1_begun_4 s m args below meth c H locs 0 0 Q (F0 m 214 ls [.int u13_1, .int u12_1])
      refine r_isub (pc' := 215) X 91 rfl rfl ?_
      exact RT ((u12_1 - u13_1), (u13_2_left, u13_2_numbers)) _ _ _ _ _ hM (Or.inl ⟨rfl, rfl, _, rfl⟩) (X.d (k := 92) rfl) Y
    replace hM := mE hM h3_23
    by_cases h3_24 : i3 = 24
    · replace hM := mI hM h3_24
      refine r_tabIn X 216 13 rfl (24 : Int32) h3_24 (by decide) rfl (by decide) ?_
      refine r_iconst (pc' := 217) X (2 : Int32) 93 rfl rfl rfl ?_
      refine r_aload_n (pc' := 218) X hl 1 rfl rfl 94 rfl rfl ?_
      refine r_aload_n (pc' := 219) X hl 2 rfl rfl 95 rfl rfl ?_
      refine r_iload_n (pc' := 220) X hl 3 rfl rfl 96 rfl rfl ?_
      refine r_bipush (pc' := 222) X (21 : Int32) 97 rfl rfl rfl ?_
      refine r_iload (pc' := 224) X hl 0 rfl 98 rfl rfl ?_
      refine r_callS (pc' := 227) (As := [.ref a0, .ref a1, .int i2, .int (21 : Int32), .int (i4 + (1 : Int32))]) (rest := [.int (2 : Int32)]) (wr := ([] : va_W)) X Y 99 rfl rfl mRX1_35 (c_X1_begun_3 l G a0 a1 a0_numbers a1_firms a1_kindsTold a1_places a1_crowds a1_pipsLeft a1_notHome u2_left u2_numbers S1_points S1_home S1_men S1_turn S1_thrower S1_cube S1_owner S1_firms S1_kindsTold S1_places S1_crowds S1_pipsLeft S1_notHome i2 (21 : Int32) ((i4 + (1 : Int32)))) (mB hM hne) rfl [0, 1, 2, 3, 4, 5, 6, 7, 8] [] [0, 1, 2, 3, 4, 5, 6, 7, 8] rfl rfl ⟨rfl, rfl, rfl⟩ rfl (w2 := fun u14 => wAS G a0 a0_numbers u14.2.1 u14.2.2 ++ wBD G a1 a1_firms a1_kindsTold a1_places a1_crowds a1_pipsLeft a1_notHome S1_points S1_home S1_men S1_turn S1_thrower S1_cube S1_owner S1_firms S1_kindsTold S1_places S1_crowds S1_pipsLeft S1_notHome) (fun _ => rfl) rfl (Nat.le_of_ble_eq_true rfl) ⟨rfl, rfl⟩ ⟨Nat.le_of_ble_eq_true rfl, Nat.le_of_ble_eq_true rfl⟩ ⟨Nat.zero_le _, Nat.zero_le _⟩ hl.1 (st' := fun u14 => [.int u14.1, .int (2 : Int32)]) (fun _ => rfl) (fun u14 H locs huu14 Y => ?_)
      obtain ⟨u14_1, ⟨u14_2_left, u14_2_numbers⟩⟩ := u14
      replace Y : rY G A s (wAS G a0 a0_numbers u14_2_left u14_2_numbers ++ wBD G a1 a1_firms a1_kindsTold a1_places a1_crowds a1_pipsLeft a1_notHome S1_points S1_home S1_men S1_turn S1_thrower S1_cube S1_owner S1_firms S1_kindsTold S1_places S1_crowds S1_pipsLeft S1_notHome) H locs := Y
      replace hM := mS hM huu14
      show W p l e q_X1_begun_4 s m args below meth c H locs 0 0 Q (F0 m 227 ls [.int u14_1, .int (2 : Int32)])
      refine r_imul (pc' := 228) X 100 rfl rfl ?_
      exact RT (((2 : Int32) * u14_1), (u14_2_left, u14_2_numbers)) _ _ _ _ _ hM (Or.inl ⟨rfl, rfl, _, rfl⟩) (X.d (k := 101) rfl) Y
    replace hM := mE hM h3_24
    refine r_tabOut X 229 13 rfl ((tsw (x := i3) 10 15 (fun k hk => match k, hk with | 0, _ => h3_10 | 1, _ => h3_11 | 2, _ => h3_12 | 3, _ => h3_13 | 4, _ => h3_14 | 5, _ => h3_15 | 6, _ => h3_16 | 7, _ => h3_17 | 8, _ => h3_18 | 9, _ => h3_19 | 10, _ => h3_20 | 11, _ => h3_21 | 12, _ => h3_22 | 13, _ => h3_23 | 14, _ => h3_24) (by decide)).imp id (fun z => Int.lt_of_lt_of_le (by decide) z)) (by decide) ?_
    refine r_iconst (pc' := 230) X (0 : Int32) 102 rfl rfl rfl ?_
    exact RT ((0 : Int32), (u2_left, u2_numbers)) _ _ _ _ _ hM (Or.inl ⟨rfl, rfl, _, rfl⟩) (X.d (k := 103) rfl) Y
  · replace hM := mE hM c1
    refine r_iconst (pc' := 8) X (0 : Int32) 3 rfl rfl rfl ?_
    exact RT ((0 : Int32), (S0_left, S0_numbers)) _ _ _ _ _ hM (Or.inl ⟨rfl, rfl, _, rfl⟩) (X.d (k := 4) rfl) Y

def M_X1_anew_4 (S0 : BD) (S1 : AS) (i2 : Int32) (i3 : Int32) (i4 : Int32) : Option (Int32 × AS) :=
  (if inb i2 8 = true then ((M_X1_bodyTold i3 (((bd_kindsTold S0) (i2).toNatClampNeg))).bind (fun u2 => ((lp (σ := Int32 × Int32 × Int32) (β := Int32) (fun rec3 st3 => (if (6 : Int32) ≤ st3.2.2 then (some st3.2.1) else (if st3.2.1 = 0 then (if inb st3.1 6 = true then ((M_X1_bodyTold i3 ((kx0 (st3.1).toNatClampNeg))).bind (fun u8 => (rec3 ((kx0 (st3.1).toNatClampNeg), u8, (st3.2.2 + (1 : Int32)))))) else none) else (some st3.2.1)))) 1000000 (((bd_kindsTold S0) (i2).toNatClampNeg), u2, (0 : Int32))).bind (fun b3 => ((M_X1_begun_4 S1 S0 i2 b3 i4).bind (fun u4 => (some (u4.1, u4.2)))))))) else none)
def q_X1_anew_4 : Room := { frames := 11, cells := 0, slots := 0, locals := 315 }
set_option maxHeartbeats 4000000 in
set_option maxRecDepth 100000 in
theorem c_X1_anew_4 (l : Launch) (G : gT) (a0 a1 a1_firms a1_kindsTold a1_places a1_crowds a1_pipsLeft a1_notHome a0_numbers : Nat) (S0_points : Int32) (S0_home : Int32) (S0_men : Int32) (S0_turn : Int32) (S0_thrower : Int32) (S0_cube : Int32) (S0_owner : Int32) (S0_firms : Nat → Int32) (S0_kindsTold : Nat → Int32) (S0_places : Nat → Int32) (S0_crowds : Nat → Int32) (S0_pipsLeft : Nat → Int32) (S0_notHome : Nat → Int32) (S1_left : Int32) (S1_numbers : Nat → Int32) (i2 : Int32) (i3 : Int32) (i4 : Int32) : CT l G yX1_anew cX1_anew 8 (some .int) q_X1_anew_4 [.ref a0, .ref a1, .int i2, .int i3, .int i4] (wBD G a1 a1_firms a1_kindsTold a1_places a1_crowds a1_pipsLeft a1_notHome S0_points S0_home S0_men S0_turn S0_thrower S0_cube S0_owner S0_firms S0_kindsTold S0_places S0_crowds S0_pipsLeft S0_notHome ++ wAS G a0 a0_numbers S1_left S1_numbers) (M_X1_anew_4 (S0_points, S0_home, S0_men, S0_turn, S0_thrower, S0_cube, S0_owner, S0_firms, S0_kindsTold, S0_places, S0_crowds, S0_pipsLeft, S0_notHome) (S1_left, S1_numbers) i2 i3 i4) (fun u => some (.int u.1)) (fun u => wBD G a1 a1_firms a1_kindsTold a1_places a1_crowds a1_pipsLeft a1_notHome S0_points S0_home S0_men S0_turn S0_thrower S0_cube S0_owner S0_firms S0_kindsTold S0_places S0_crowds S0_pipsLeft S0_notHome ++ wAS G a0 a0_numbers u.2.1 u.2.2) := by
  refine CT.of (P := PX1_anew) (by decide) dPX1_anew (Nat.le_of_ble_eq_true rfl) ?_
  intro p e s m args below meth c A Q ls hne X RT Y hl
  have hl : lv_has ls 8 [(0, .ref a0), (1, .ref a1), (2, .int i2), (3, .int i3), (4, .int i4)] := hl
  generalize hM : M_X1_anew_4 (S0_points, S0_home, S0_men, S0_turn, S0_thrower, S0_cube, S0_owner, S0_firms, S0_kindsTold, S0_places, S0_crowds, S0_pipsLeft, S0_notHome) (S1_left, S1_numbers) i2 i3 i4 = MM at hne RT
  unfold M_X1_anew_4 at hM
  refine r_aload_n (pc' := 1) X hl 1 rfl rfl 0 rfl rfl ?_
  refine r_getN (pc' := 4) (v := .ref a1_kindsTold) X Y 1 rfl rfl fRX1_23 0 rfl rfl ?_
  refine r_iload_n (pc' := 5) X hl 2 rfl rfl 2 rfl rfl ?_
  obtain ⟨g1, hM⟩ := mG hM hne
  refine r_iald (pc' := 6) X Y 3 rfl rfl 2 rfl (vin g1) ?_
  refine r_istore (pc' := 8) (L' := [(5, .int (S0_kindsTold (i2).toNatClampNeg)), (0, .ref a0), (1, .ref a1), (2, .int i2), (3, .int i3), (4, .int i4)]) X hl 4 rfl rfl (by decide) rfl (fun ls hl => ?_)
  refine r_iload_n (pc' := 9) X hl 4 rfl rfl 5 rfl rfl ?_
  refine r_iload (pc' := 11) X hl 0 rfl 6 rfl rfl ?_
  refine r_callS0 (pc' := 14) (As := [.int i3, .int (S0_kindsTold (i2).toNatClampNeg)]) (rest := []) X Y 7 rfl rfl mRX1_28 (c_X1_bodyTold l G i3 ((S0_kindsTold (i2).toNatClampNeg))) (mB hM hne) rfl [] rfl rfl rfl (Nat.le_of_ble_eq_true rfl) ⟨rfl, rfl⟩ ⟨Nat.le_of_ble_eq_true rfl, Nat.le_of_ble_eq_true rfl⟩ ⟨Nat.zero_le _, Nat.zero_le _⟩ hl.1 (st' := fun u2 => [.int u2]) (fun _ => rfl) (fun u2 H locs huu2 Y => ?_)
  replace hM := mS hM huu2
  refine r_istore (pc' := 16) (L' := [(6, .int u2), (5, .int (S0_kindsTold (i2).toNatClampNeg)), (0, .ref a0), (1, .ref a1), (2, .int i2), (3, .int i3), (4, .int i4)]) X hl 8 rfl rfl (by decide) rfl (fun ls hl => ?_)
  refine r_iconst (pc' := 17) X (0 : Int32) 9 rfl rfl rfl ?_
  refine r_istore (pc' := 19) (L' := [(7, .int (0 : Int32)), (6, .int u2), (5, .int (S0_kindsTold (i2).toNatClampNeg)), (0, .ref a0), (1, .ref a1), (2, .int i2), (3, .int i3), (4, .int i4)]) X hl 10 rfl rfl (by decide) rfl (fun ls hl => ?_)
  obtain ⟨LL3, hL3, hne3, hX3⟩ := mL hM hne
  have KX3 : ∀ (b3 : Int32) (H : Heap) (locs : List Loc) (ls : Array Slot), some b3 = LL3 → rY G A s (wBD G a1 a1_firms a1_kindsTold a1_places a1_crowds a1_pipsLeft a1_notHome S0_points S0_home S0_men S0_turn S0_thrower S0_cube S0_owner S0_firms S0_kindsTold S0_places S0_crowds S0_pipsLeft S0_notHome ++ wAS G a0 a0_numbers S1_left S1_numbers) H locs → lv_has ls 8 [(0, .ref a0), (1, .ref a1), (2, .int i2), (4, .int i4), (6, .int b3)] → W p l e q_X1_anew_4 s m args below meth c H locs 0 0 Q (F0 m 53 ls []) := by
    intro b3 H locs ls hM Y hl
    replace hM := hX3 _ hM
    refine r_aload_n (pc' := 54) X hl 0 rfl rfl 26 rfl rfl ?_
    refine r_aload_n (pc' := 55) X hl 1 rfl rfl 27 rfl rfl ?_
    refine r_iload_n (pc' := 56) X hl 2 rfl rfl 28 rfl rfl ?_
    refine r_iload (pc' := 58) X hl 4 rfl 29 rfl rfl ?_
    refine r_iload (pc' := 60) X hl 3 rfl 30 rfl rfl ?_
    refine r_callS (pc' := 63) (As := [.ref a0, .ref a1, .int i2, .int b3, .int i4]) (rest := []) (wr := ([] : va_W)) X Y 31 rfl rfl mRX1_35 (c_X1_begun_4 l G a0 a1 a0_numbers a1_firms a1_kindsTold a1_places a1_crowds a1_pipsLeft a1_notHome S1_left S1_numbers S0_points S0_home S0_men S0_turn S0_thrower S0_cube S0_owner S0_firms S0_kindsTold S0_places S0_crowds S0_pipsLeft S0_notHome i2 b3 i4) (mB hM hne) rfl [7, 8, 0, 1, 2, 3, 4, 5, 6] [] [2, 3, 4, 5, 6, 7, 8, 0, 1] rfl rfl ⟨rfl, rfl, rfl⟩ rfl (w2 := fun u4 => wBD G a1 a1_firms a1_kindsTold a1_places a1_crowds a1_pipsLeft a1_notHome S0_points S0_home S0_men S0_turn S0_thrower S0_cube S0_owner S0_firms S0_kindsTold S0_places S0_crowds S0_pipsLeft S0_notHome ++ wAS G a0 a0_numbers u4.2.1 u4.2.2) (fun _ => rfl) rfl (Nat.le_of_ble_eq_true rfl) ⟨rfl, rfl⟩ ⟨Nat.le_of_ble_eq_true rfl, Nat.le_of_ble_eq_true rfl⟩ ⟨Nat.zero_le _, Nat.zero_le _⟩ hl.1 (st' := fun u4 => [.int u4.1]) (fun _ => rfl) (fun u4 H locs huu4 Y => ?_)
    obtain ⟨u4_1, ⟨u4_2_left, u4_2_numbers⟩⟩ := u4
    replace Y : rY G A s (wBD G a1 a1_firms a1_kindsTold a1_places a1_crowds a1_pipsLeft a1_notHome S0_points S0_home S0_men S0_turn S0_thrower S0_cube S0_owner S0_firms S0_kindsTold S0_places S0_crowds S0_pipsLeft S0_notHome ++ wAS G a0 a0_numbers u4_2_left u4_2_numbers) H locs := Y
    replace hM := mS hM huu4
    show W p l e q_X1_anew_4 s m args below meth c H locs 0 0 Q (F0 m 63 ls [.int u4_1])
    exact RT (u4_1, (u4_2_left, u4_2_numbers)) _ _ _ _ _ hM (Or.inl ⟨rfl, rfl, _, rfl⟩) (X.d (k := 32) rfl) Y
  refine lp_rule (I := fun (st3 : Int32 × Int32 × Int32) => ∀ (H : Heap) (locs : List Loc) (ls : Array Slot), rY G A s (wBD G a1 a1_firms a1_kindsTold a1_places a1_crowds a1_pipsLeft a1_notHome S0_points S0_home S0_men S0_turn S0_thrower S0_cube S0_owner S0_firms S0_kindsTold S0_places S0_crowds S0_pipsLeft S0_notHome ++ wAS G a0 a0_numbers S1_left S1_numbers) H locs → lv_has ls 8 [(0, .ref a0), (1, .ref a1), (2, .int i2), (3, .int i3), (4, .int i4), (5, .int st3.1), (6, .int st3.2.1), (7, .int st3.2.2)] → W p l e q_X1_anew_4 s m args below meth c H locs 0 0 Q (F0 m 19 ls [])) hne3 (fun rec3 st3 IH3 hM => ?_) _ _ hL3 _ _ _ Y (lv_sub hl [3, 4, 5, 6, 7, 2, 1, 0] rfl)
  intro H locs ls Y hl
  obtain ⟨st3_1, st3_2_1, st3_2_2⟩ := st3
  replace Y : rY G A s (wBD G a1 a1_firms a1_kindsTold a1_places a1_crowds a1_pipsLeft a1_notHome S0_points S0_home S0_men S0_turn S0_thrower S0_cube S0_owner S0_firms S0_kindsTold S0_places S0_crowds S0_pipsLeft S0_notHome ++ wAS G a0 a0_numbers S1_left S1_numbers) H locs := Y
  replace hl : lv_has ls 8 [(0, .ref a0), (1, .ref a1), (2, .int i2), (3, .int i3), (4, .int i4), (5, .int st3_1), (6, .int st3_2_1), (7, .int st3_2_2)] := hl
  refine r_iload (pc' := 21) X hl 7 rfl 11 rfl rfl ?_
  refine r_bipush (pc' := 23) X (6 : Int32) 12 rfl rfl rfl ?_
  refine r_icmp_ge (pc' := 26) X 53 13 rfl rfl (by decide) (fun c5 => ?_) (fun c5 => ?_)
  · replace hM := mI hM c5
    exact KX3 st3_2_1 _ _ _ hM Y (lv_sub hl [0, 1, 2, 4, 6] rfl)
  · replace hM := mE hM c5
    refine r_iload (pc' := 28) X hl 6 rfl 14 rfl rfl ?_
    refine r_if_ne (pc' := 31) X 53 15 rfl rfl (by decide) (fun c6 => ?_) (fun c6 => ?_)
    · replace hM := mE hM c6
      exact KX3 st3_2_1 _ _ _ hM Y (lv_sub hl [0, 1, 2, 4, 6] rfl)
    · replace hM := mI hM c6
      refine r_getsN_kab (pc' := 34) X Y 16 rfl rfl nw45 ?_
      refine r_iload (pc' := 36) X hl 5 rfl 17 rfl rfl ?_
      obtain ⟨g7, hM⟩ := mG hM hne3
      refine r_sld_kab (pc' := 37) X Y 18 rfl rfl (vin g7) ?_
      refine r_istore (pc' := 39) (L' := [(5, .int (kx0 (st3_1).toNatClampNeg)), (0, .ref a0), (1, .ref a1), (2, .int i2), (3, .int i3), (4, .int i4), (6, .int st3_2_1), (7, .int st3_2_2)]) X hl 19 rfl rfl (by decide) rfl (fun ls hl => ?_)
      refine r_iload_n (pc' := 40) X hl 4 rfl rfl 20 rfl rfl ?_
      refine r_iload (pc' := 42) X hl 0 rfl 21 rfl rfl ?_
      refine r_callS0 (pc' := 45) (As := [.int i3, .int (kx0 (st3_1).toNatClampNeg)]) (rest := []) X Y 22 rfl rfl mRX1_28 (c_X1_bodyTold l G i3 ((kx0 (st3_1).toNatClampNeg))) (mB hM hne3) rfl [] rfl rfl rfl (Nat.le_of_ble_eq_true rfl) ⟨rfl, rfl⟩ ⟨Nat.le_of_ble_eq_true rfl, Nat.le_of_ble_eq_true rfl⟩ ⟨Nat.zero_le _, Nat.zero_le _⟩ hl.1 (st' := fun u8 => [.int u8]) (fun _ => rfl) (fun u8 H locs huu8 Y => ?_)
      replace hM := mS hM huu8
      refine r_istore (pc' := 47) (L' := [(6, .int u8), (5, .int (kx0 (st3_1).toNatClampNeg)), (0, .ref a0), (1, .ref a1), (2, .int i2), (3, .int i3), (4, .int i4), (7, .int st3_2_2)]) X hl 23 rfl rfl (by decide) rfl (fun ls hl => ?_)
      refine r_iinc (pc' := 50) (L' := [(7, .int (st3_2_2 + (1 : Int32))), (6, .int u8), (5, .int (kx0 (st3_1).toNatClampNeg)), (0, .ref a0), (1, .ref a1), (2, .int i2), (3, .int i3), (4, .int i4)]) X (st3_2_2 + (1 : Int32)) hl 7 rfl rfl 24 rfl rfl (by decide) rfl (fun ls hl => ?_)
      refine r_goto X 19 25 rfl (by decide) ?_
      exact IH3 _ hM _ _ _ Y (lv_sub hl [3, 4, 5, 6, 7, 2, 1, 0] rfl)

def M_X1_answerOf (S0 : AS) (S1 : BD) (i2 : Int32) (i3 : Int32) : Option (Int32 × AS) :=
  ((M_X1_anew_4 S1 ((as_s_left S0 (0 : Int32))) i2 i3 (0 : Int32)).bind (fun u1 => (some (u1.1, u1.2))))
def q_X1_answerOf : Room := { frames := 12, cells := 0, slots := 0, locals := 342 }
set_option maxHeartbeats 4000000 in
set_option maxRecDepth 100000 in
theorem c_X1_answerOf (l : Launch) (G : gT) (h a1 h_numbers a1_firms a1_kindsTold a1_places a1_crowds a1_pipsLeft a1_notHome : Nat) (S0_left : Int32) (S0_numbers : Nat → Int32) (S1_points : Int32) (S1_home : Int32) (S1_men : Int32) (S1_turn : Int32) (S1_thrower : Int32) (S1_cube : Int32) (S1_owner : Int32) (S1_firms : Nat → Int32) (S1_kindsTold : Nat → Int32) (S1_places : Nat → Int32) (S1_crowds : Nat → Int32) (S1_pipsLeft : Nat → Int32) (S1_notHome : Nat → Int32) (i2 : Int32) (i3 : Int32) : CT l G yX1_answerOf cX1_answerOf 4 (some .int) q_X1_answerOf [.ref h, .ref a1, .int i2, .int i3] (wAS G h h_numbers S0_left S0_numbers ++ wBD G a1 a1_firms a1_kindsTold a1_places a1_crowds a1_pipsLeft a1_notHome S1_points S1_home S1_men S1_turn S1_thrower S1_cube S1_owner S1_firms S1_kindsTold S1_places S1_crowds S1_pipsLeft S1_notHome) (M_X1_answerOf (S0_left, S0_numbers) (S1_points, S1_home, S1_men, S1_turn, S1_thrower, S1_cube, S1_owner, S1_firms, S1_kindsTold, S1_places, S1_crowds, S1_pipsLeft, S1_notHome) i2 i3) (fun u => some (.int u.1)) (fun u => wAS G h h_numbers u.2.1 u.2.2 ++ wBD G a1 a1_firms a1_kindsTold a1_places a1_crowds a1_pipsLeft a1_notHome S1_points S1_home S1_men S1_turn S1_thrower S1_cube S1_owner S1_firms S1_kindsTold S1_places S1_crowds S1_pipsLeft S1_notHome) := by
  refine CT.of (P := PX1_answerOf) (by decide) dPX1_answerOf (Nat.le_of_ble_eq_true rfl) ?_
  intro p e s m args below meth c A Q ls hne X RT Y hl
  have hl : lv_has ls 4 [(0, .ref h), (1, .ref a1), (2, .int i2), (3, .int i3)] := hl
  generalize hM : M_X1_answerOf (S0_left, S0_numbers) (S1_points, S1_home, S1_men, S1_turn, S1_thrower, S1_cube, S1_owner, S1_firms, S1_kindsTold, S1_places, S1_crowds, S1_pipsLeft, S1_notHome) i2 i3 = MM at hne RT
  unfold M_X1_answerOf at hM
  refine r_aload_n (pc' := 1) X hl 0 rfl rfl 0 rfl rfl ?_
  refine r_iconst (pc' := 2) X (0 : Int32) 1 rfl rfl rfl ?_
  refine r_put (pc' := 5) (ws' := wAS G h h_numbers (0 : Int32) S0_numbers ++ wBD G a1 a1_firms a1_kindsTold a1_places a1_crowds a1_pipsLeft a1_notHome S1_points S1_home S1_men S1_turn S1_thrower S1_cube S1_owner S1_firms S1_kindsTold S1_places S1_crowds S1_pipsLeft S1_notHome) X Y 2 rfl rfl fRX1_15 0 rfl rfl rfl (Nat.le_of_ble_eq_true rfl) rfl (fun H locs Y => ?_)
  refine r_aload_n (pc' := 6) X hl 0 rfl rfl 3 rfl rfl ?_
  refine r_aload_n (pc' := 7) X hl 1 rfl rfl 4 rfl rfl ?_
  refine r_iload_n (pc' := 8) X hl 2 rfl rfl 5 rfl rfl ?_
  refine r_iload_n (pc' := 9) X hl 3 rfl rfl 6 rfl rfl ?_
  refine r_iconst (pc' := 10) X (0 : Int32) 7 rfl rfl rfl ?_
  refine r_callS (pc' := 13) (As := [.ref h, .ref a1, .int i2, .int i3, .int (0 : Int32)]) (rest := []) (wr := ([] : va_W)) X Y 8 rfl rfl mRX1_19 (c_X1_anew_4 l G h a1 a1_firms a1_kindsTold a1_places a1_crowds a1_pipsLeft a1_notHome h_numbers S1_points S1_home S1_men S1_turn S1_thrower S1_cube S1_owner S1_firms S1_kindsTold S1_places S1_crowds S1_pipsLeft S1_notHome (0 : Int32) S0_numbers i2 i3 (0 : Int32)) (mB hM hne) rfl [2, 3, 4, 5, 6, 7, 8, 0, 1] [] [7, 8, 0, 1, 2, 3, 4, 5, 6] rfl rfl ⟨rfl, rfl, rfl⟩ rfl (w2 := fun u1 => wAS G h h_numbers u1.2.1 u1.2.2 ++ wBD G a1 a1_firms a1_kindsTold a1_places a1_crowds a1_pipsLeft a1_notHome S1_points S1_home S1_men S1_turn S1_thrower S1_cube S1_owner S1_firms S1_kindsTold S1_places S1_crowds S1_pipsLeft S1_notHome) (fun _ => rfl) rfl (Nat.le_of_ble_eq_true rfl) ⟨rfl, rfl⟩ ⟨Nat.le_of_ble_eq_true rfl, Nat.le_of_ble_eq_true rfl⟩ ⟨Nat.zero_le _, Nat.zero_le _⟩ hl.1 (st' := fun u1 => [.int u1.1]) (fun _ => rfl) (fun u1 H locs huu1 Y => ?_)
  obtain ⟨u1_1, ⟨u1_2_left, u1_2_numbers⟩⟩ := u1
  replace Y : rY G A s (wAS G h h_numbers u1_2_left u1_2_numbers ++ wBD G a1 a1_firms a1_kindsTold a1_places a1_crowds a1_pipsLeft a1_notHome S1_points S1_home S1_men S1_turn S1_thrower S1_cube S1_owner S1_firms S1_kindsTold S1_places S1_crowds S1_pipsLeft S1_notHome) H locs := Y
  replace hM := mS hM huu1
  show W p l e q_X1_answerOf s m args below meth c H locs 0 0 Q (F0 m 13 ls [.int u1_1])
  exact RT (u1_1, (u1_2_left, u1_2_numbers)) _ _ _ _ _ hM (Or.inl ⟨rfl, rfl, _, rfl⟩) (X.d (k := 9) rfl) Y
