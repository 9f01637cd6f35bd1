def M_X8_can (S0 : MS) (i1 : Int32) (i2 : Int32) (i3 : Int32) : Option (Int32) :=
  ((M_X8_at S0 i1 i2).bind (fun u1 => (if inb i2 8 = true then (if u1 = (99 : Int32) then (some (0 : Int32)) else (jn (σ := Unit) (fun v4 => ((M_X8_target S0 i1 i2 i3).bind (fun u5 => (if u5 = (99 : Int32) then ((M_X8_isAllHome S0 i1 (((ms_firms S0) (i2).toNatClampNeg))).bind (fun u21 => (if (u21 = 0 ∨ u21 = 1) then (some u21) else none))) else ((M_X8_manyAt S0 i1 (((1 : Int32) - ((ms_firms S0) (i2).toNatClampNeg))) u5 i2).bind (fun u7 => (if u7 ≤ (1 : Int32) then ((M_X8_kindNow S0 i2).bind (fun u9 => (jn (σ := Int32) (fun v10 => (if v10 = 0 then (if u9 = (5 : Int32) then (if u7 = (1 : Int32) then (some (1 : Int32)) else (some (0 : Int32))) else (some (0 : Int32))) else (some (1 : Int32)))) (fun J10 => (jn (σ := Unit) (fun v14 => (J10 (1 : Int32))) (fun J14 => (if u9 < (4 : Int32) then (J14 ()) else (if u1 = (ms_points S0) then (J14 ()) else ((M_X8_manyAt S0 i1 (((ms_firms S0) (i2).toNatClampNeg)) u1 i2).bind (fun u17 => (if 0 < u17 then (J14 ()) else ((M_X8_manyAt S0 i1 (((ms_firms S0) (i2).toNatClampNeg)) u5 i2).bind (fun u19 => (if u19 ≤ 0 then (J10 (0 : Int32)) else (J14 ()))))))))))))))) else (some (0 : Int32))))))))) (fun J4 => (if u1 = (ms_points S0) then (J4 ()) else ((M_X8_manyAt S0 i1 (((ms_firms S0) (i2).toNatClampNeg)) (ms_points S0) i2).bind (fun u24 => (if u24 ≤ 0 then (J4 ()) else (some (0 : Int32))))))))) else none)))
def q_X8_can : Room := { frames := 4, cells := 0, slots := 0, locals := 128 }
set_option maxHeartbeats 4000000 in
set_option maxRecDepth 100000 in
theorem c_X8_can (l : Launch) (G : gT) (h h_items h_lanes h_sizes h_firms h_kinds h_now h_before h_images h_tape h_trace h_readFirms h_readKinds h_readAt h_rows h_bests : Nat) (S0_status : Int32) (S0_points : Int32) (S0_home : Int32) (S0_men : Int32) (S0_hasTable : Int32) (S0_acts : Int32) (S0_imaged : Int32) (S0_length : Int32) (S0_fault : Int32) (S0_traced : Int32) (S0_spot : Int32) (S0_begins : Int32) (S0_token : Int32) (S0_number : Int32) (S0_readPoints : Int32) (S0_readHome : Int32) (S0_readMen : Int32) (S0_otherOne : Int32) (S0_otherKind : Int32) (S0_items : Nat → Int32) (S0_lanes : Nat → Int32) (S0_sizes : Nat → Int32) (S0_firms : Nat → Int32) (S0_kinds : Nat → Int32) (S0_now : Nat → Int32) (S0_before : Nat → Int32) (S0_images : Nat → Int32) (S0_tape : Nat → Int32) (S0_trace : Nat → Int32) (S0_readFirms : Nat → Int32) (S0_readKinds : Nat → Int32) (S0_readAt : Nat → Int32) (S0_rows : Nat → Int32) (S0_bests : Nat → Int32) (i1 : Int32) (i2 : Int32) (i3 : Int32) : CT l G yX8_can cX8_can 10 (some .boolean) q_X8_can [.ref h, .int i1, .int i2, .int i3] (wMS G h h_items h_lanes h_sizes h_firms h_kinds h_now h_before h_images h_tape h_trace h_readFirms h_readKinds h_readAt h_rows h_bests S0_status S0_points S0_home S0_men S0_hasTable S0_acts S0_imaged S0_length S0_fault S0_traced S0_spot S0_begins S0_token S0_number S0_readPoints S0_readHome S0_readMen S0_otherOne S0_otherKind S0_items S0_lanes S0_sizes S0_firms S0_kinds S0_now S0_before S0_images S0_tape S0_trace S0_readFirms S0_readKinds S0_readAt S0_rows S0_bests) (M_X8_can (S0_status, S0_points, S0_home, S0_men, S0_hasTable, S0_acts, S0_imaged, S0_length, S0_fault, S0_traced, S0_spot, S0_begins, S0_token, S0_number, S0_readPoints, S0_readHome, S0_readMen, S0_otherOne, S0_otherKind, S0_items, S0_lanes, S0_sizes, S0_firms, S0_kinds, S0_now, S0_before, S0_images, S0_tape, S0_trace, S0_readFirms, S0_readKinds, S0_readAt, S0_rows, S0_bests) i1 i2 i3) (fun u => some (.int u)) (fun u => wMS G h h_items h_lanes h_sizes h_firms h_kinds h_now h_before h_images h_tape h_trace h_readFirms h_readKinds h_readAt h_rows h_bests S0_status S0_points S0_home S0_men S0_hasTable S0_acts S0_imaged S0_length S0_fault S0_traced S0_spot S0_begins S0_token S0_number S0_readPoints S0_readHome S0_readMen S0_otherOne S0_otherKind S0_items S0_lanes S0_sizes S0_firms S0_kinds S0_now S0_before S0_images S0_tape S0_trace S0_readFirms S0_readKinds S0_readAt S0_rows S0_bests) := by
  refine CT.of (P := PX8_can) (by decide) dPX8_can (Nat.le_of_ble_eq_true rfl) ?_
  intro p e s m args below meth c A Q ls hne X RT Y hl
  have hl : lv_has ls 10 [(0, .ref h), (1, .int i1), (2, .int i2), (3, .int i3)] := hl
  generalize hM : M_X8_can (S0_status, S0_points, S0_home, S0_men, S0_hasTable, S0_acts, S0_imaged, S0_length, S0_fault, S0_traced, S0_spot, S0_begins, S0_token, S0_number, S0_readPoints, S0_readHome, S0_readMen, S0_otherOne, S0_otherKind, S0_items, S0_lanes, S0_sizes, S0_firms, S0_kinds, S0_now, S0_before, S0_images, S0_tape, S0_trace, S0_readFirms, S0_readKinds, S0_readAt, S0_rows, S0_bests) i1 i2 i3 = MM at hne RT
  unfold M_X8_can at hM
  refine r_aload_n (pc' := 1) X hl 0 rfl rfl 0 rfl rfl ?_
  refine r_iload_n (pc' := 2) X hl 1 rfl rfl 1 rfl rfl ?_
  refine r_iload_n (pc' := 3) X hl 2 rfl rfl 2 rfl rfl ?_
  refine r_callV0 (pc' := 6) (As := [.int i1, .int i2]) (rest := []) X Y 3 rfl rfl mRX8_169 (c_X8_at l G h h_items h_lanes h_sizes h_firms h_kinds h_now h_before h_images h_tape h_trace h_readFirms h_readKinds h_readAt h_rows h_bests S0_status S0_points S0_home S0_men S0_hasTable S0_acts S0_imaged S0_length S0_fault S0_traced S0_spot S0_begins S0_token S0_number S0_readPoints S0_readHome S0_readMen S0_otherOne S0_otherKind S0_items S0_lanes S0_sizes S0_firms S0_kinds S0_now S0_before S0_images S0_tape S0_trace S0_readFirms S0_readKinds S0_readAt S0_rows S0_bests i1 i2) (mB hM hne) 0 rfl rfl [0, 1, 2, 3, 4, 5, 6, 7, 8, 9, 10, 11, 12, 13, 14, 15] rfl rfl rfl (Nat.le_of_ble_eq_true rfl) ⟨rfl, rfl⟩ ⟨Nat.le_of_ble_eq_true rfl, Nat.le_of_ble_eq_true rfl⟩ ⟨Nat.zero_le _, Nat.zero_le _⟩ hl.1 (st' := fun u1 => [.int u1]) (fun _ => rfl) (fun u1 H locs huu1 Y => ?_)
  replace hM := mS hM huu1
  refine r_istore (pc' := 8) (L' := [(4, .int u1), (0, .ref h), (1, .int i1), (2, .int i2), (3, .int i3)]) X hl 4 rfl rfl (by decide) rfl (fun ls hl => ?_)
  refine r_aload_n (pc' := 9) X hl 1 rfl rfl 5 rfl rfl ?_
  refine r_get (pc' := 12) (v := .ref h_firms) X Y 6 rfl rfl fRX8_19 0 rfl rfl ?_
  refine r_iload_n (pc' := 13) X hl 3 rfl rfl 7 rfl rfl ?_
  obtain ⟨g2, hM⟩ := mG hM hne
  refine r_iald (pc' := 14) X Y 8 rfl rfl 4 rfl (vin g2) ?_
  refine r_istore (pc' := 16) (L' := [(5, .int (S0_firms (i2).toNatClampNeg)), (4, .int u1), (0, .ref h), (1, .int i1), (2, .int i2), (3, .int i3)]) X hl 9 rfl rfl (by decide) rfl (fun ls hl => ?_)
  refine r_iload (pc' := 18) X hl 1 rfl 10 rfl rfl ?_
  refine r_bipush (pc' := 20) X (99 : Int32) 11 rfl rfl rfl ?_
  refine r_icmp_eq (pc' := 23) X 47 12 rfl rfl (by decide) (fun c3 => ?_) (fun c3 => ?_)
  · replace hM := mI hM c3
    refine r_iconst (pc' := 48) X (0 : Int32) 25 rfl rfl rfl ?_
    exact RT (0 : Int32) _ _ _ _ _ hM (Or.inr (Or.inl ⟨rfl, rfl, _, rfl, nb (Or.inl rfl)⟩)) (X.d (k := 26) rfl) Y
  · replace hM := mE hM c3
    refine r_iload (pc' := 25) X hl 1 rfl 13 rfl rfl ?_
    refine r_aload_n (pc' := 26) X hl 2 rfl rfl 14 rfl rfl ?_
    refine r_get (pc' := 29) (v := .int S0_points) X Y 15 rfl rfl fRX8_153 0 rfl rfl ?_
    obtain ⟨J4, hJ4, hM⟩ := mJ hM
    have KJ4 : ∀  (H : Heap) (locs : List Loc) (ls : Array Slot), J4 () = MM → rY G A s (wMS G h h_items h_lanes h_sizes h_firms h_kinds h_now h_before h_images h_tape h_trace h_readFirms h_readKinds h_readAt h_rows h_bests S0_status S0_points S0_home S0_men S0_hasTable S0_acts S0_imaged S0_length S0_fault S0_traced S0_spot S0_begins S0_token S0_number S0_readPoints S0_readHome S0_readMen S0_otherOne S0_otherKind S0_items S0_lanes S0_sizes S0_firms S0_kinds S0_now S0_before S0_images S0_tape S0_trace S0_readFirms S0_readKinds S0_readAt S0_rows S0_bests) H locs → lv_has ls 10 [(0, .ref h), (1, .int i1), (2, .int i2), (3, .int i3), (4, .int u1), (5, .int (S0_firms (i2).toNatClampNeg))] → W p l e q_X8_can s m args below meth c H locs 0 0 Q (F0 m 49 ls []) := by
      intro  H locs ls hM Y hl
      replace hM := (hJ4 _).symm.trans hM
      refine r_aload_n (pc' := 50) X hl 0 rfl rfl 27 rfl rfl ?_
      refine r_iload_n (pc' := 51) X hl 1 rfl rfl 28 rfl rfl ?_
      refine r_iload_n (pc' := 52) X hl 2 rfl rfl 29 rfl rfl ?_
      refine r_iload_n (pc' := 53) X hl 3 rfl rfl 30 rfl rfl ?_
      refine r_callV0 (pc' := 56) (As := [.int i1, .int i2, .int i3]) (rest := []) X Y 31 rfl rfl mRX8_191 (c_X8_target l G h h_items h_lanes h_sizes h_firms h_kinds h_now h_before h_images h_tape h_trace h_readFirms h_readKinds h_readAt h_rows h_bests S0_status S0_points S0_home S0_men S0_hasTable S0_acts S0_imaged S0_length S0_fault S0_traced S0_spot S0_begins S0_token S0_number S0_readPoints S0_readHome S0_readMen S0_otherOne S0_otherKind S0_items S0_lanes S0_sizes S0_firms S0_kinds S0_now S0_before S0_images S0_tape S0_trace S0_readFirms S0_readKinds S0_readAt S0_rows S0_bests i1 i2 i3) (mB hM hne) 0 rfl rfl [0, 1, 2, 3, 4, 5, 6, 7, 8, 9, 10, 11, 12, 13, 14, 15] rfl rfl rfl (Nat.le_of_ble_eq_true rfl) ⟨rfl, rfl⟩ ⟨Nat.le_of_ble_eq_true rfl, Nat.le_of_ble_eq_true rfl⟩ ⟨Nat.zero_le _, Nat.zero_le _⟩ hl.1 (st' := fun u5 => [.int u5]) (fun _ => rfl) (fun u5 H locs huu5 Y => ?_)
      replace hM := mS hM huu5
      refine r_istore (pc' := 58) (L' := [(6, .int u5), (0, .ref h), (1, .int i1), (2, .int i2), (3, .int i3), (4, .int u1), (5, .int (S0_firms (i2).toNatClampNeg))]) X hl 32 rfl rfl (by decide) rfl (fun ls hl => ?_)
      refine r_iload (pc' := 60) X hl 0 rfl 33 rfl rfl ?_
      refine r_bipush (pc' := 62) X (99 : Int32) 34 rfl rfl rfl ?_
      refine r_icmp_ne (pc' := 65) X 73 35 rfl rfl (by decide) (fun c6 => ?_) (fun c6 => ?_)
      · replace hM := mE hM c6
        refine r_aload_n (pc' := 74) X hl 1 rfl rfl 41 rfl rfl ?_
        refine r_iload_n (pc' := 75) X hl 2 rfl rfl 42 rfl rfl ?_
        refine r_iconst (pc' := 76) X (1 : Int32) 43 rfl rfl rfl ?_
        refine r_iload (pc' := 78) X hl 6 rfl 44 rfl rfl ?_
        refine r_isub (pc' := 79) X 45 rfl rfl ?_
        refine r_iload (pc' := 81) X hl 0 rfl 46 rfl rfl ?_
        refine r_iload_n (pc' := 82) X hl 3 rfl rfl 47 rfl rfl ?_
        refine r_callV0 (pc' := 85) (As := [.int i1, .int ((1 : Int32) - (S0_firms (i2).toNatClampNeg)), .int u5, .int i2]) (rest := []) X Y 48 rfl rfl mRX8_187 (c_X8_manyAt l G h h_items h_lanes h_sizes h_firms h_kinds h_now h_before h_images h_tape h_trace h_readFirms h_readKinds h_readAt h_rows h_bests S0_status S0_points S0_home S0_men S0_hasTable S0_acts S0_imaged S0_length S0_fault S0_traced S0_spot S0_begins S0_token S0_number S0_readPoints S0_readHome S0_readMen S0_otherOne S0_otherKind S0_items S0_lanes S0_sizes S0_firms S0_kinds S0_now S0_before S0_images S0_tape S0_trace S0_readFirms S0_readKinds S0_readAt S0_rows S0_bests i1 (((1 : Int32) - (S0_firms (i2).toNatClampNeg))) u5 i2) (mB hM hne) 0 rfl rfl [0, 1, 2, 3, 4, 5, 6, 7, 8, 9, 10, 11, 12, 13, 14, 15] rfl rfl rfl (Nat.le_of_ble_eq_true rfl) ⟨rfl, rfl⟩ ⟨Nat.le_of_ble_eq_true rfl, Nat.le_of_ble_eq_true rfl⟩ ⟨Nat.zero_le _, Nat.zero_le _⟩ hl.1 (st' := fun u7 => [.int u7]) (fun _ => rfl) (fun u7 H locs huu7 Y => ?_)
        replace hM := mS hM huu7
        refine r_istore (pc' := 87) (L' := [(7, .int u7), (6, .int u5), (0, .ref h), (1, .int i1), (2, .int i2), (3, .int i3), (4, .int u1), (5, .int (S0_firms (i2).toNatClampNeg))]) X hl 49 rfl rfl (by decide) rfl (fun ls hl => ?_)
        refine r_iload (pc' := 89) X hl 0 rfl 50 rfl rfl ?_
        refine r_iconst (pc' := 90) X (1 : Int32) 51 rfl rfl rfl ?_
        refine r_icmp_le (pc' := 93) X 95 52 rfl rfl (by decide) (fun c8 => ?_) (fun c8 => ?_)
        · replace hM := mI hM c8
          refine r_aload_n (pc' := 96) X hl 2 rfl rfl 55 rfl rfl ?_
          refine r_iload_n (pc' := 97) X hl 4 rfl rfl 56 rfl rfl ?_
          refine r_callV0 (pc' := 100) (As := [.int i2]) (rest := []) X Y 57 rfl rfl mRX8_178 (c_X8_kindNow l G h h_items h_lanes h_sizes h_firms h_kinds h_now h_before h_images h_tape h_trace h_readFirms h_readKinds h_readAt h_rows h_bests S0_status S0_points S0_home S0_men S0_hasTable S0_acts S0_imaged S0_length S0_fault S0_traced S0_spot S0_begins S0_token S0_number S0_readPoints S0_readHome S0_readMen S0_otherOne S0_otherKind S0_items S0_lanes S0_sizes S0_firms S0_kinds S0_now S0_before S0_images S0_tape S0_trace S0_readFirms S0_readKinds S0_readAt S0_rows S0_bests i2) (mB hM hne) 0 rfl rfl [0, 1, 2, 3, 4, 5, 6, 7, 8, 9, 10, 11, 12, 13, 14, 15] rfl rfl rfl (Nat.le_of_ble_eq_true rfl) ⟨rfl, rfl⟩ ⟨Nat.le_of_ble_eq_true rfl, Nat.le_of_ble_eq_true rfl⟩ ⟨Nat.zero_le _, Nat.zero_le _⟩ hl.1 (st' := fun u9 => [.int u9]) (fun _ => rfl) (fun u9 H locs huu9 Y => ?_)
          replace hM := mS hM huu9
          refine r_istore (pc' := 102) (L' := [(8, .int u9), (7, .int u7), (6, .int u5), (0, .ref h), (1, .int i1), (2, .int i2), (3, .int i3), (4, .int u1), (5, .int (S0_firms (i2).toNatClampNeg))]) X hl 58 rfl rfl (by decide) rfl (fun ls hl => ?_)
          refine r_iload (pc' := 104) X hl 0 rfl 59 rfl rfl ?_
          refine r_iconst (pc' := 105) X (4 : Int32) 60 rfl rfl rfl ?_
          obtain ⟨J10, hJ10, hM⟩ := mJ hM
          have KJ10 : ∀ (v10 : Int32) (H : Heap) (locs : List Loc) (ls : Array Slot), J10 v10 = MM → rY G A s (wMS G h h_items h_lanes h_sizes h_firms h_kinds h_now h_before h_images h_tape h_trace h_readFirms h_readKinds h_readAt h_rows h_bests S0_status S0_points S0_home S0_men S0_hasTable S0_acts S0_imaged S0_length S0_fault S0_traced S0_spot S0_begins S0_token S0_number S0_readPoints S0_readHome S0_readMen S0_otherOne S0_otherKind S0_items S0_lanes S0_sizes S0_firms S0_kinds S0_now S0_before S0_images S0_tape S0_trace S0_readFirms S0_readKinds S0_readAt S0_rows S0_bests) H locs → lv_has ls 10 [(7, .int u7), (8, .int u9)] → W p l e q_X8_can s m args below meth c H locs 0 0 Q (F0 m 148 ls [.int v10]) := by
            intro v10 H locs ls hM Y hl
            replace hM := (hJ10 _).symm.trans hM
            refine r_istore (pc' := 150) (L' := [(9, .int v10), (7, .int u7), (8, .int u9)]) X hl 83 rfl rfl (by decide) rfl (fun ls hl => ?_)
            refine r_iload (pc' := 152) X hl 0 rfl 84 rfl rfl ?_
            refine r_if_ne (pc' := 155) X 167 85 rfl rfl (by decide) (fun c11 => ?_) (fun c11 => ?_)
            · replace hM := mE hM c11
              refine r_iconst (pc' := 168) X (1 : Int32) 92 rfl rfl rfl ?_
              refine r_goto X 172 93 rfl (by decide) ?_
              exact RT (1 : Int32) _ _ _ _ _ hM (Or.inr (Or.inl ⟨rfl, rfl, _, rfl, nb (Or.inr rfl)⟩)) (X.d (k := 95) rfl) Y
            · replace hM := mI hM c11
              refine r_iload (pc' := 157) X hl 2 rfl 86 rfl rfl ?_
              refine r_iconst (pc' := 158) X (5 : Int32) 87 rfl rfl rfl ?_
              refine r_icmp_ne (pc' := 161) X 171 88 rfl rfl (by decide) (fun c12 => ?_) (fun c12 => ?_)
              · replace hM := mE hM c12
                refine r_iconst (pc' := 172) X (0 : Int32) 94 rfl rfl rfl ?_
                exact RT (0 : Int32) _ _ _ _ _ hM (Or.inr (Or.inl ⟨rfl, rfl, _, rfl, nb (Or.inl rfl)⟩)) (X.d (k := 95) rfl) Y
              · replace hM := mI hM c12
                refine r_iload (pc' := 163) X hl 1 rfl 89 rfl rfl ?_
                refine r_iconst (pc' := 164) X (1 : Int32) 90 rfl rfl rfl ?_
                refine r_icmp_ne (pc' := 167) X 171 91 rfl rfl (by decide) (fun c13 => ?_) (fun c13 => ?_)
                · replace hM := mE hM c13
                  refine r_iconst (pc' := 172) X (0 : Int32) 94 rfl rfl rfl ?_
                  exact RT (0 : Int32) _ _ _ _ _ hM (Or.inr (Or.inl ⟨rfl, rfl, _, rfl, nb (Or.inl rfl)⟩)) (X.d (k := 95) rfl) Y
                · replace hM := mI hM c13
                  refine r_iconst (pc' := 168) X (1 : Int32) 92 rfl rfl rfl ?_
                  refine r_goto X 172 93 rfl (by decide) ?_
                  exact RT (1 : Int32) _ _ _ _ _ hM (Or.inr (Or.inl ⟨rfl, rfl, _, rfl, nb (Or.inr rfl)⟩)) (X.d (k := 95) rfl) Y
          obtain ⟨J14, hJ14, hM⟩ := mJ hM
          have KJ14 : ∀  (H : Heap) (locs : List Loc) (ls : Array Slot), J14 () = MM → rY G A s (wMS G h h_items h_lanes h_sizes h_firms h_kinds h_now h_before h_images h_tape h_trace h_readFirms h_readKinds h_readAt h_rows h_bests S0_status S0_points S0_home S0_men S0_hasTable S0_acts S0_imaged S0_length S0_fault S0_traced S0_spot S0_begins S0_token S0_number S0_readPoints S0_readHome S0_readMen S0_otherOne S0_otherKind S0_items S0_lanes S0_sizes S0_firms S0_kinds S0_now S0_before S0_images S0_tape S0_trace S0_readFirms S0_readKinds S0_readAt S0_rows S0_bests) H locs → lv_has ls 10 [(7, .int u7), (8, .int u9)] → W p l e q_X8_can s m args below meth c H locs 0 0 Q (F0 m 143 ls []) := by
            intro  H locs ls hM Y hl
            replace hM := (hJ14 _).symm.trans hM
            refine r_iconst (pc' := 144) X (1 : Int32) 80 rfl rfl rfl ?_
            refine r_goto X 148 81 rfl (by decide) ?_
            exact KJ10 (1 : Int32) _ _ _ hM Y (lv_sub hl [0, 1] rfl)
          refine r_icmp_lt (pc' := 108) X 143 61 rfl rfl (by decide) (fun c15 => ?_) (fun c15 => ?_)
          · replace hM := mI hM c15
            exact KJ14  _ _ _ hM Y (lv_sub hl [1, 0] rfl)
          · replace hM := mE hM c15
            refine r_iload (pc' := 110) X hl 7 rfl 62 rfl rfl ?_
            refine r_aload_n (pc' := 111) X hl 3 rfl rfl 63 rfl rfl ?_
            refine r_get (pc' := 114) (v := .int S0_points) X Y 64 rfl rfl fRX8_153 0 rfl rfl ?_
            refine r_icmp_eq (pc' := 117) X 143 65 rfl rfl (by decide) (fun c16 => ?_) (fun c16 => ?_)
            · replace hM := mI hM c16
              exact KJ14  _ _ _ hM Y (lv_sub hl [1, 0] rfl)
            · replace hM := mE hM c16
              refine r_aload_n (pc' := 118) X hl 3 rfl rfl 66 rfl rfl ?_
              refine r_iload_n (pc' := 119) X hl 4 rfl rfl 67 rfl rfl ?_
              refine r_iload (pc' := 121) X hl 8 rfl 68 rfl rfl ?_
              refine r_iload (pc' := 123) X hl 7 rfl 69 rfl rfl ?_
              refine r_iload_n (pc' := 124) X hl 5 rfl rfl 70 rfl rfl ?_
              refine r_callV0 (pc' := 127) (As := [.int i1, .int (S0_firms (i2).toNatClampNeg), .int u1, .int i2]) (rest := []) X Y 71 rfl rfl mRX8_187 (c_X8_manyAt l G h h_items h_lanes h_sizes h_firms h_kinds h_now h_before h_images h_tape h_trace h_readFirms h_readKinds h_readAt h_rows h_bests S0_status S0_points S0_home S0_men S0_hasTable S0_acts S0_imaged S0_length S0_fault S0_traced S0_spot S0_begins S0_token S0_number S0_readPoints S0_readHome S0_readMen S0_otherOne S0_otherKind S0_items S0_lanes S0_sizes S0_firms S0_kinds S0_now S0_before S0_images S0_tape S0_trace S0_readFirms S0_readKinds S0_readAt S0_rows S0_bests i1 ((S0_firms (i2).toNatClampNeg)) u1 i2) (mB hM hne) 0 rfl rfl [0, 1, 2, 3, 4, 5, 6, 7, 8, 9, 10, 11, 12, 13, 14, 15] rfl rfl rfl (Nat.le_of_ble_eq_true rfl) ⟨rfl, rfl⟩ ⟨Nat.le_of_ble_eq_true rfl, Nat.le_of_ble_eq_true rfl⟩ ⟨Nat.zero_le _, Nat.zero_le _⟩ hl.1 (st' := fun u17 => [.int u17]) (fun _ => rfl) (fun u17 H locs huu17 Y => ?_)
              replace hM := mS hM huu17
              refine r_if_gt (pc' := 130) X 143 72 rfl rfl (by decide) (fun c18 => ?_) (fun c18 => ?_)
              · replace hM := mI hM c18
                exact KJ14  _ _ _ hM Y (lv_sub hl [1, 0] rfl)
              · replace hM := mE hM c18
                refine r_aload_n (pc' := 131) X hl 3 rfl rfl 73 rfl rfl ?_
                refine r_iload_n (pc' := 132) X hl 4 rfl rfl 74 rfl rfl ?_
                refine r_iload (pc' := 134) X hl 8 rfl 75 rfl rfl ?_
                refine r_iload (pc' := 136) X hl 2 rfl 76 rfl rfl ?_
                refine r_iload_n (pc' := 137) X hl 5 rfl rfl 77 rfl rfl ?_
                refine r_callV0 (pc' := 140) (As := [.int i1, .int (S0_firms (i2).toNatClampNeg), .int u5, .int i2]) (rest := []) X Y 78 rfl rfl mRX8_187 (c_X8_manyAt l G h h_items h_lanes h_sizes h_firms h_kinds h_now h_before h_images h_tape h_trace h_readFirms h_readKinds h_readAt h_rows h_bests S0_status S0_points S0_home S0_men S0_hasTable S0_acts S0_imaged S0_length S0_fault S0_traced S0_spot S0_begins S0_token S0_number S0_readPoints S0_readHome S0_readMen S0_otherOne S0_otherKind S0_items S0_lanes S0_sizes S0_firms S0_kinds S0_now S0_before S0_images S0_tape S0_trace S0_readFirms S0_readKinds S0_readAt S0_rows S0_bests i1 ((S0_firms (i2).toNatClampNeg)) u5 i2) (mB hM hne) 0 rfl rfl [0, 1, 2, 3, 4, 5, 6, 7, 8, 9, 10, 11, 12, 13, 14, 15] rfl rfl rfl (Nat.le_of_ble_eq_true rfl) ⟨rfl, rfl⟩ ⟨Nat.le_of_ble_eq_true rfl, Nat.le_of_ble_eq_true rfl⟩ ⟨Nat.zero_le _, Nat.zero_le _⟩ hl.1 (st' := fun u19 => [.int u19]) (fun _ => rfl) (fun u19 H locs huu19 Y => ?_)
                replace hM := mS hM huu19
                refine r_if_le (pc' := 143) X 147 79 rfl rfl (by decide) (fun c20 => ?_) (fun c20 => ?_)
                · replace hM := mI hM c20
                  refine r_iconst (pc' := 148) X (0 : Int32) 82 rfl rfl rfl ?_
                  exact KJ10 (0 : Int32) _ _ _ hM Y (lv_sub hl [1, 0] rfl)
                · replace hM := mE hM c20
                  exact KJ14  _ _ _ hM Y (lv_sub hl [1, 0] rfl)
        · replace hM := mE hM c8
          refine r_iconst (pc' := 94) X (0 : Int32) 53 rfl rfl rfl ?_
          exact RT (0 : Int32) _ _ _ _ _ hM (Or.inr (Or.inl ⟨rfl, rfl, _, rfl, nb (Or.inl rfl)⟩)) (X.d (k := 54) rfl) Y
      · replace hM := mI hM c6
        refine r_aload_n (pc' := 66) X hl 1 rfl rfl 36 rfl rfl ?_
        refine r_iload_n (pc' := 67) X hl 2 rfl rfl 37 rfl rfl ?_
        refine r_iload (pc' := 69) X hl 6 rfl 38 rfl rfl ?_
        refine r_callV0 (pc' := 72) (As := [.int i1, .int (S0_firms (i2).toNatClampNeg)]) (rest := []) X Y 39 rfl rfl mRX8_195 (c_X8_isAllHome l G h h_items h_lanes h_sizes h_firms h_kinds h_now h_before h_images h_tape h_trace h_readFirms h_readKinds h_readAt h_rows h_bests S0_status S0_points S0_home S0_men S0_hasTable S0_acts S0_imaged S0_length S0_fault S0_traced S0_spot S0_begins S0_token S0_number S0_readPoints S0_readHome S0_readMen S0_otherOne S0_otherKind S0_items S0_lanes S0_sizes S0_firms S0_kinds S0_now S0_before S0_images S0_tape S0_trace S0_readFirms S0_readKinds S0_readAt S0_rows S0_bests i1 ((S0_firms (i2).toNatClampNeg))) (mB hM hne) 0 rfl rfl [0, 1, 2, 3, 4, 5, 6, 7, 8, 9, 10, 11, 12, 13, 14, 15] rfl rfl rfl (Nat.le_of_ble_eq_true rfl) ⟨rfl, rfl⟩ ⟨Nat.le_of_ble_eq_true rfl, Nat.le_of_ble_eq_true rfl⟩ ⟨Nat.zero_le _, Nat.zero_le _⟩ hl.1 (st' := fun u21 => [.int u21]) (fun _ => rfl) (fun u21 H locs huu21 Y => ?_)
        replace hM := mS hM huu21
        obtain ⟨g22, hM⟩ := mG hM hne
        exact RT u21 _ _ _ _ _ hM (Or.inr (Or.inl ⟨rfl, rfl, _, rfl, nb g22⟩)) (X.d (k := 40) rfl) Y
    refine r_icmp_eq (pc' := 32) X 49 16 rfl rfl (by decide) (fun c23 => ?_) (fun c23 => ?_)
    · replace hM := mI hM c23
      exact KJ4  _ _ _ hM Y (lv_sub hl [2, 3, 4, 5, 1, 0] rfl)
    · replace hM := mE hM c23
      refine r_aload_n (pc' := 33) X hl 2 rfl rfl 17 rfl rfl ?_
      refine r_iload_n (pc' := 34) X hl 3 rfl rfl 18 rfl rfl ?_
      refine r_iload (pc' := 36) X hl 0 rfl 19 rfl rfl ?_
      refine r_aload_n (pc' := 37) X hl 2 rfl rfl 20 rfl rfl ?_
      refine r_get (pc' := 40) (v := .int S0_points) X Y 21 rfl rfl fRX8_153 0 rfl rfl ?_
      refine r_iload_n (pc' := 41) X hl 4 rfl rfl 22 rfl rfl ?_
      refine r_callV0 (pc' := 44) (As := [.int i1, .int (S0_firms (i2).toNatClampNeg), .int S0_points, .int i2]) (rest := []) X Y 23 rfl rfl mRX8_187 (c_X8_manyAt l G h h_items h_lanes h_sizes h_firms h_kinds h_now h_before h_images h_tape h_trace h_readFirms h_readKinds h_readAt h_rows h_bests S0_status S0_points S0_home S0_men S0_hasTable S0_acts S0_imaged S0_length S0_fault S0_traced S0_spot S0_begins S0_token S0_number S0_readPoints S0_readHome S0_readMen S0_otherOne S0_otherKind S0_items S0_lanes S0_sizes S0_firms S0_kinds S0_now S0_before S0_images S0_tape S0_trace S0_readFirms S0_readKinds S0_readAt S0_rows S0_bests i1 ((S0_firms (i2).toNatClampNeg)) S0_points i2) (mB hM hne) 0 rfl rfl [0, 1, 2, 3, 4, 5, 6, 7, 8, 9, 10, 11, 12, 13, 14, 15] rfl rfl rfl (Nat.le_of_ble_eq_true rfl) ⟨rfl, rfl⟩ ⟨Nat.le_of_ble_eq_true rfl, Nat.le_of_ble_eq_true rfl⟩ ⟨Nat.zero_le _, Nat.zero_le _⟩ hl.1 (st' := fun u24 => [.int u24]) (fun _ => rfl) (fun u24 H locs huu24 Y => ?_)
      replace hM := mS hM huu24
      refine r_if_le (pc' := 47) X 49 24 rfl rfl (by decide) (fun c25 => ?_) (fun c25 => ?_)
      · replace hM := mI hM c25
        exact KJ4  _ _ _ hM Y (lv_sub hl [2, 3, 4, 5, 1, 0] rfl)
      · replace hM := mE hM c25
        refine r_iconst (pc' := 48) X (0 : Int32) 25 rfl rfl rfl ?_
        exact RT (0 : Int32) _ _ _ _ _ hM (Or.inr (Or.inl ⟨rfl, rfl, _, rfl, nb (Or.inl rfl)⟩)) (X.d (k := 26) rfl) Y

def M_X8_goMan (S0 : MS) (i1 : Int32) (i2 : Int32) (i3 : Int32) : Option (MS) :=
  ((M_X8_target S0 i1 i2 i3).bind (fun u1 => ((lp (σ := Int32 × (Nat → Int32)) (β := (Nat → Int32)) (fun rec2 st2 => (if (ms_men S0) ≤ st2.1 then (some st2.2) else (if u1 = (99 : Int32) then (some st2.2) else (if inb st2.1 8 = true then (if inb i2 8 = true then (if ((ms_firms S0) (st2.1).toNatClampNeg) = ((ms_firms S0) (i2).toNatClampNeg) then (rec2 ((st2.1 + (1 : Int32)), st2.2)) else ((M_X8_at (ms_s_rows S0 st2.2) i1 st2.1).bind (fun u9 => (if u9 = u1 then (if inb (((12 : Int32) * i1) + st2.1) 48 = true then (rec2 ((st2.1 + (1 : Int32)), (upd st2.2 ((((12 : Int32) * i1) + st2.1)).toNatClampNeg (ms_points S0)))) else none) else (rec2 ((st2.1 + (1 : Int32)), st2.2)))))) else none) else none)))) 1000000 ((0 : Int32), (ms_rows S0))).bind (fun b2 => (if inb (((12 : Int32) * i1) + i2) 48 = true then (some (ms_s_rows S0 (upd b2 ((((12 : Int32) * i1) + i2)).toNatClampNeg u1))) else none)))))
def q_X8_goMan : Room := { frames := 4, cells := 0, slots := 0, locals := 128 }
set_option maxHeartbeats 4000000 in
set_option maxRecDepth 100000 in
theorem c_X8_goMan (l : Launch) (G : gT) (h h_items h_lanes h_sizes h_firms h_kinds h_now h_before h_images h_tape h_trace h_readFirms h_readKinds h_readAt h_rows h_bests : Nat) (S0_status : Int32) (S0_points : Int32) (S0_home : Int32) (S0_men : Int32) (S0_hasTable : Int32) (S0_acts : Int32) (S0_imaged : Int32) (S0_length : Int32) (S0_fault : Int32) (S0_traced : Int32) (S0_spot : Int32) (S0_begins : Int32) (S0_token : Int32) (S0_number : Int32) (S0_readPoints : Int32) (S0_readHome : Int32) (S0_readMen : Int32) (S0_otherOne : Int32) (S0_otherKind : Int32) (S0_items : Nat → Int32) (S0_lanes : Nat → Int32) (S0_sizes : Nat → Int32) (S0_firms : Nat → Int32) (S0_kinds : Nat → Int32) (S0_now : Nat → Int32) (S0_before : Nat → Int32) (S0_images : Nat → Int32) (S0_tape : Nat → Int32) (S0_trace : Nat → Int32) (S0_readFirms : Nat → Int32) (S0_readKinds : Nat → Int32) (S0_readAt : Nat → Int32) (S0_rows : Nat → Int32) (S0_bests : Nat → Int32) (i1 : Int32) (i2 : Int32) (i3 : Int32) : CT l G yX8_goMan cX8_goMan 6 none q_X8_goMan [.ref h, .int i1, .int i2, .int i3] (wMS G h h_items h_lanes h_sizes h_firms h_kinds h_now h_before h_images h_tape h_trace h_readFirms h_readKinds h_readAt h_rows h_bests S0_status S0_points S0_home S0_men S0_hasTable S0_acts S0_imaged S0_length S0_fault S0_traced S0_spot S0_begins S0_token S0_number S0_readPoints S0_readHome S0_readMen S0_otherOne S0_otherKind S0_items S0_lanes S0_sizes S0_firms S0_kinds S0_now S0_before S0_images S0_tape S0_trace S0_readFirms S0_readKinds S0_readAt S0_rows S0_bests) (M_X8_goMan (S0_status, S0_points, S0_home, S0_men, S0_hasTable, S0_acts, S0_imaged, S0_length, S0_fault, S0_traced, S0_spot, S0_begins, S0_token, S0_number, S0_readPoints, S0_readHome, S0_readMen, S0_otherOne, S0_otherKind, S0_items, S0_lanes, S0_sizes, S0_firms, S0_kinds, S0_now, S0_before, S0_images, S0_tape, S0_trace, S0_readFirms, S0_readKinds, S0_readAt, S0_rows, S0_bests) i1 i2 i3) (fun u => none) (fun u => wMS G h h_items h_lanes h_sizes h_firms h_kinds h_now h_before h_images h_tape h_trace h_readFirms h_readKinds h_readAt h_rows h_bests u.1 u.2.1 u.2.2.1 u.2.2.2.1 u.2.2.2.2.1 u.2.2.2.2.2.1 u.2.2.2.2.2.2.1 u.2.2.2.2.2.2.2.1 u.2.2.2.2.2.2.2.2.1 u.2.2.2.2.2.2.2.2.2.1 u.2.2.2.2.2.2.2.2.2.2.1 u.2.2.2.2.2.2.2.2.2.2.2.1 u.2.2.2.2.2.2.2.2.2.2.2.2.1 u.2.2.2.2.2.2.2.2.2.2.2.2.2.1 u.2.2.2.2.2.2.2.2.2.2.2.2.2.2.1 u.2.2.2.2.2.2.2.2.2.2.2.2.2.2.2.1 u.2.2.2.2.2.2.2.2.2.2.2.2.2.2.2.2.1 u.2.2.2.2.2.2.2.2.2.2.2.2.2.2.2.2.2.1 u.2.2.2.2.2.2.2.2.2.2.2.2.2.2.2.2.2.2.1 u.2.2.2.2.2.2.2.2.2.2.2.2.2.2.2.2.2.2.2.1 u.2.2.2.2.2.2.2.2.2.2.2.2.2.2.2.2.2.2.2.2.1 u.2.2.2.2.2.2.2.2.2.2.2.2.2.2.2.2.2.2.2.2.2.1 u.2.2.2.2.2.2.2.2.2.2.2.2.2.2.2.2.2.2.2.2.2.2.1 u.2.2.2.2.2.2.2.2.2.2.2.2.2.2.2.2.2.2.2.2.2.2.2.1 u.2.2.2.2.2.2.2.2.2.2.2.2.2.2.2.2.2.2.2.2.2.2.2.2.1 u.2.2.2.2.2.2.2.2.2.2.2.2.2.2.2.2.2.2.2.2.2.2.2.2.2.1 u.2.2.2.2.2.2.2.2.2.2.2.2.2.2.2.2.2.2.2.2.2.2.2.2.2.2.1 u.2.2.2.2.2.2.2.2.2.2.2.2.2.2.2.2.2.2.2.2.2.2.2.2.2.2.2.1 u.2.2.2.2.2.2.2.2.2.2.2.2.2.2.2.2.2.2.2.2.2.2.2.2.2.2.2.2.1 u.2.2.2.2.2.2.2.2.2.2.2.2.2.2.2.2.2.2.2.2.2.2.2.2.2.2.2.2.2.1 u.2.2.2.2.2.2.2.2.2.2.2.2.2.2.2.2.2.2.2.2.2.2.2.2.2.2.2.2.2.2.1 u.2.2.2.2.2.2.2.2.2.2.2.2.2.2.2.2.2.2.2.2.2.2.2.2.2.2.2.2.2.2.2.1 u.2.2.2.2.2.2.2.2.2.2.2.2.2.2.2.2.2.2.2.2.2.2.2.2.2.2.2.2.2.2.2.2.1 u.2.2.2.2.2.2.2.2.2.2.2.2.2.2.2.2.2.2.2.2.2.2.2.2.2.2.2.2.2.2.2.2.2) := by
  refine CT.of (P := PX8_goMan) (by decide) dPX8_goMan (Nat.le_of_ble_eq_true rfl) ?_
  intro p e s m args below meth c A Q ls hne X RT Y hl
  have hl : lv_has ls 6 [(0, .ref h), (1, .int i1), (2, .int i2), (3, .int i3)] := hl
  generalize hM : M_X8_goMan (S0_status, S0_points, S0_home, S0_men, S0_hasTable, S0_acts, S0_imaged, S0_length, S0_fault, S0_traced, S0_spot, S0_begins, S0_token, S0_number, S0_readPoints, S0_readHome, S0_readMen, S0_otherOne, S0_otherKind, S0_items, S0_lanes, S0_sizes, S0_firms, S0_kinds, S0_now, S0_before, S0_images, S0_tape, S0_trace, S0_readFirms, S0_readKinds, S0_readAt, S0_rows, S0_bests) i1 i2 i3 = MM at hne RT
  unfold M_X8_goMan at hM
  refine r_aload_n (pc' := 1) X hl 0 rfl rfl 0 rfl rfl ?_
  refine r_iload_n (pc' := 2) X hl 1 rfl rfl 1 rfl rfl ?_
  refine r_iload_n (pc' := 3) X hl 2 rfl rfl 2 rfl rfl ?_
  refine r_iload_n (pc' := 4) X hl 3 rfl rfl 3 rfl rfl ?_
  refine r_callV0 (pc' := 7) (As := [.int i1, .int i2, .int i3]) (rest := []) X Y 4 rfl rfl mRX8_191 (c_X8_target l G h h_items h_lanes h_sizes h_firms h_kinds h_now h_before h_images h_tape h_trace h_readFirms h_readKinds h_readAt h_rows h_bests S0_status S0_points S0_home S0_men S0_hasTable S0_acts S0_imaged S0_length S0_fault S0_traced S0_spot S0_begins S0_token S0_number S0_readPoints S0_readHome S0_readMen S0_otherOne S0_otherKind S0_items S0_lanes S0_sizes S0_firms S0_kinds S0_now S0_before S0_images S0_tape S0_trace S0_readFirms S0_readKinds S0_readAt S0_rows S0_bests i1 i2 i3) (mB hM hne) 0 rfl rfl [0, 1, 2, 3, 4, 5, 6, 7, 8, 9, 10, 11, 12, 13, 14, 15] rfl rfl rfl (Nat.le_of_ble_eq_true rfl) ⟨rfl, rfl⟩ ⟨Nat.le_of_ble_eq_true rfl, Nat.le_of_ble_eq_true rfl⟩ ⟨Nat.zero_le _, Nat.zero_le _⟩ hl.1 (st' := fun u1 => [.int u1]) (fun _ => rfl) (fun u1 H locs huu1 Y => ?_)
  replace hM := mS hM huu1
  refine r_istore (pc' := 9) (L' := [(4, .int u1), (0, .ref h), (1, .int i1), (2, .int i2), (3, .int i3)]) X hl 5 rfl rfl (by decide) rfl (fun ls hl => ?_)
  refine r_iconst (pc' := 10) X (0 : Int32) 6 rfl rfl rfl ?_
  refine r_istore (pc' := 12) (L' := [(5, .int (0 : Int32)), (4, .int u1), (0, .ref h), (1, .int i1), (2, .int i2), (3, .int i3)]) X hl 7 rfl rfl (by decide) rfl (fun ls hl => ?_)
  obtain ⟨LL2, hL2, hne2, hX2⟩ := mL hM hne
  have KX2 : ∀ (b2 : (Nat → Int32)) (H : Heap) (locs : List Loc) (ls : Array Slot), some b2 = LL2 → rY G A s (wMS G h h_items h_lanes h_sizes h_firms h_kinds h_now h_before h_images h_tape h_trace h_readFirms h_readKinds h_readAt h_rows h_bests S0_status S0_points S0_home S0_men S0_hasTable S0_acts S0_imaged S0_length S0_fault S0_traced S0_spot S0_begins S0_token S0_number S0_readPoints S0_readHome S0_readMen S0_otherOne S0_otherKind S0_items S0_lanes S0_sizes S0_firms S0_kinds S0_now S0_before S0_images S0_tape S0_trace S0_readFirms S0_readKinds S0_readAt b2 S0_bests) H locs → lv_has ls 6 [(0, .ref h), (1, .int i1), (2, .int i2), (4, .int u1)] → W p l e q_X8_goMan s m args below meth c H locs 0 0 Q (F0 m 78 ls []) := by
    intro b2 H locs ls hM Y hl
    replace hM := hX2 _ hM
    refine r_aload_n (pc' := 79) X hl 0 rfl rfl 42 rfl rfl ?_
    refine r_get (pc' := 82) (v := .ref h_rows) X Y 43 rfl rfl fRX8_49 0 rfl rfl ?_
    refine r_bipush (pc' := 84) X (12 : Int32) 44 rfl rfl rfl ?_
    refine r_iload_n (pc' := 85) X hl 1 rfl rfl 45 rfl rfl ?_
    refine r_imul (pc' := 86) X 46 rfl rfl ?_
    refine r_iload_n (pc' := 87) X hl 2 rfl rfl 47 rfl rfl ?_
    refine r_iadd (pc' := 88) X 48 rfl rfl ?_
    refine r_iload (pc' := 90) X hl 3 rfl 49 rfl rfl ?_
    obtain ⟨g3, hM⟩ := mG hM hne
    refine r_iast (pc' := 91) (ws' := wMS G h h_items h_lanes h_sizes h_firms h_kinds h_now h_before h_images h_tape h_trace h_readFirms h_readKinds h_readAt h_rows h_bests S0_status S0_points S0_home S0_men S0_hasTable S0_acts S0_imaged S0_length S0_fault S0_traced S0_spot S0_begins S0_token S0_number S0_readPoints S0_readHome S0_readMen S0_otherOne S0_otherKind S0_items S0_lanes S0_sizes S0_firms S0_kinds S0_now S0_before S0_images S0_tape S0_trace S0_readFirms S0_readKinds S0_readAt (upd b2 ((((12 : Int32) * i1) + i2)).toNatClampNeg u1) S0_bests) X Y 50 rfl rfl 14 rfl (vin g3) rfl (fun H locs Y => ?_)
    exact RT (S0_status, S0_points, S0_home, S0_men, S0_hasTable, S0_acts, S0_imaged, S0_length, S0_fault, S0_traced, S0_spot, S0_begins, S0_token, S0_number, S0_readPoints, S0_readHome, S0_readMen, S0_otherOne, S0_otherKind, S0_items, S0_lanes, S0_sizes, S0_firms, S0_kinds, S0_now, S0_before, S0_images, S0_tape, S0_trace, S0_readFirms, S0_readKinds, S0_readAt, (upd b2 ((((12 : Int32) * i1) + i2)).toNatClampNeg u1), S0_bests) _ _ _ _ _ hM (Or.inr (Or.inr (Or.inr (Or.inl ⟨rfl, rfl, rfl⟩)))) (X.d (k := 51) rfl) Y
  refine lp_rule (I := fun (st2 : Int32 × (Nat → Int32)) => ∀ (H : Heap) (locs : List Loc) (ls : Array Slot), rY G A s (wMS G h h_items h_lanes h_sizes h_firms h_kinds h_now h_before h_images h_tape h_trace h_readFirms h_readKinds h_readAt h_rows h_bests S0_status S0_points S0_home S0_men S0_hasTable S0_acts S0_imaged S0_length S0_fault S0_traced S0_spot S0_begins S0_token S0_number S0_readPoints S0_readHome S0_readMen S0_otherOne S0_otherKind S0_items S0_lanes S0_sizes S0_firms S0_kinds S0_now S0_before S0_images S0_tape S0_trace S0_readFirms S0_readKinds S0_readAt st2.2 S0_bests) H locs → lv_has ls 6 [(0, .ref h), (1, .int i1), (2, .int i2), (4, .int u1), (5, .int st2.1)] → W p l e q_X8_goMan s m args below meth c H locs 0 0 Q (F0 m 12 ls [])) hne2 (fun rec2 st2 IH2 hM => ?_) _ _ hL2 _ _ _ Y (lv_sub hl [2, 3, 4, 1, 0] rfl)
  intro H locs ls Y hl
  obtain ⟨st2_1, st2_2⟩ := st2
  replace Y : rY G A s (wMS G h h_items h_lanes h_sizes h_firms h_kinds h_now h_before h_images h_tape h_trace h_readFirms h_readKinds h_readAt h_rows h_bests S0_status S0_points S0_home S0_men S0_hasTable S0_acts S0_imaged S0_length S0_fault S0_traced S0_spot S0_begins S0_token S0_number S0_readPoints S0_readHome S0_readMen S0_otherOne S0_otherKind S0_items S0_lanes S0_sizes S0_firms S0_kinds S0_now S0_before S0_images S0_tape S0_trace S0_readFirms S0_readKinds S0_readAt st2_2 S0_bests) H locs := Y
  replace hl : lv_has ls 6 [(0, .ref h), (1, .int i1), (2, .int i2), (4, .int u1), (5, .int st2_1)] := hl
  refine r_iload (pc' := 14) X hl 4 rfl 8 rfl rfl ?_
  refine r_aload_n (pc' := 15) X hl 0 rfl rfl 9 rfl rfl ?_
  refine r_get (pc' := 18) (v := .int S0_men) X Y 10 rfl rfl fRX8_159 0 rfl rfl ?_
  refine r_icmp_ge (pc' := 21) X 78 11 rfl rfl (by decide) (fun c4 => ?_) (fun c4 => ?_)
  · replace hM := mI hM c4
    exact KX2 st2_2 _ _ _ hM Y (lv_sub hl [0, 1, 2, 3] rfl)
  · replace hM := mE hM c4
    refine r_iload (pc' := 23) X hl 3 rfl 12 rfl rfl ?_
    refine r_bipush (pc' := 25) X (99 : Int32) 13 rfl rfl rfl ?_
    refine r_icmp_eq (pc' := 28) X 78 14 rfl rfl (by decide) (fun c5 => ?_) (fun c5 => ?_)
    · replace hM := mI hM c5
      exact KX2 st2_2 _ _ _ hM Y (lv_sub hl [0, 1, 2, 3] rfl)
    · replace hM := mE hM c5
      refine r_aload_n (pc' := 29) X hl 0 rfl rfl 15 rfl rfl ?_
      refine r_get (pc' := 32) (v := .ref h_firms) X Y 16 rfl rfl fRX8_19 0 rfl rfl ?_
      refine r_iload (pc' := 34) X hl 4 rfl 17 rfl rfl ?_
      obtain ⟨g6, hM⟩ := mG hM hne2
      refine r_iald (pc' := 35) X Y 18 rfl rfl 4 rfl (vin g6) ?_
      refine r_aload_n (pc' := 36) X hl 0 rfl rfl 19 rfl rfl ?_
      refine r_get (pc' := 39) (v := .ref h_firms) X Y 20 rfl rfl fRX8_19 0 rfl rfl ?_
      refine r_iload_n (pc' := 40) X hl 2 rfl rfl 21 rfl rfl ?_
      obtain ⟨g7, hM⟩ := mG hM hne2
      refine r_iald (pc' := 41) X Y 22 rfl rfl 4 rfl (vin g7) ?_
      refine r_icmp_eq (pc' := 44) X 72 23 rfl rfl (by decide) (fun c8 => ?_) (fun c8 => ?_)
      · replace hM := mI hM c8
        refine r_iinc (pc' := 75) (L' := [(5, .int (st2_1 + (1 : Int32))), (0, .ref h), (1, .int i1), (2, .int i2), (4, .int u1)]) X (st2_1 + (1 : Int32)) hl 4 rfl rfl 40 rfl rfl (by decide) rfl (fun ls hl => ?_)
        refine r_goto X 12 41 rfl (by decide) ?_
        exact IH2 _ hM _ _ _ Y (lv_sub hl [1, 2, 3, 4, 0] rfl)
      · replace hM := mE hM c8
        refine r_aload_n (pc' := 45) X hl 0 rfl rfl 24 rfl rfl ?_
        refine r_iload_n (pc' := 46) X hl 1 rfl rfl 25 rfl rfl ?_
        refine r_iload (pc' := 48) X hl 4 rfl 26 rfl rfl ?_
        refine r_callV0 (pc' := 51) (As := [.int i1, .int st2_1]) (rest := []) X Y 27 rfl rfl mRX8_169 (c_X8_at l G h h_items h_lanes h_sizes h_firms h_kinds h_now h_before h_images h_tape h_trace h_readFirms h_readKinds h_readAt h_rows h_bests S0_status S0_points S0_home S0_men S0_hasTable S0_acts S0_imaged S0_length S0_fault S0_traced S0_spot S0_begins S0_token S0_number S0_readPoints S0_readHome S0_readMen S0_otherOne S0_otherKind S0_items S0_lanes S0_sizes S0_firms S0_kinds S0_now S0_before S0_images S0_tape S0_trace S0_readFirms S0_readKinds S0_readAt st2_2 S0_bests i1 st2_1) (mB hM hne2) 0 rfl rfl [0, 1, 2, 3, 4, 5, 6, 7, 8, 9, 10, 11, 12, 13, 14, 15] rfl rfl rfl (Nat.le_of_ble_eq_true rfl) ⟨rfl, rfl⟩ ⟨Nat.le_of_ble_eq_true rfl, Nat.le_of_ble_eq_true rfl⟩ ⟨Nat.zero_le _, Nat.zero_le _⟩ hl.1 (st' := fun u9 => [.int u9]) (fun _ => rfl) (fun u9 H locs huu9 Y => ?_)
        replace hM := mS hM huu9
        refine r_iload (pc' := 53) X hl 3 rfl 28 rfl rfl ?_
        refine r_icmp_ne (pc' := 56) X 72 29 rfl rfl (by decide) (fun c10 => ?_) (fun c10 => ?_)
        · replace hM := mE hM c10
          refine r_iinc (pc' := 75) (L' := [(5, .int (st2_1 + (1 : Int32))), (0, .ref h), (1, .int i1), (2, .int i2), (4, .int u1)]) X (st2_1 + (1 : Int32)) hl 4 rfl rfl 40 rfl rfl (by decide) rfl (fun ls hl => ?_)
          refine r_goto X 12 41 rfl (by decide) ?_
          exact IH2 _ hM _ _ _ Y (lv_sub hl [1, 2, 3, 4, 0] rfl)
        · replace hM := mI hM c10
          refine r_aload_n (pc' := 57) X hl 0 rfl rfl 30 rfl rfl ?_
          refine r_get (pc' := 60) (v := .ref h_rows) X Y 31 rfl rfl fRX8_49 0 rfl rfl ?_
          refine r_bipush (pc' := 62) X (12 : Int32) 32 rfl rfl rfl ?_
          refine r_iload_n (pc' := 63) X hl 1 rfl rfl 33 rfl rfl ?_
          refine r_imul (pc' := 64) X 34 rfl rfl ?_
          refine r_iload (pc' := 66) X hl 4 rfl 35 rfl rfl ?_
          refine r_iadd (pc' := 67) X 36 rfl rfl ?_
          refine r_aload_n (pc' := 68) X hl 0 rfl rfl 37 rfl rfl ?_
          refine r_get (pc' := 71) (v := .int S0_points) X Y 38 rfl rfl fRX8_153 0 rfl rfl ?_
          obtain ⟨g11, hM⟩ := mG hM hne2
          refine r_iast (pc' := 72) (ws' := wMS G h h_items h_lanes h_sizes h_firms h_kinds h_now h_before h_images h_tape h_trace h_readFirms h_readKinds h_readAt h_rows h_bests S0_status S0_points S0_home S0_men S0_hasTable S0_acts S0_imaged S0_length S0_fault S0_traced S0_spot S0_begins S0_token S0_number S0_readPoints S0_readHome S0_readMen S0_otherOne S0_otherKind S0_items S0_lanes S0_sizes S0_firms S0_kinds S0_now S0_before S0_images S0_tape S0_trace S0_readFirms S0_readKinds S0_readAt (upd st2_2 ((((12 : Int32) * i1) + st2_1)).toNatClampNeg S0_points) S0_bests) X Y 39 rfl rfl 14 rfl (vin g11) rfl (fun H locs Y => ?_)
          refine r_iinc (pc' := 75) (L' := [(5, .int (st2_1 + (1 : Int32))), (0, .ref h), (1, .int i1), (2, .int i2), (4, .int u1)]) X (st2_1 + (1 : Int32)) hl 4 rfl rfl 40 rfl rfl (by decide) rfl (fun ls hl => ?_)
          refine r_goto X 12 41 rfl (by decide) ?_
          exact IH2 _ hM _ _ _ Y (lv_sub hl [1, 2, 3, 4, 0] rfl)

def M_X8_goTurn (S0 : MS) (i1 : Int32) : Option (MS) :=
  (if inb (((12 : Int32) * i1) + (8 : Int32)) 48 = true then (if inb (((12 : Int32) * i1) + (11 : Int32)) 48 = true then (some (ms_s_rows S0 (upd (upd (ms_rows S0) ((((12 : Int32) * i1) + (8 : Int32))).toNatClampNeg ((1 : Int32) - ((ms_rows S0) ((((12 : Int32) * i1) + (8 : Int32))).toNatClampNeg))) ((((12 : Int32) * i1) + (11 : Int32))).toNatClampNeg (((upd (ms_rows S0) ((((12 : Int32) * i1) + (8 : Int32))).toNatClampNeg ((1 : Int32) - ((ms_rows S0) ((((12 : Int32) * i1) + (8 : Int32))).toNatClampNeg))) ((((12 : Int32) * i1) + (11 : Int32))).toNatClampNeg) + (1 : Int32))))) else none) else none)
def q_X8_goTurn : Room := { frames := 1, cells := 0, slots := 0, locals := 60 }
set_option maxHeartbeats 4000000 in
set_option maxRecDepth 100000 in
theorem c_X8_goTurn (l : Launch) (G : gT) (h h_items h_lanes h_sizes h_firms h_kinds h_now h_before h_images h_tape h_trace h_readFirms h_readKinds h_readAt h_rows h_bests : Nat) (S0_status : Int32) (S0_points : Int32) (S0_home : Int32) (S0_men : Int32) (S0_hasTable : Int32) (S0_acts : Int32) (S0_imaged : Int32) (S0_length : Int32) (S0_fault : Int32) (S0_traced : Int32) (S0_spot : Int32) (S0_begins : Int32) (S0_token : Int32) (S0_number : Int32) (S0_readPoints : Int32) (S0_readHome : Int32) (S0_readMen : Int32) (S0_otherOne : Int32) (S0_otherKind : Int32) (S0_items : Nat → Int32) (S0_lanes : Nat → Int32) (S0_sizes : Nat → Int32) (S0_firms : Nat → Int32) (S0_kinds : Nat → Int32) (S0_now : Nat → Int32) (S0_before : Nat → Int32) (S0_images : Nat → Int32) (S0_tape : Nat → Int32) (S0_trace : Nat → Int32) (S0_readFirms : Nat → Int32) (S0_readKinds : Nat → Int32) (S0_readAt : Nat → Int32) (S0_rows : Nat → Int32) (S0_bests : Nat → Int32) (i1 : Int32) : CT l G yX8_goTurn cX8_goTurn 2 none q_X8_goTurn [.ref h, .int i1] (wMS G h h_items h_lanes h_sizes h_firms h_kinds h_now h_before h_images h_tape h_trace h_readFirms h_readKinds h_readAt h_rows h_bests S0_status S0_points S0_home S0_men S0_hasTable S0_acts S0_imaged S0_length S0_fault S0_traced S0_spot S0_begins S0_token S0_number S0_readPoints S0_readHome S0_readMen S0_otherOne S0_otherKind S0_items S0_lanes S0_sizes S0_firms S0_kinds S0_now S0_before S0_images S0_tape S0_trace S0_readFirms S0_readKinds S0_readAt S0_rows S0_bests) (M_X8_goTurn (S0_status, S0_points, S0_home, S0_men, S0_hasTable, S0_acts, S0_imaged, S0_length, S0_fault, S0_traced, S0_spot, S0_begins, S0_token, S0_number, S0_readPoints, S0_readHome, S0_readMen, S0_otherOne, S0_otherKind, S0_items, S0_lanes, S0_sizes, S0_firms, S0_kinds, S0_now, S0_before, S0_images, S0_tape, S0_trace, S0_readFirms, S0_readKinds, S0_readAt, S0_rows, S0_bests) i1) (fun u => none) (fun u => wMS G h h_items h_lanes h_sizes h_firms h_kinds h_now h_before h_images h_tape h_trace h_readFirms h_readKinds h_readAt h_rows h_bests u.1 u.2.1 u.2.2.1 u.2.2.2.1 u.2.2.2.2.1 u.2.2.2.2.2.1 u.2.2.2.2.2.2.1 u.2.2.2.2.2.2.2.1 u.2.2.2.2.2.2.2.2.1 u.2.2.2.2.2.2.2.2.2.1 u.2.2.2.2.2.2.2.2.2.2.1 u.2.2.2.2.2.2.2.2.2.2.2.1 u.2.2.2.2.2.2.2.2.2.2.2.2.1 u.2.2.2.2.2.2.2.2.2.2.2.2.2.1 u.2.2.2.2.2.2.2.2.2.2.2.2.2.2.1 u.2.2.2.2.2.2.2.2.2.2.2.2.2.2.2.1 u.2.2.2.2.2.2.2.2.2.2.2.2.2.2.2.2.1 u.2.2.2.2.2.2.2.2.2.2.2.2.2.2.2.2.2.1 u.2.2.2.2.2.2.2.2.2.2.2.2.2.2.2.2.2.2.1 u.2.2.2.2.2.2.2.2.2.2.2.2.2.2.2.2.2.2.2.1 u.2.2.2.2.2.2.2.2.2.2.2.2.2.2.2.2.2.2.2.2.1 u.2.2.2.2.2.2.2.2.2.2.2.2.2.2.2.2.2.2.2.2.2.1 u.2.2.2.2.2.2.2.2.2.2.2.2.2.2.2.2.2.2.2.2.2.2.1 u.2.2.2.2.2.2.2.2.2.2.2.2.2.2.2.2.2.2.2.2.2.2.2.1 u.2.2.2.2.2.2.2.2.2.2.2.2.2.2.2.2.2.2.2.2.2.2.2.2.1 u.2.2.2.2.2.2.2.2.2.2.2.2.2.2.2.2.2.2.2.2.2.2.2.2.2.1 u.2.2.2.2.2.2.2.2.2.2.2.2.2.2.2.2.2.2.2.2.2.2.2.2.2.2.1 u.2.2.2.2.2.2.2.2.2.2.2.2.2.2.2.2.2.2.2.2.2.2.2.2.2.2.2.1 u.2.2.2.2.2.2.2.2.2.2.2.2.2.2.2.2.2.2.2.2.2.2.2.2.2.2.2.2.1 u.2.2.2.2.2.2.2.2.2.2.2.2.2.2.2.2.2.2.2.2.2.2.2.2.2.2.2.2.2.1 u.2.2.2.2.2.2.2.2.2.2.2.2.2.2.2.2.2.2.2.2.2.2.2.2.2.2.2.2.2.2.1 u.2.2.2.2.2.2.2.2.2.2.2.2.2.2.2.2.2.2.2.2.2.2.2.2.2.2.2.2.2.2.2.1 u.2.2.2.2.2.2.2.2.2.2.2.2.2.2.2.2.2.2.2.2.2.2.2.2.2.2.2.2.2.2.2.2.1 u.2.2.2.2.2.2.2.2.2.2.2.2.2.2.2.2.2.2.2.2.2.2.2.2.2.2.2.2.2.2.2.2.2) := by
  refine CT.of (P := PX8_goTurn) (by decide) dPX8_goTurn (Nat.le_of_ble_eq_true rfl) ?_
  intro p e s m args below meth c A Q ls hne X RT Y hl
  have hl : lv_has ls 2 [(0, .ref h), (1, .int i1)] := hl
  generalize hM : M_X8_goTurn (S0_status, S0_points, S0_home, S0_men, S0_hasTable, S0_acts, S0_imaged, S0_length, S0_fault, S0_traced, S0_spot, S0_begins, S0_token, S0_number, S0_readPoints, S0_readHome, S0_readMen, S0_otherOne, S0_otherKind, S0_items, S0_lanes, S0_sizes, S0_firms, S0_kinds, S0_now, S0_before, S0_images, S0_tape, S0_trace, S0_readFirms, S0_readKinds, S0_readAt, S0_rows, S0_bests) i1 = MM at hne RT
  unfold M_X8_goTurn at hM
  refine r_aload_n (pc' := 1) X hl 0 rfl rfl 0 rfl rfl ?_
  refine r_get (pc' := 4) (v := .ref h_rows) X Y 1 rfl rfl fRX8_49 0 rfl rfl ?_
  refine r_bipush (pc' := 6) X (12 : Int32) 2 rfl rfl rfl ?_
  refine r_iload_n (pc' := 7) X hl 1 rfl rfl 3 rfl rfl ?_
  refine r_imul (pc' := 8) X 4 rfl rfl ?_
  refine r_bipush (pc' := 10) X (8 : Int32) 5 rfl rfl rfl ?_
  refine r_iadd (pc' := 11) X 6 rfl rfl ?_
  refine r_iconst (pc' := 12) X (1 : Int32) 7 rfl rfl rfl ?_
  refine r_aload_n (pc' := 13) X hl 0 rfl rfl 8 rfl rfl ?_
  refine r_get (pc' := 16) (v := .ref h_rows) X Y 9 rfl rfl fRX8_49 0 rfl rfl ?_
  refine r_bipush (pc' := 18) X (12 : Int32) 10 rfl rfl rfl ?_
  refine r_iload_n (pc' := 19) X hl 1 rfl rfl 11 rfl rfl ?_
  refine r_imul (pc' := 20) X 12 rfl rfl ?_
  refine r_bipush (pc' := 22) X (8 : Int32) 13 rfl rfl rfl ?_
  refine r_iadd (pc' := 23) X 14 rfl rfl ?_
  obtain ⟨g1, hM⟩ := mG hM hne
  refine r_iald (pc' := 24) X Y 15 rfl rfl 14 rfl (vin g1) ?_
  refine r_isub (pc' := 25) X 16 rfl rfl ?_
  refine r_iast (pc' := 26) (ws' := wMS G h h_items h_lanes h_sizes h_firms h_kinds h_now h_before h_images h_tape h_trace h_readFirms h_readKinds h_readAt h_rows h_bests S0_status S0_points S0_home S0_men S0_hasTable S0_acts S0_imaged S0_length S0_fault S0_traced S0_spot S0_begins S0_token S0_number S0_readPoints S0_readHome S0_readMen S0_otherOne S0_otherKind S0_items S0_lanes S0_sizes S0_firms S0_kinds S0_now S0_before S0_images S0_tape S0_trace S0_readFirms S0_readKinds S0_readAt (upd S0_rows ((((12 : Int32) * i1) + (8 : Int32))).toNatClampNeg ((1 : Int32) - (S0_rows ((((12 : Int32) * i1) + (8 : Int32))).toNatClampNeg))) S0_bests) X Y 17 rfl rfl 14 rfl (vin g1) rfl (fun H locs Y => ?_)
  refine r_aload_n (pc' := 27) X hl 0 rfl rfl 18 rfl rfl ?_
  refine r_get (pc' := 30) (v := .ref h_rows) X Y 19 rfl rfl fRX8_49 0 rfl rfl ?_
  refine r_bipush (pc' := 32) X (12 : Int32) 20 rfl rfl rfl ?_
  refine r_iload_n (pc' := 33) X hl 1 rfl rfl 21 rfl rfl ?_
  refine r_imul (pc' := 34) X 22 rfl rfl ?_
  refine r_bipush (pc' := 36) X (11 : Int32) 23 rfl rfl rfl ?_
  refine r_iadd (pc' := 37) X 24 rfl rfl ?_
  refine r_dup2 (pc' := 38) X 25 rfl rfl rfl rfl ?_
  obtain ⟨g2, hM⟩ := mG hM hne
  refine r_iald (pc' := 39) X Y 26 rfl rfl 14 rfl (vin g2) ?_
  refine r_iconst (pc' := 40) X (1 : Int32) 27 rfl rfl rfl ?_
  refine r_iadd (pc' := 41) X 28 rfl rfl ?_
  refine r_iast (pc' := 42) (ws' := wMS G h h_items h_lanes h_sizes h_firms h_kinds h_now h_before h_images h_tape h_trace h_readFirms h_readKinds h_readAt h_rows h_bests S0_status S0_points S0_home S0_men S0_hasTable S0_acts S0_imaged S0_length S0_fault S0_traced S0_spot S0_begins S0_token S0_number S0_readPoints S0_readHome S0_readMen S0_otherOne S0_otherKind S0_items S0_lanes S0_sizes S0_firms S0_kinds S0_now S0_before S0_images S0_tape S0_trace S0_readFirms S0_readKinds S0_readAt (upd (upd S0_rows ((((12 : Int32) * i1) + (8 : Int32))).toNatClampNeg ((1 : Int32) - (S0_rows ((((12 : Int32) * i1) + (8 : Int32))).toNatClampNeg))) ((((12 : Int32) * i1) + (11 : Int32))).toNatClampNeg (((upd S0_rows ((((12 : Int32) * i1) + (8 : Int32))).toNatClampNeg ((1 : Int32) - (S0_rows ((((12 : Int32) * i1) + (8 : Int32))).toNatClampNeg))) ((((12 : Int32) * i1) + (11 : Int32))).toNatClampNeg) + (1 : Int32))) S0_bests) X Y 29 rfl rfl 14 rfl (vin g2) rfl (fun H locs Y => ?_)
  exact RT (S0_status, S0_points, S0_home, S0_men, S0_hasTable, S0_acts, S0_imaged, S0_length, S0_fault, S0_traced, S0_spot, S0_begins, S0_token, S0_number, S0_readPoints, S0_readHome, S0_readMen, S0_otherOne, S0_otherKind, S0_items, S0_lanes, S0_sizes, S0_firms, S0_kinds, S0_now, S0_before, S0_images, S0_tape, S0_trace, S0_readFirms, S0_readKinds, S0_readAt, (upd (upd S0_rows ((((12 : Int32) * i1) + (8 : Int32))).toNatClampNeg ((1 : Int32) - (S0_rows ((((12 : Int32) * i1) + (8 : Int32))).toNatClampNeg))) ((((12 : Int32) * i1) + (11 : Int32))).toNatClampNeg (((upd S0_rows ((((12 : Int32) * i1) + (8 : Int32))).toNatClampNeg ((1 : Int32) - (S0_rows ((((12 : Int32) * i1) + (8 : Int32))).toNatClampNeg))) ((((12 : Int32) * i1) + (11 : Int32))).toNatClampNeg) + (1 : Int32))), S0_bests) _ _ _ _ _ hM (Or.inr (Or.inr (Or.inr (Or.inl ⟨rfl, rfl, rfl⟩)))) (X.d (k := 30) rfl) Y

def M_X8_ruled (S0 : MS) (i1 : Int32) (i2 : Int32) (i3 : Int32) : Option (Int32) :=
  ((lp (σ := Int32 × Int32) (β := Int32) (fun rec1 st1 => (if (ms_men S0) ≤ st1.2 then (some st1.1) else (if inb st1.2 8 = true then (jn (σ := Int32) (fun v4 => (if v4 = 0 then (rec1 (st1.1, (st1.2 + (1 : Int32)))) else (if st1.1 = (-1000000 : Int32) then (rec1 (st1.2, (st1.2 + (1 : Int32)))) else ((M_X8_pipsOf S0 i1 st1.2).bind (fun u7 => ((M_X8_pipsOf S0 i1 st1.1).bind (fun u8 => (if u7 ≤ u8 then (rec1 (st1.1, (st1.2 + (1 : Int32)))) else (rec1 (st1.2, (st1.2 + (1 : Int32)))))))))))) (fun J4 => (jn (σ := Unit) (fun v10 => (J4 (0 : Int32))) (fun J10 => (if ((ms_firms S0) (st1.2).toNatClampNeg) = i2 then ((M_X8_can S0 i1 st1.2 i3).bind (fun u12 => (if u12 = 0 then (J10 ()) else (J4 (1 : Int32))))) else (J10 ())))))) else none))) 1000000 ((-1000000 : Int32), (0 : Int32))).bind (fun b1 => (some b1)))
def q_X8_ruled : Room := { frames := 5, cells := 0, slots := 0, locals := 157 }
set_option maxHeartbeats 4000000 in
set_option maxRecDepth 100000 in
theorem c_X8_ruled (l : Launch) (G : gT) (h h_items h_lanes h_sizes h_firms h_kinds h_now h_before h_images h_tape h_trace h_readFirms h_readKinds h_readAt h_rows h_bests : Nat) (S0_status : Int32) (S0_points : Int32) (S0_home : Int32) (S0_men : Int32) (S0_hasTable : Int32) (S0_acts : Int32) (S0_imaged : Int32) (S0_length : Int32) (S0_fault : Int32) (S0_traced : Int32) (S0_spot : Int32) (S0_begins : Int32) (S0_token : Int32) (S0_number : Int32) (S0_readPoints : Int32) (S0_readHome : Int32) (S0_readMen : Int32) (S0_otherOne : Int32) (S0_otherKind : Int32) (S0_items : Nat → Int32) (S0_lanes : Nat → Int32) (S0_sizes : Nat → Int32) (S0_firms : Nat → Int32) (S0_kinds : Nat → Int32) (S0_now : Nat → Int32) (S0_before : Nat → Int32) (S0_images : Nat → Int32) (S0_tape : Nat → Int32) (S0_trace : Nat → Int32) (S0_readFirms : Nat → Int32) (S0_readKinds : Nat → Int32) (S0_readAt : Nat → Int32) (S0_rows : Nat → Int32) (S0_bests : Nat → Int32) (i1 : Int32) (i2 : Int32) (i3 : Int32) : CT l G yX8_ruled cX8_ruled 7 (some .int) q_X8_ruled [.ref h, .int i1, .int i2, .int i3] (wMS G h h_items h_lanes h_sizes h_firms h_kinds h_now h_before h_images h_tape h_trace h_readFirms h_readKinds h_readAt h_rows h_bests S0_status S0_points S0_home S0_men S0_hasTable S0_acts S0_imaged S0_length S0_fault S0_traced S0_spot S0_begins S0_token S0_number S0_readPoints S0_readHome S0_readMen S0_otherOne S0_otherKind S0_items S0_lanes S0_sizes S0_firms S0_kinds S0_now S0_before S0_images S0_tape S0_trace S0_readFirms S0_readKinds S0_readAt S0_rows S0_bests) (M_X8_ruled (S0_status, S0_points, S0_home, S0_men, S0_hasTable, S0_acts, S0_imaged, S0_length, S0_fault, S0_traced, S0_spot, S0_begins, S0_token, S0_number, S0_readPoints, S0_readHome, S0_readMen, S0_otherOne, S0_otherKind, S0_items, S0_lanes, S0_sizes, S0_firms, S0_kinds, S0_now, S0_before, S0_images, S0_tape, S0_trace, S0_readFirms, S0_readKinds, S0_readAt, S0_rows, S0_bests) i1 i2 i3) (fun u => some (.int u)) (fun u => wMS G h h_items h_lanes h_sizes h_firms h_kinds h_now h_before h_images h_tape h_trace h_readFirms h_readKinds h_readAt h_rows h_bests S0_status S0_points S0_home S0_men S0_hasTable S0_acts S0_imaged S0_length S0_fault S0_traced S0_spot S0_begins S0_token S0_number S0_readPoints S0_readHome S0_readMen S0_otherOne S0_otherKind S0_items S0_lanes S0_sizes S0_firms S0_kinds S0_now S0_before S0_images S0_tape S0_trace S0_readFirms S0_readKinds S0_readAt S0_rows S0_bests) := by
  refine CT.of (P := PX8_ruled) (by decide) dPX8_ruled (Nat.le_of_ble_eq_true rfl) ?_
  intro p e s m args below meth c A Q ls hne X RT Y hl
  have hl : lv_has ls 7 [(0, .ref h), (1, .int i1), (2, .int i2), (3, .int i3)] := hl
  generalize hM : M_X8_ruled (S0_status, S0_points, S0_home, S0_men, S0_hasTable, S0_acts, S0_imaged, S0_length, S0_fault, S0_traced, S0_spot, S0_begins, S0_token, S0_number, S0_readPoints, S0_readHome, S0_readMen, S0_otherOne, S0_otherKind, S0_items, S0_lanes, S0_sizes, S0_firms, S0_kinds, S0_now, S0_before, S0_images, S0_tape, S0_trace, S0_readFirms, S0_readKinds, S0_readAt, S0_rows, S0_bests) i1 i2 i3 = MM at hne RT
  unfold M_X8_ruled at hM
  refine r_ldc (pc' := 2) X mw526 0 rfl rfl ?_
  refine r_istore (pc' := 4) (L' := [(4, .int (-1000000 : Int32)), (0, .ref h), (1, .int i1), (2, .int i2), (3, .int i3)]) X hl 1 rfl rfl (by decide) rfl (fun ls hl => ?_)
  refine r_iconst (pc' := 5) X (0 : Int32) 2 rfl rfl rfl ?_
  refine r_istore (pc' := 7) (L' := [(5, .int (0 : Int32)), (4, .int (-1000000 : Int32)), (0, .ref h), (1, .int i1), (2, .int i2), (3, .int i3)]) X hl 3 rfl rfl (by decide) rfl (fun ls hl => ?_)
  obtain ⟨LL1, hL1, hne1, hX1⟩ := mL hM hne
  have KX1 : ∀ (b1 : Int32) (H : Heap) (locs : List Loc) (ls : Array Slot), some b1 = LL1 → rY G A s (wMS G h h_items h_lanes h_sizes h_firms h_kinds h_now h_before h_images h_tape h_trace h_readFirms h_readKinds h_readAt h_rows h_bests S0_status S0_points S0_home S0_men S0_hasTable S0_acts S0_imaged S0_length S0_fault S0_traced S0_spot S0_begins S0_token S0_number S0_readPoints S0_readHome S0_readMen S0_otherOne S0_otherKind S0_items S0_lanes S0_sizes S0_firms S0_kinds S0_now S0_before S0_images S0_tape S0_trace S0_readFirms S0_readKinds S0_readAt S0_rows S0_bests) H locs → lv_has ls 7 [(4, .int b1)] → W p l e q_X8_ruled s m args below meth c H locs 0 0 Q (F0 m 89 ls []) := by
    intro b1 H locs ls hM Y hl
    replace hM := hX1 _ hM
    refine r_iload (pc' := 91) X hl 0 rfl 44 rfl rfl ?_
    exact RT b1 _ _ _ _ _ hM (Or.inl ⟨rfl, rfl, _, rfl⟩) (X.d (k := 45) rfl) Y
  refine lp_rule (I := fun (st1 : Int32 × Int32) => ∀ (H : Heap) (locs : List Loc) (ls : Array Slot), rY G A s (wMS G h h_items h_lanes h_sizes h_firms h_kinds h_now h_before h_images h_tape h_trace h_readFirms h_readKinds h_readAt h_rows h_bests S0_status S0_points S0_home S0_men S0_hasTable S0_acts S0_imaged S0_length S0_fault S0_traced S0_spot S0_begins S0_token S0_number S0_readPoints S0_readHome S0_readMen S0_otherOne S0_otherKind S0_items S0_lanes S0_sizes S0_firms S0_kinds S0_now S0_before S0_images S0_tape S0_trace S0_readFirms S0_readKinds S0_readAt S0_rows S0_bests) H locs → lv_has ls 7 [(0, .ref h), (1, .int i1), (2, .int i2), (3, .int i3), (4, .int st1.1), (5, .int st1.2)] → W p l e q_X8_ruled s m args below meth c H locs 0 0 Q (F0 m 7 ls [])) hne1 (fun rec1 st1 IH1 hM => ?_) _ _ hL1 _ _ _ Y (lv_sub hl [2, 3, 4, 5, 1, 0] rfl)
  intro H locs ls Y hl
  obtain ⟨st1_1, st1_2⟩ := st1
  replace Y : rY G A s (wMS G h h_items h_lanes h_sizes h_firms h_kinds h_now h_before h_images h_tape h_trace h_readFirms h_readKinds h_readAt h_rows h_bests S0_status S0_points S0_home S0_men S0_hasTable S0_acts S0_imaged S0_length S0_fault S0_traced S0_spot S0_begins S0_token S0_number S0_readPoints S0_readHome S0_readMen S0_otherOne S0_otherKind S0_items S0_lanes S0_sizes S0_firms S0_kinds S0_now S0_before S0_images S0_tape S0_trace S0_readFirms S0_readKinds S0_readAt S0_rows S0_bests) H locs := Y
  replace hl : lv_has ls 7 [(0, .ref h), (1, .int i1), (2, .int i2), (3, .int i3), (4, .int st1_1), (5, .int st1_2)] := hl
  refine r_iload (pc' := 9) X hl 5 rfl 4 rfl rfl ?_
  refine r_aload_n (pc' := 10) X hl 0 rfl rfl 5 rfl rfl ?_
  refine r_get (pc' := 13) (v := .int S0_men) X Y 6 rfl rfl fRX8_159 0 rfl rfl ?_
  refine r_icmp_ge (pc' := 16) X 89 7 rfl rfl (by decide) (fun c2 => ?_) (fun c2 => ?_)
  · replace hM := mI hM c2
    exact KX1 st1_1 _ _ _ hM Y (lv_sub hl [4] rfl)
  · replace hM := mE hM c2
    refine r_aload_n (pc' := 17) X hl 0 rfl rfl 8 rfl rfl ?_
    refine r_get (pc' := 20) (v := .ref h_firms) X Y 9 rfl rfl fRX8_19 0 rfl rfl ?_
    refine r_iload (pc' := 22) X hl 5 rfl 10 rfl rfl ?_
    obtain ⟨g3, hM⟩ := mG hM hne1
    refine r_iald (pc' := 23) X Y 11 rfl rfl 4 rfl (vin g3) ?_
    refine r_iload_n (pc' := 24) X hl 2 rfl rfl 12 rfl rfl ?_
    obtain ⟨J4, hJ4, hM⟩ := mJ hM
    have KJ4 : ∀ (v4 : Int32) (H : Heap) (locs : List Loc) (ls : Array Slot), J4 v4 = LL1 → rY G A s (wMS G h h_items h_lanes h_sizes h_firms h_kinds h_now h_before h_images h_tape h_trace h_readFirms h_readKinds h_readAt h_rows h_bests S0_status S0_points S0_home S0_men S0_hasTable S0_acts S0_imaged S0_length S0_fault S0_traced S0_spot S0_begins S0_token S0_number S0_readPoints S0_readHome S0_readMen S0_otherOne S0_otherKind S0_items S0_lanes S0_sizes S0_firms S0_kinds S0_now S0_before S0_images S0_tape S0_trace S0_readFirms S0_readKinds S0_readAt S0_rows S0_bests) H locs → lv_has ls 7 [(0, .ref h), (1, .int i1), (2, .int i2), (3, .int i3), (4, .int st1_1), (5, .int st1_2)] → W p l e q_X8_ruled s m args below meth c H locs 0 0 Q (F0 m 43 ls [.int v4]) := by
      intro v4 H locs ls hM Y hl
      replace hM := (hJ4 _).symm.trans hM
      refine r_istore (pc' := 45) (L' := [(6, .int v4), (0, .ref h), (1, .int i1), (2, .int i2), (3, .int i3), (4, .int st1_1), (5, .int st1_2)]) X hl 23 rfl rfl (by decide) rfl (fun ls hl => ?_)
      refine r_iload (pc' := 47) X hl 0 rfl 24 rfl rfl ?_
      refine r_if_eq (pc' := 50) X 79 25 rfl rfl (by decide) (fun c5 => ?_) (fun c5 => ?_)
      · replace hM := mI hM c5
        refine r_iload (pc' := 81) X hl 5 rfl 40 rfl rfl ?_
        refine r_istore (pc' := 83) (L' := [(4, .int st1_1), (6, .int v4), (0, .ref h), (1, .int i1), (2, .int i2), (3, .int i3), (5, .int st1_2)]) X hl 41 rfl rfl (by decide) rfl (fun ls hl => ?_)
        refine r_iinc (pc' := 86) (L' := [(5, .int (st1_2 + (1 : Int32))), (4, .int st1_1), (6, .int v4), (0, .ref h), (1, .int i1), (2, .int i2), (3, .int i3)]) X (st1_2 + (1 : Int32)) hl 6 rfl rfl 42 rfl rfl (by decide) rfl (fun ls hl => ?_)
        refine r_goto X 7 43 rfl (by decide) ?_
        exact IH1 _ hM _ _ _ Y (lv_sub hl [3, 4, 5, 6, 1, 0] rfl)
      · replace hM := mE hM c5
        refine r_iload (pc' := 52) X hl 5 rfl 26 rfl rfl ?_
        refine r_ldc (pc' := 54) X mw526 27 rfl rfl ?_
        refine r_icmp_eq (pc' := 57) X 74 28 rfl rfl (by decide) (fun c6 => ?_) (fun c6 => ?_)
        · replace hM := mI hM c6
          refine r_iload (pc' := 76) X hl 6 rfl 38 rfl rfl ?_
          refine r_goto X 81 39 rfl (by decide) ?_
          refine r_istore (pc' := 83) (L' := [(4, .int st1_2), (6, .int v4), (0, .ref h), (1, .int i1), (2, .int i2), (3, .int i3), (5, .int st1_2)]) X hl 41 rfl rfl (by decide) rfl (fun ls hl => ?_)
          refine r_iinc (pc' := 86) (L' := [(5, .int (st1_2 + (1 : Int32))), (4, .int st1_2), (6, .int v4), (0, .ref h), (1, .int i1), (2, .int i2), (3, .int i3)]) X (st1_2 + (1 : Int32)) hl 6 rfl rfl 42 rfl rfl (by decide) rfl (fun ls hl => ?_)
          refine r_goto X 7 43 rfl (by decide) ?_
          exact IH1 _ hM _ _ _ Y (lv_sub hl [3, 4, 5, 6, 1, 0] rfl)
        · replace hM := mE hM c6
          refine r_aload_n (pc' := 58) X hl 1 rfl rfl 29 rfl rfl ?_
          refine r_iload_n (pc' := 59) X hl 2 rfl rfl 30 rfl rfl ?_
          refine r_iload (pc' := 61) X hl 6 rfl 31 rfl rfl ?_
          refine r_callV0 (pc' := 64) (As := [.int i1, .int st1_2]) (rest := []) X Y 32 rfl rfl mRX8_181 (c_X8_pipsOf l G h h_items h_lanes h_sizes h_firms h_kinds h_now h_before h_images h_tape h_trace h_readFirms h_readKinds h_readAt h_rows h_bests S0_status S0_points S0_home S0_men S0_hasTable S0_acts S0_imaged S0_length S0_fault S0_traced S0_spot S0_begins S0_token S0_number S0_readPoints S0_readHome S0_readMen S0_otherOne S0_otherKind S0_items S0_lanes S0_sizes S0_firms S0_kinds S0_now S0_before S0_images S0_tape S0_trace S0_readFirms S0_readKinds S0_readAt S0_rows S0_bests i1 st1_2) (mB hM hne1) 0 rfl rfl [0, 1, 2, 3, 4, 5, 6, 7, 8, 9, 10, 11, 12, 13, 14, 15] rfl rfl rfl (Nat.le_of_ble_eq_true rfl) ⟨rfl, rfl⟩ ⟨Nat.le_of_ble_eq_true rfl, Nat.le_of_ble_eq_true rfl⟩ ⟨Nat.zero_le _, Nat.zero_le _⟩ hl.1 (st' := fun u7 => [.int u7]) (fun _ => rfl) (fun u7 H locs huu7 Y => ?_)
          replace hM := mS hM huu7
          refine r_aload_n (pc' := 65) X hl 1 rfl rfl 33 rfl rfl ?_
          refine r_iload_n (pc' := 66) X hl 2 rfl rfl 34 rfl rfl ?_
          refine r_iload (pc' := 68) X hl 5 rfl 35 rfl rfl ?_
          refine r_callV0 (pc' := 71) (As := [.int i1, .int st1_1]) (rest := [.int u7]) X Y 36 rfl rfl mRX8_181 (c_X8_pipsOf l G h h_items h_lanes h_sizes h_firms h_kinds h_now h_before h_images h_tape h_trace h_readFirms h_readKinds h_readAt h_rows h_bests S0_status S0_points S0_home S0_men S0_hasTable S0_acts S0_imaged S0_length S0_fault S0_traced S0_spot S0_begins S0_token S0_number S0_readPoints S0_readHome S0_readMen S0_otherOne S0_otherKind S0_items S0_lanes S0_sizes S0_firms S0_kinds S0_now S0_before S0_images S0_tape S0_trace S0_readFirms S0_readKinds S0_readAt S0_rows S0_bests i1 st1_1) (mB hM hne1) 0 rfl rfl [0, 1, 2, 3, 4, 5, 6, 7, 8, 9, 10, 11, 12, 13, 14, 15] rfl rfl rfl (Nat.le_of_ble_eq_true rfl) ⟨rfl, rfl⟩ ⟨Nat.le_of_ble_eq_true rfl, Nat.le_of_ble_eq_true rfl⟩ ⟨Nat.zero_le _, Nat.zero_le _⟩ hl.1 (st' := fun u8 => [.int u8, .int u7]) (fun _ => rfl) (fun u8 H locs huu8 Y => ?_)
          replace hM := mS hM huu8
          refine r_icmp_le (pc' := 74) X 79 37 rfl rfl (by decide) (fun c9 => ?_) (fun c9 => ?_)
          · replace hM := mI hM c9
            refine r_iload (pc' := 81) X hl 5 rfl 40 rfl rfl ?_
            refine r_istore (pc' := 83) (L' := [(4, .int st1_1), (6, .int v4), (0, .ref h), (1, .int i1), (2, .int i2), (3, .int i3), (5, .int st1_2)]) X hl 41 rfl rfl (by decide) rfl (fun ls hl => ?_)
            refine r_iinc (pc' := 86) (L' := [(5, .int (st1_2 + (1 : Int32))), (4, .int st1_1), (6, .int v4), (0, .ref h), (1, .int i1), (2, .int i2), (3, .int i3)]) X (st1_2 + (1 : Int32)) hl 6 rfl rfl 42 rfl rfl (by decide) rfl (fun ls hl => ?_)
            refine r_goto X 7 43 rfl (by decide) ?_
            exact IH1 _ hM _ _ _ Y (lv_sub hl [3, 4, 5, 6, 1, 0] rfl)
          · replace hM := mE hM c9
            refine r_iload (pc' := 76) X hl 6 rfl 38 rfl rfl ?_
            refine r_goto X 81 39 rfl (by decide) ?_
            refine r_istore (pc' := 83) (L' := [(4, .int st1_2), (6, .int v4), (0, .ref h), (1, .int i1), (2, .int i2), (3, .int i3), (5, .int st1_2)]) X hl 41 rfl rfl (by decide) rfl (fun ls hl => ?_)
            refine r_iinc (pc' := 86) (L' := [(5, .int (st1_2 + (1 : Int32))), (4, .int st1_2), (6, .int v4), (0, .ref h), (1, .int i1), (2, .int i2), (3, .int i3)]) X (st1_2 + (1 : Int32)) hl 6 rfl rfl 42 rfl rfl (by decide) rfl (fun ls hl => ?_)
            refine r_goto X 7 43 rfl (by decide) ?_
            exact IH1 _ hM _ _ _ Y (lv_sub hl [3, 4, 5, 6, 1, 0] rfl)
    obtain ⟨J10, hJ10, hM⟩ := mJ hM
    have KJ10 : ∀  (H : Heap) (locs : List Loc) (ls : Array Slot), J10 () = LL1 → rY G A s (wMS G h h_items h_lanes h_sizes h_firms h_kinds h_now h_before h_images h_tape h_trace h_readFirms h_readKinds h_readAt h_rows h_bests S0_status S0_points S0_home S0_men S0_hasTable S0_acts S0_imaged S0_length S0_fault S0_traced S0_spot S0_begins S0_token S0_number S0_readPoints S0_readHome S0_readMen S0_otherOne S0_otherKind S0_items S0_lanes S0_sizes S0_firms S0_kinds S0_now S0_before S0_images S0_tape S0_trace S0_readFirms S0_readKinds S0_readAt S0_rows S0_bests) H locs → lv_has ls 7 [(0, .ref h), (1, .int i1), (2, .int i2), (3, .int i3), (4, .int st1_1), (5, .int st1_2)] → W p l e q_X8_ruled s m args below meth c H locs 0 0 Q (F0 m 42 ls []) := by
      intro  H locs ls hM Y hl
      replace hM := (hJ10 _).symm.trans hM
      refine r_iconst (pc' := 43) X (0 : Int32) 22 rfl rfl rfl ?_
      exact KJ4 (0 : Int32) _ _ _ hM Y (lv_sub hl [0, 1, 2, 3, 4, 5] rfl)
    refine r_icmp_ne (pc' := 27) X 42 13 rfl rfl (by decide) (fun c11 => ?_) (fun c11 => ?_)
    · replace hM := mE hM c11
      exact KJ10  _ _ _ hM Y (lv_sub hl [0, 1, 2, 3, 4, 5] rfl)
    · replace hM := mI hM c11
      refine r_aload_n (pc' := 28) X hl 0 rfl rfl 14 rfl rfl ?_
      refine r_iload_n (pc' := 29) X hl 1 rfl rfl 15 rfl rfl ?_
      refine r_iload (pc' := 31) X hl 5 rfl 16 rfl rfl ?_
      refine r_iload_n (pc' := 32) X hl 3 rfl rfl 17 rfl rfl ?_
      refine r_callV0 (pc' := 35) (As := [.int i1, .int st1_2, .int i3]) (rest := []) X Y 18 rfl rfl mRX8_199 (c_X8_can l G h h_items h_lanes h_sizes h_firms h_kinds h_now h_before h_images h_tape h_trace h_readFirms h_readKinds h_readAt h_rows h_bests S0_status S0_points S0_home S0_men S0_hasTable S0_acts S0_imaged S0_length S0_fault S0_traced S0_spot S0_begins S0_token S0_number S0_readPoints S0_readHome S0_readMen S0_otherOne S0_otherKind S0_items S0_lanes S0_sizes S0_firms S0_kinds S0_now S0_before S0_images S0_tape S0_trace S0_readFirms S0_readKinds S0_readAt S0_rows S0_bests i1 st1_2 i3) (mB hM hne1) 0 rfl rfl [0, 1, 2, 3, 4, 5, 6, 7, 8, 9, 10, 11, 12, 13, 14, 15] rfl rfl rfl (Nat.le_of_ble_eq_true rfl) ⟨rfl, rfl⟩ ⟨Nat.le_of_ble_eq_true rfl, Nat.le_of_ble_eq_true rfl⟩ ⟨Nat.zero_le _, Nat.zero_le _⟩ hl.1 (st' := fun u12 => [.int u12]) (fun _ => rfl) (fun u12 H locs huu12 Y => ?_)
      replace hM := mS hM huu12
      refine r_if_eq (pc' := 38) X 42 19 rfl rfl (by decide) (fun c13 => ?_) (fun c13 => ?_)
      · replace hM := mI hM c13
        exact KJ10  _ _ _ hM Y (lv_sub hl [0, 1, 2, 3, 4, 5] rfl)
      · replace hM := mE hM c13
        refine r_iconst (pc' := 39) X (1 : Int32) 20 rfl rfl rfl ?_
        refine r_goto X 43 21 rfl (by decide) ?_
        exact KJ4 (1 : Int32) _ _ _ hM Y (lv_sub hl [0, 1, 2, 3, 4, 5] rfl)

def M_X8_won (S0 : MS) (i1 : Int32) : Option (Int32) :=
  ((lp (σ := Int32 × Int32) (β := Int32) (fun rec1 st1 => (if st1.2 < 0 then (some st1.1) else ((lp (σ := Int32 × Int32 × Int32) (β := Int32 × Int32) (fun rec3 st3 => (if (ms_men S0) ≤ st3.2.2 then (some (st3.1, st3.2.1)) else (if inb st3.2.2 8 = true then (jn (σ := Int32) (fun v8 => (if ((ms_firms S0) (st3.2.2).toNatClampNeg) = st1.2 then ((M_X8_at S0 i1 st3.2.2).bind (fun u10 => (if u10 = (99 : Int32) then (rec3 ((st3.1 + v8), (st3.2.1 + (1 : Int32)), (st3.2.2 + (1 : Int32)))) else (rec3 ((st3.1 + v8), (st3.2.1 + (0 : Int32)), (st3.2.2 + (1 : Int32))))))) else (rec3 ((st3.1 + v8), (st3.2.1 + (0 : Int32)), (st3.2.2 + (1 : Int32)))))) (fun J8 => (if ((ms_firms S0) (st3.2.2).toNatClampNeg) = st1.2 then (J8 (1 : Int32)) else (J8 (0 : Int32))))) else none))) 1000000 ((0 : Int32), (0 : Int32), (0 : Int32))).bind (fun b3 => (if b3.1 ≤ 0 then (rec1 (st1.1, (st1.2 + (-1 : Int32)))) else (if b3.1 = b3.2 then (rec1 (st1.2, (st1.2 + (-1 : Int32)))) else (rec1 (st1.1, (st1.2 + (-1 : Int32)))))))))) 1000000 ((-1000000 : Int32), (1 : Int32))).bind (fun b1 => (some b1)))
def q_X8_won : Room := { frames := 2, cells := 0, slots := 0, locals := 82 }
set_option maxHeartbeats 4000000 in
set_option maxRecDepth 100000 in
theorem c_X8_won (l : Launch) (G : gT) (h h_items h_lanes h_sizes h_firms h_kinds h_now h_before h_images h_tape h_trace h_readFirms h_readKinds h_readAt h_rows h_bests : Nat) (S0_status : Int32) (S0_points : Int32) (S0_home : Int32) (S0_men : Int32) (S0_hasTable : Int32) (S0_acts : Int32) (S0_imaged : Int32) (S0_length : Int32) (S0_fault : Int32) (S0_traced : Int32) (S0_spot : Int32) (S0_begins : Int32) (S0_token : Int32) (S0_number : Int32) (S0_readPoints : Int32) (S0_readHome : Int32) (S0_readMen : Int32) (S0_otherOne : Int32) (S0_otherKind : Int32) (S0_items : Nat → Int32) (S0_lanes : Nat → Int32) (S0_sizes : Nat → Int32) (S0_firms : Nat → Int32) (S0_kinds : Nat → Int32) (S0_now : Nat → Int32) (S0_before : Nat → Int32) (S0_images : Nat → Int32) (S0_tape : Nat → Int32) (S0_trace : Nat → Int32) (S0_readFirms : Nat → Int32) (S0_readKinds : Nat → Int32) (S0_readAt : Nat → Int32) (S0_rows : Nat → Int32) (S0_bests : Nat → Int32) (i1 : Int32) : CT l G yX8_won cX8_won 7 (some .int) q_X8_won [.ref h, .int i1] (wMS G h h_items h_lanes h_sizes h_firms h_kinds h_now h_before h_images h_tape h_trace h_readFirms h_readKinds h_readAt h_rows h_bests S0_status S0_points S0_home S0_men S0_hasTable S0_acts S0_imaged S0_length S0_fault S0_traced S0_spot S0_begins S0_token S0_number S0_readPoints S0_readHome S0_readMen S0_otherOne S0_otherKind S0_items S0_lanes S0_sizes S0_firms S0_kinds S0_now S0_before S0_images S0_tape S0_trace S0_readFirms S0_readKinds S0_readAt S0_rows S0_bests) (M_X8_won (S0_status, S0_points, S0_home, S0_men, S0_hasTable, S0_acts, S0_imaged, S0_length, S0_fault, S0_traced, S0_spot, S0_begins, S0_token, S0_number, S0_readPoints, S0_readHome, S0_readMen, S0_otherOne, S0_otherKind, S0_items, S0_lanes, S0_sizes, S0_firms, S0_kinds, S0_now, S0_before, S0_images, S0_tape, S0_trace, S0_readFirms, S0_readKinds, S0_readAt, S0_rows, S0_bests) i1) (fun u => some (.int u)) (fun u => wMS G h h_items h_lanes h_sizes h_firms h_kinds h_now h_before h_images h_tape h_trace h_readFirms h_readKinds h_readAt h_rows h_bests S0_status S0_points S0_home S0_men S0_hasTable S0_acts S0_imaged S0_length S0_fault S0_traced S0_spot S0_begins S0_token S0_number S0_readPoints S0_readHome S0_readMen S0_otherOne S0_otherKind S0_items S0_lanes S0_sizes S0_firms S0_kinds S0_now S0_before S0_images S0_tape S0_trace S0_readFirms S0_readKinds S0_readAt S0_rows S0_bests) := by
  refine CT.of (P := PX8_won) (by decide) dPX8_won (Nat.le_of_ble_eq_true rfl) ?_
  intro p e s m args below meth c A Q ls hne X RT Y hl
  have hl : lv_has ls 7 [(0, .ref h), (1, .int i1)] := hl
  generalize hM : M_X8_won (S0_status, S0_points, S0_home, S0_men, S0_hasTable, S0_acts, S0_imaged, S0_length, S0_fault, S0_traced, S0_spot, S0_begins, S0_token, S0_number, S0_readPoints, S0_readHome, S0_readMen, S0_otherOne, S0_otherKind, S0_items, S0_lanes, S0_sizes, S0_firms, S0_kinds, S0_now, S0_before, S0_images, S0_tape, S0_trace, S0_readFirms, S0_readKinds, S0_readAt, S0_rows, S0_bests) i1 = MM at hne RT
  unfold M_X8_won at hM
  refine r_ldc (pc' := 2) X mw526 0 rfl rfl ?_
  refine r_istore_n (pc' := 3) (L' := [(2, .int (-1000000 : Int32)), (0, .ref h), (1, .int i1)]) X hl rfl 1 rfl rfl (by decide) rfl (fun ls hl => ?_)
  refine r_iconst (pc' := 4) X (1 : Int32) 2 rfl rfl rfl ?_
  refine r_istore_n (pc' := 5) (L' := [(3, .int (1 : Int32)), (2, .int (-1000000 : Int32)), (0, .ref h), (1, .int i1)]) X hl rfl 3 rfl rfl (by decide) rfl (fun ls hl => ?_)
  obtain ⟨LL1, hL1, hne1, hX1⟩ := mL hM hne
  have KX1 : ∀ (b1 : Int32) (H : Heap) (locs : List Loc) (ls : Array Slot), some b1 = LL1 → rY G A s (wMS G h h_items h_lanes h_sizes h_firms h_kinds h_now h_before h_images h_tape h_trace h_readFirms h_readKinds h_readAt h_rows h_bests S0_status S0_points S0_home S0_men S0_hasTable S0_acts S0_imaged S0_length S0_fault S0_traced S0_spot S0_begins S0_token S0_number S0_readPoints S0_readHome S0_readMen S0_otherOne S0_otherKind S0_items S0_lanes S0_sizes S0_firms S0_kinds S0_now S0_before S0_images S0_tape S0_trace S0_readFirms S0_readKinds S0_readAt S0_rows S0_bests) H locs → lv_has ls 7 [(2, .int b1)] → W p l e q_X8_won s m args below meth c H locs 0 0 Q (F0 m 111 ls []) := by
    intro b1 H locs ls hM Y hl
    replace hM := hX1 _ hM
    refine r_iload_n (pc' := 112) X hl 0 rfl rfl 59 rfl rfl ?_
    exact RT b1 _ _ _ _ _ hM (Or.inl ⟨rfl, rfl, _, rfl⟩) (X.d (k := 60) rfl) Y
  refine lp_rule (I := fun (st1 : Int32 × Int32) => ∀ (H : Heap) (locs : List Loc) (ls : Array Slot), rY G A s (wMS G h h_items h_lanes h_sizes h_firms h_kinds h_now h_before h_images h_tape h_trace h_readFirms h_readKinds h_readAt h_rows h_bests S0_status S0_points S0_home S0_men S0_hasTable S0_acts S0_imaged S0_length S0_fault S0_traced S0_spot S0_begins S0_token S0_number S0_readPoints S0_readHome S0_readMen S0_otherOne S0_otherKind S0_items S0_lanes S0_sizes S0_firms S0_kinds S0_now S0_before S0_images S0_tape S0_trace S0_readFirms S0_readKinds S0_readAt S0_rows S0_bests) H locs → lv_has ls 7 [(0, .ref h), (1, .int i1), (2, .int st1.1), (3, .int st1.2)] → W p l e q_X8_won s m args below meth c H locs 0 0 Q (F0 m 5 ls [])) hne1 (fun rec1 st1 IH1 hM => ?_) _ _ hL1 _ _ _ Y (lv_sub hl [2, 3, 1, 0] rfl)
  intro H locs ls Y hl
  obtain ⟨st1_1, st1_2⟩ := st1
  replace Y : rY G A s (wMS G h h_items h_lanes h_sizes h_firms h_kinds h_now h_before h_images h_tape h_trace h_readFirms h_readKinds h_readAt h_rows h_bests S0_status S0_points S0_home S0_men S0_hasTable S0_acts S0_imaged S0_length S0_fault S0_traced S0_spot S0_begins S0_token S0_number S0_readPoints S0_readHome S0_readMen S0_otherOne S0_otherKind S0_items S0_lanes S0_sizes S0_firms S0_kinds S0_now S0_before S0_images S0_tape S0_trace S0_readFirms S0_readKinds S0_readAt S0_rows S0_bests) H locs := Y
  replace hl : lv_has ls 7 [(0, .ref h), (1, .int i1), (2, .int st1_1), (3, .int st1_2)] := hl
  refine r_iload_n (pc' := 6) X hl 3 rfl rfl 4 rfl rfl ?_
  refine r_if_lt (pc' := 9) X 111 5 rfl rfl (by decide) (fun c2 => ?_) (fun c2 => ?_)
  · replace hM := mI hM c2
    exact KX1 st1_1 _ _ _ hM Y (lv_sub hl [2] rfl)
  · replace hM := mE hM c2
    refine r_iconst (pc' := 10) X (0 : Int32) 6 rfl rfl rfl ?_
    refine r_istore (pc' := 12) (L' := [(4, .int (0 : Int32)), (0, .ref h), (1, .int i1), (2, .int st1_1), (3, .int st1_2)]) X hl 7 rfl rfl (by decide) rfl (fun ls hl => ?_)
    refine r_iconst (pc' := 13) X (0 : Int32) 8 rfl rfl rfl ?_
    refine r_istore (pc' := 15) (L' := [(5, .int (0 : Int32)), (4, .int (0 : Int32)), (0, .ref h), (1, .int i1), (2, .int st1_1), (3, .int st1_2)]) X hl 9 rfl rfl (by decide) rfl (fun ls hl => ?_)
    refine r_iconst (pc' := 16) X (0 : Int32) 10 rfl rfl rfl ?_
    refine r_istore (pc' := 18) (L' := [(6, .int (0 : Int32)), (5, .int (0 : Int32)), (4, .int (0 : Int32)), (0, .ref h), (1, .int i1), (2, .int st1_1), (3, .int st1_2)]) X hl 11 rfl rfl (by decide) rfl (fun ls hl => ?_)
    obtain ⟨LL3, hL3, hne3, hX3⟩ := mL hM hne1
    have KX3 : ∀ (b3_1 : Int32) (b3_2 : Int32) (H : Heap) (locs : List Loc) (ls : Array Slot), some (b3_1, b3_2) = LL3 → rY G A s (wMS G h h_items h_lanes h_sizes h_firms h_kinds h_now h_before h_images h_tape h_trace h_readFirms h_readKinds h_readAt h_rows h_bests S0_status S0_points S0_home S0_men S0_hasTable S0_acts S0_imaged S0_length S0_fault S0_traced S0_spot S0_begins S0_token S0_number S0_readPoints S0_readHome S0_readMen S0_otherOne S0_otherKind S0_items S0_lanes S0_sizes S0_firms S0_kinds S0_now S0_before S0_images S0_tape S0_trace S0_readFirms S0_readKinds S0_readAt S0_rows S0_bests) H locs → lv_has ls 7 [(0, .ref h), (1, .int i1), (2, .int st1_1), (3, .int st1_2), (4, .int b3_1), (5, .int b3_2)] → W p l e q_X8_won s m args below meth c H locs 0 0 Q (F0 m 87 ls []) := by
      intro b3_1 b3_2 H locs ls hM Y hl
      replace hM := hX3 _ hM
      refine r_iload (pc' := 89) X hl 4 rfl 48 rfl rfl ?_
      refine r_if_le (pc' := 92) X 103 49 rfl rfl (by decide) (fun c4 => ?_) (fun c4 => ?_)
      · replace hM := mI hM c4
        refine r_iload_n (pc' := 104) X hl 2 rfl rfl 55 rfl rfl ?_
        refine r_istore_n (pc' := 105) (L' := [(2, .int st1_1), (0, .ref h), (1, .int i1), (3, .int st1_2), (4, .int b3_1), (5, .int b3_2)]) X hl rfl 56 rfl rfl (by decide) rfl (fun ls hl => ?_)
        refine r_iinc (pc' := 108) (L' := [(3, .int (st1_2 + (-1 : Int32))), (2, .int st1_1), (0, .ref h), (1, .int i1), (4, .int b3_1), (5, .int b3_2)]) X (st1_2 + (-1 : Int32)) hl 3 rfl (congrArg (fun z => st1_2 + z) (by decide : Int32.ofInt (-1) = (-1 : Int32))) 57 rfl rfl (by decide) rfl (fun ls hl => ?_)
        refine r_goto X 5 58 rfl (by decide) ?_
        exact IH1 _ hM _ _ _ Y (lv_sub hl [2, 3, 1, 0] rfl)
      · replace hM := mE hM c4
        refine r_iload (pc' := 94) X hl 4 rfl 50 rfl rfl ?_
        refine r_iload (pc' := 96) X hl 5 rfl 51 rfl rfl ?_
        refine r_icmp_ne (pc' := 99) X 103 52 rfl rfl (by decide) (fun c5 => ?_) (fun c5 => ?_)
        · replace hM := mE hM c5
          refine r_iload_n (pc' := 104) X hl 2 rfl rfl 55 rfl rfl ?_
          refine r_istore_n (pc' := 105) (L' := [(2, .int st1_1), (0, .ref h), (1, .int i1), (3, .int st1_2), (4, .int b3_1), (5, .int b3_2)]) X hl rfl 56 rfl rfl (by decide) rfl (fun ls hl => ?_)
          refine r_iinc (pc' := 108) (L' := [(3, .int (st1_2 + (-1 : Int32))), (2, .int st1_1), (0, .ref h), (1, .int i1), (4, .int b3_1), (5, .int b3_2)]) X (st1_2 + (-1 : Int32)) hl 3 rfl (congrArg (fun z => st1_2 + z) (by decide : Int32.ofInt (-1) = (-1 : Int32))) 57 rfl rfl (by decide) rfl (fun ls hl => ?_)
          refine r_goto X 5 58 rfl (by decide) ?_
          exact IH1 _ hM _ _ _ Y (lv_sub hl [2, 3, 1, 0] rfl)
        · replace hM := mI hM c5
          refine r_iload_n (pc' := 100) X hl 3 rfl rfl 53 rfl rfl ?_
          refine r_goto X 104 54 rfl (by decide) ?_
          refine r_istore_n (pc' := 105) (L' := [(2, .int st1_2), (0, .ref h), (1, .int i1), (3, .int st1_2), (4, .int b3_1), (5, .int b3_2)]) X hl rfl 56 rfl rfl (by decide) rfl (fun ls hl => ?_)
          refine r_iinc (pc' := 108) (L' := [(3, .int (st1_2 + (-1 : Int32))), (2, .int st1_2), (0, .ref h), (1, .int i1), (4, .int b3_1), (5, .int b3_2)]) X (st1_2 + (-1 : Int32)) hl 3 rfl (congrArg (fun z => st1_2 + z) (by decide : Int32.ofInt (-1) = (-1 : Int32))) 57 rfl rfl (by decide) rfl (fun ls hl => ?_)
          refine r_goto X 5 58 rfl (by decide) ?_
          exact IH1 _ hM _ _ _ Y (lv_sub hl [2, 3, 1, 0] rfl)
    refine lp_rule (I := fun (st3 : Int32 × Int32 × Int32) => ∀ (H : Heap) (locs : List Loc) (ls : Array Slot), rY G A s (wMS G h h_items h_lanes h_sizes h_firms h_kinds h_now h_before h_images h_tape h_trace h_readFirms h_readKinds h_readAt h_rows h_bests S0_status S0_points S0_home S0_men S0_hasTable S0_acts S0_imaged S0_length S0_fault S0_traced S0_spot S0_begins S0_token S0_number S0_readPoints S0_readHome S0_readMen S0_otherOne S0_otherKind S0_items S0_lanes S0_sizes S0_firms S0_kinds S0_now S0_before S0_images S0_tape S0_trace S0_readFirms S0_readKinds S0_readAt S0_rows S0_bests) H locs → lv_has ls 7 [(0, .ref h), (1, .int i1), (2, .int st1_1), (3, .int st1_2), (4, .int st3.1), (5, .int st3.2.1), (6, .int st3.2.2)] → W p l e q_X8_won s m args below meth c H locs 0 0 Q (F0 m 18 ls [])) hne3 (fun rec3 st3 IH3 hM => ?_) _ _ hL3 _ _ _ Y (lv_sub hl [3, 4, 5, 6, 2, 1, 0] rfl)
    intro H locs ls Y hl
    obtain ⟨st3_1, st3_2_1, st3_2_2⟩ := st3
    replace Y : rY G A s (wMS G h h_items h_lanes h_sizes h_firms h_kinds h_now h_before h_images h_tape h_trace h_readFirms h_readKinds h_readAt h_rows h_bests S0_status S0_points S0_home S0_men S0_hasTable S0_acts S0_imaged S0_length S0_fault S0_traced S0_spot S0_begins S0_token S0_number S0_readPoints S0_readHome S0_readMen S0_otherOne S0_otherKind S0_items S0_lanes S0_sizes S0_firms S0_kinds S0_now S0_before S0_images S0_tape S0_trace S0_readFirms S0_readKinds S0_readAt S0_rows S0_bests) H locs := Y
    replace hl : lv_has ls 7 [(0, .ref h), (1, .int i1), (2, .int st1_1), (3, .int st1_2), (4, .int st3_1), (5, .int st3_2_1), (6, .int st3_2_2)] := hl
    refine r_iload (pc' := 20) X hl 6 rfl 12 rfl rfl ?_
    refine r_aload_n (pc' := 21) X hl 0 rfl rfl 13 rfl rfl ?_
    refine r_get (pc' := 24) (v := .int S0_men) X Y 14 rfl rfl fRX8_159 0 rfl rfl ?_
    refine r_icmp_ge (pc' := 27) X 87 15 rfl rfl (by decide) (fun c6 => ?_) (fun c6 => ?_)
    · replace hM := mI hM c6
      exact KX3 st3_1 st3_2_1 _ _ _ hM Y (lv_sub hl [0, 1, 2, 3, 4, 5] rfl)
    · replace hM := mE hM c6
      refine r_iload (pc' := 29) X hl 4 rfl 16 rfl rfl ?_
      refine r_aload_n (pc' := 30) X hl 0 rfl rfl 17 rfl rfl ?_
      refine r_get (pc' := 33) (v := .ref h_firms) X Y 18 rfl rfl fRX8_19 0 rfl rfl ?_
      refine r_iload (pc' := 35) X hl 6 rfl 19 rfl rfl ?_
      obtain ⟨g7, hM⟩ := mG hM hne3
      refine r_iald (pc' := 36) X Y 20 rfl rfl 4 rfl (vin g7) ?_
      refine r_iload_n (pc' := 37) X hl 3 rfl rfl 21 rfl rfl ?_
      obtain ⟨J8, hJ8, hM⟩ := mJ hM
      have KJ8 : ∀ (v8 : Int32) (H : Heap) (locs : List Loc) (ls : Array Slot), J8 v8 = LL3 → rY G A s (wMS G h h_items h_lanes h_sizes h_firms h_kinds h_now h_before h_images h_tape h_trace h_readFirms h_readKinds h_readAt h_rows h_bests S0_status S0_points S0_home S0_men S0_hasTable S0_acts S0_imaged S0_length S0_fault S0_traced S0_spot S0_begins S0_token S0_number S0_readPoints S0_readHome S0_readMen S0_otherOne S0_otherKind S0_items S0_lanes S0_sizes S0_firms S0_kinds S0_now S0_before S0_images S0_tape S0_trace S0_readFirms S0_readKinds S0_readAt S0_rows S0_bests) H locs → lv_has ls 7 [(0, .ref h), (1, .int i1), (2, .int st1_1), (3, .int st1_2), (5, .int st3_2_1), (6, .int st3_2_2)] → W p l e q_X8_won s m args below meth c H locs 0 0 Q (F0 m 45 ls [.int v8, .int st3_1]) := by
        intro v8 H locs ls hM Y hl
        replace hM := (hJ8 _).symm.trans hM
        refine r_iadd (pc' := 46) X 26 rfl rfl ?_
        refine r_istore (pc' := 48) (L' := [(4, .int (st3_1 + v8)), (0, .ref h), (1, .int i1), (2, .int st1_1), (3, .int st1_2), (5, .int st3_2_1), (6, .int st3_2_2)]) X hl 27 rfl rfl (by decide) rfl (fun ls hl => ?_)
        refine r_iload (pc' := 50) X hl 5 rfl 28 rfl rfl ?_
        refine r_aload_n (pc' := 51) X hl 1 rfl rfl 29 rfl rfl ?_
        refine r_get (pc' := 54) (v := .ref h_firms) X Y 30 rfl rfl fRX8_19 0 rfl rfl ?_
        refine r_iload (pc' := 56) X hl 6 rfl 31 rfl rfl ?_
        refine r_iald (pc' := 57) X Y 32 rfl rfl 4 rfl (vin g7) ?_
        refine r_iload_n (pc' := 58) X hl 4 rfl rfl 33 rfl rfl ?_
        refine r_icmp_ne (pc' := 61) X 77 34 rfl rfl (by decide) (fun c9 => ?_) (fun c9 => ?_)
        · replace hM := mE hM c9
          refine r_iconst (pc' := 78) X (0 : Int32) 43 rfl rfl rfl ?_
          refine r_iadd (pc' := 79) X 44 rfl rfl ?_
          refine r_istore (pc' := 81) (L' := [(5, .int (st3_2_1 + (0 : Int32))), (4, .int (st3_1 + v8)), (0, .ref h), (1, .int i1), (2, .int st1_1), (3, .int st1_2), (6, .int st3_2_2)]) X hl 45 rfl rfl (by decide) rfl (fun ls hl => ?_)
          refine r_iinc (pc' := 84) (L' := [(6, .int (st3_2_2 + (1 : Int32))), (5, .int (st3_2_1 + (0 : Int32))), (4, .int (st3_1 + v8)), (0, .ref h), (1, .int i1), (2, .int st1_1), (3, .int st1_2)]) X (st3_2_2 + (1 : Int32)) hl 6 rfl rfl 46 rfl rfl (by decide) rfl (fun ls hl => ?_)
          refine r_goto X 18 47 rfl (by decide) ?_
          exact IH3 _ hM _ _ _ Y (lv_sub hl [3, 4, 5, 6, 2, 1, 0] rfl)
        · replace hM := mI hM c9
          refine r_aload_n (pc' := 62) X hl 1 rfl rfl 35 rfl rfl ?_
          refine r_iload_n (pc' := 63) X hl 2 rfl rfl 36 rfl rfl ?_
          refine r_iload (pc' := 65) X hl 6 rfl 37 rfl rfl ?_
          refine r_callV0 (pc' := 68) (As := [.int i1, .int st3_2_2]) (rest := [.int st3_2_1]) X Y 38 rfl rfl mRX8_169 (c_X8_at l G h h_items h_lanes h_sizes h_firms h_kinds h_now h_before h_images h_tape h_trace h_readFirms h_readKinds h_readAt h_rows h_bests S0_status S0_points S0_home S0_men S0_hasTable S0_acts S0_imaged S0_length S0_fault S0_traced S0_spot S0_begins S0_token S0_number S0_readPoints S0_readHome S0_readMen S0_otherOne S0_otherKind S0_items S0_lanes S0_sizes S0_firms S0_kinds S0_now S0_before S0_images S0_tape S0_trace S0_readFirms S0_readKinds S0_readAt S0_rows S0_bests i1 st3_2_2) (mB hM hne3) 0 rfl rfl [0, 1, 2, 3, 4, 5, 6, 7, 8, 9, 10, 11, 12, 13, 14, 15] rfl rfl rfl (Nat.le_of_ble_eq_true rfl) ⟨rfl, rfl⟩ ⟨Nat.le_of_ble_eq_true rfl, Nat.le_of_ble_eq_true rfl⟩ ⟨Nat.zero_le _, Nat.zero_le _⟩ hl.1 (st' := fun u10 => [.int u10, .int st3_2_1]) (fun _ => rfl) (fun u10 H locs huu10 Y => ?_)
          replace hM := mS hM huu10
          refine r_bipush (pc' := 70) X (99 : Int32) 39 rfl rfl rfl ?_
          refine r_icmp_ne (pc' := 73) X 77 40 rfl rfl (by decide) (fun c11 => ?_) (fun c11 => ?_)
          · replace hM := mE hM c11
            refine r_iconst (pc' := 78) X (0 : Int32) 43 rfl rfl rfl ?_
            refine r_iadd (pc' := 79) X 44 rfl rfl ?_
            refine r_istore (pc' := 81) (L' := [(5, .int (st3_2_1 + (0 : Int32))), (4, .int (st3_1 + v8)), (0, .ref h), (1, .int i1), (2, .int st1_1), (3, .int st1_2), (6, .int st3_2_2)]) X hl 45 rfl rfl (by decide) rfl (fun ls hl => ?_)
            refine r_iinc (pc' := 84) (L' := [(6, .int (st3_2_2 + (1 : Int32))), (5, .int (st3_2_1 + (0 : Int32))), (4, .int (st3_1 + v8)), (0, .ref h), (1, .int i1), (2, .int st1_1), (3, .int st1_2)]) X (st3_2_2 + (1 : Int32)) hl 6 rfl rfl 46 rfl rfl (by decide) rfl (fun ls hl => ?_)
            refine r_goto X 18 47 rfl (by decide) ?_
            exact IH3 _ hM _ _ _ Y (lv_sub hl [3, 4, 5, 6, 2, 1, 0] rfl)
          · replace hM := mI hM c11
            refine r_iconst (pc' := 74) X (1 : Int32) 41 rfl rfl rfl ?_
            refine r_goto X 78 42 rfl (by decide) ?_
            refine r_iadd (pc' := 79) X 44 rfl rfl ?_
            refine r_istore (pc' := 81) (L' := [(5, .int (st3_2_1 + (1 : Int32))), (4, .int (st3_1 + v8)), (0, .ref h), (1, .int i1), (2, .int st1_1), (3, .int st1_2), (6, .int st3_2_2)]) X hl 45 rfl rfl (by decide) rfl (fun ls hl => ?_)
            refine r_iinc (pc' := 84) (L' := [(6, .int (st3_2_2 + (1 : Int32))), (5, .int (st3_2_1 + (1 : Int32))), (4, .int (st3_1 + v8)), (0, .ref h), (1, .int i1), (2, .int st1_1), (3, .int st1_2)]) X (st3_2_2 + (1 : Int32)) hl 6 rfl rfl 46 rfl rfl (by decide) rfl (fun ls hl => ?_)
            refine r_goto X 18 47 rfl (by decide) ?_
            exact IH3 _ hM _ _ _ Y (lv_sub hl [3, 4, 5, 6, 2, 1, 0] rfl)
      refine r_icmp_ne (pc' := 40) X 44 22 rfl rfl (by decide) (fun c12 => ?_) (fun c12 => ?_)
      · replace hM := mE hM c12
        refine r_iconst (pc' := 45) X (0 : Int32) 25 rfl rfl rfl ?_
        exact KJ8 (0 : Int32) _ _ _ hM Y (lv_sub hl [0, 1, 2, 3, 5, 6] rfl)
      · replace hM := mI hM c12
        refine r_iconst (pc' := 41) X (1 : Int32) 23 rfl rfl rfl ?_
        refine r_goto X 45 24 rfl (by decide) ?_
        exact KJ8 (1 : Int32) _ _ _ hM Y (lv_sub hl [0, 1, 2, 3, 5, 6] rfl)

def M_X8_wonNow (S0 : MS) : Option (Int32 × MS) :=
  ((M_X8_aside S0 (0 : Int32)).bind (fun u1 => ((M_X8_won u1 (0 : Int32)).bind (fun u2 => (some (u2, u1))))))
def q_X8_wonNow : Room := { frames := 3, cells := 0, slots := 0, locals := 108 }
set_option maxHeartbeats 4000000 in
set_option maxRecDepth 100000 in
theorem c_X8_wonNow (l : Launch) (G : gT) (h h_items h_lanes h_sizes h_firms h_kinds h_now h_before h_images h_tape h_trace h_readFirms h_readKinds h_readAt h_rows h_bests : Nat) (S0_status : Int32) (S0_points : Int32) (S0_home : Int32) (S0_men : Int32) (S0_hasTable : Int32) (S0_acts : Int32) (S0_imaged : Int32) (S0_length : Int32) (S0_fault : Int32) (S0_traced : Int32) (S0_spot : Int32) (S0_begins : Int32) (S0_token : Int32) (S0_number : Int32) (S0_readPoints : Int32) (S0_readHome : Int32) (S0_readMen : Int32) (S0_otherOne : Int32) (S0_otherKind : Int32) (S0_items : Nat → Int32) (S0_lanes : Nat → Int32) (S0_sizes : Nat → Int32) (S0_firms : Nat → Int32) (S0_kinds : Nat → Int32) (S0_now : Nat → Int32) (S0_before : Nat → Int32) (S0_images : Nat → Int32) (S0_tape : Nat → Int32) (S0_trace : Nat → Int32) (S0_readFirms : Nat → Int32) (S0_readKinds : Nat → Int32) (S0_readAt : Nat → Int32) (S0_rows : Nat → Int32) (S0_bests : Nat → Int32) : CT l G yX8_wonNow cX8_wonNow 1 (some .int) q_X8_wonNow [.ref h] (wMS G h h_items h_lanes h_sizes h_firms h_kinds h_now h_before h_images h_tape h_trace h_readFirms h_readKinds h_readAt h_rows h_bests S0_status S0_points S0_home S0_men S0_hasTable S0_acts S0_imaged S0_length S0_fault S0_traced S0_spot S0_begins S0_token S0_number S0_readPoints S0_readHome S0_readMen S0_otherOne S0_otherKind S0_items S0_lanes S0_sizes S0_firms S0_kinds S0_now S0_before S0_images S0_tape S0_trace S0_readFirms S0_readKinds S0_readAt S0_rows S0_bests) (M_X8_wonNow (S0_status, S0_points, S0_home, S0_men, S0_hasTable, S0_acts, S0_imaged, S0_length, S0_fault, S0_traced, S0_spot, S0_begins, S0_token, S0_number, S0_readPoints, S0_readHome, S0_readMen, S0_otherOne, S0_otherKind, S0_items, S0_lanes, S0_sizes, S0_firms, S0_kinds, S0_now, S0_before, S0_images, S0_tape, S0_trace, S0_readFirms, S0_readKinds, S0_readAt, S0_rows, S0_bests)) (fun u => some (.int u.1)) (fun u => wMS G h h_items h_lanes h_sizes h_firms h_kinds h_now h_before h_images h_tape h_trace h_readFirms h_readKinds h_readAt h_rows h_bests u.2.1 u.2.2.1 u.2.2.2.1 u.2.2.2.2.1 u.2.2.2.2.2.1 u.2.2.2.2.2.2.1 u.2.2.2.2.2.2.2.1 u.2.2.2.2.2.2.2.2.1 u.2.2.2.2.2.2.2.2.2.1 u.2.2.2.2.2.2.2.2.2.2.1 u.2.2.2.2.2.2.2.2.2.2.2.1 u.2.2.2.2.2.2.2.2.2.2.2.2.1 u.2.2.2.2.2.2.2.2.2.2.2.2.2.1 u.2.2.2.2.2.2.2.2.2.2.2.2.2.2.1 u.2.2.2.2.2.2.2.2.2.2.2.2.2.2.2.1 u.2.2.2.2.2.2.2.2.2.2.2.2.2.2.2.2.1 u.2.2.2.2.2.2.2.2.2.2.2.2.2.2.2.2.2.1 u.2.2.2.2.2.2.2.2.2.2.2.2.2.2.2.2.2.2.1 u.2.2.2.2.2.2.2.2.2.2.2.2.2.2.2.2.2.2.2.1 u.2.2.2.2.2.2.2.2.2.2.2.2.2.2.2.2.2.2.2.2.1 u.2.2.2.2.2.2.2.2.2.2.2.2.2.2.2.2.2.2.2.2.2.1 u.2.2.2.2.2.2.2.2.2.2.2.2.2.2.2.2.2.2.2.2.2.2.1 u.2.2.2.2.2.2.2.2.2.2.2.2.2.2.2.2.2.2.2.2.2.2.2.1 u.2.2.2.2.2.2.2.2.2.2.2.2.2.2.2.2.2.2.2.2.2.2.2.2.1 u.2.2.2.2.2.2.2.2.2.2.2.2.2.2.2.2.2.2.2.2.2.2.2.2.2.1 u.2.2.2.2.2.2.2.2.2.2.2.2.2.2.2.2.2.2.2.2.2.2.2.2.2.2.1 u.2.2.2.2.2.2.2.2.2.2.2.2.2.2.2.2.2.2.2.2.2.2.2.2.2.2.2.1 u.2.2.2.2.2.2.2.2.2.2.2.2.2.2.2.2.2.2.2.2.2.2.2.2.2.2.2.2.1 u.2.2.2.2.2.2.2.2.2.2.2.2.2.2.2.2.2.2.2.2.2.2.2.2.2.2.2.2.2.1 u.2.2.2.2.2.2.2.2.2.2.2.2.2.2.2.2.2.2.2.2.2.2.2.2.2.2.2.2.2.2.1 u.2.2.2.2.2.2.2.2.2.2.2.2.2.2.2.2.2.2.2.2.2.2.2.2.2.2.2.2.2.2.2.1 u.2.2.2.2.2.2.2.2.2.2.2.2.2.2.2.2.2.2.2.2.2.2.2.2.2.2.2.2.2.2.2.2.1 u.2.2.2.2.2.2.2.2.2.2.2.2.2.2.2.2.2.2.2.2.2.2.2.2.2.2.2.2.2.2.2.2.2.1 u.2.2.2.2.2.2.2.2.2.2.2.2.2.2.2.2.2.2.2.2.2.2.2.2.2.2.2.2.2.2.2.2.2.2) := by
  refine CT.of (P := PX8_wonNow) (by decide) dPX8_wonNow (Nat.le_of_ble_eq_true rfl) ?_
  intro p e s m args below meth c A Q ls hne X RT Y hl
  have hl : lv_has ls 1 [(0, .ref h)] := hl
  generalize hM : M_X8_wonNow (S0_status, S0_points, S0_home, S0_men, S0_hasTable, S0_acts, S0_imaged, S0_length, S0_fault, S0_traced, S0_spot, S0_begins, S0_token, S0_number, S0_readPoints, S0_readHome, S0_readMen, S0_otherOne, S0_otherKind, S0_items, S0_lanes, S0_sizes, S0_firms, S0_kinds, S0_now, S0_before, S0_images, S0_tape, S0_trace, S0_readFirms, S0_readKinds, S0_readAt, S0_rows, S0_bests) = MM at hne RT
  unfold M_X8_wonNow at hM
  refine r_aload_n (pc' := 1) X hl 0 rfl rfl 0 rfl rfl ?_
  refine r_iconst (pc' := 2) X (0 : Int32) 1 rfl rfl rfl ?_
  refine r_callV (pc' := 5) (As := [.int (0 : Int32)]) (rest := []) (wr := ([] : va_W)) X Y 2 rfl rfl mRX8_202 (c_X8_aside l G h h_items h_lanes h_sizes h_firms h_kinds h_now h_before h_images h_tape h_trace h_readFirms h_readKinds h_readAt h_rows h_bests S0_status S0_points S0_home S0_men S0_hasTable S0_acts S0_imaged S0_length S0_fault S0_traced S0_spot S0_begins S0_token S0_number S0_readPoints S0_readHome S0_readMen S0_otherOne S0_otherKind S0_items S0_lanes S0_sizes S0_firms S0_kinds S0_now S0_before S0_images S0_tape S0_trace S0_readFirms S0_readKinds S0_readAt S0_rows S0_bests (0 : Int32)) (mB hM hne) 0 rfl rfl [0, 1, 2, 3, 4, 5, 6, 7, 8, 9, 10, 11, 12, 13, 14, 15] [] [0, 1, 2, 3, 4, 5, 6, 7, 8, 9, 10, 11, 12, 13, 14, 15] rfl rfl ⟨rfl, rfl, rfl⟩ rfl (w2 := fun u1 => wMS G h h_items h_lanes h_sizes h_firms h_kinds h_now h_before h_images h_tape h_trace h_readFirms h_readKinds h_readAt h_rows h_bests u1.1 u1.2.1 u1.2.2.1 u1.2.2.2.1 u1.2.2.2.2.1 u1.2.2.2.2.2.1 u1.2.2.2.2.2.2.1 u1.2.2.2.2.2.2.2.1 u1.2.2.2.2.2.2.2.2.1 u1.2.2.2.2.2.2.2.2.2.1 u1.2.2.2.2.2.2.2.2.2.2.1 u1.2.2.2.2.2.2.2.2.2.2.2.1 u1.2.2.2.2.2.2.2.2.2.2.2.2.1 u1.2.2.2.2.2.2.2.2.2.2.2.2.2.1 u1.2.2.2.2.2.2.2.2.2.2.2.2.2.2.1 u1.2.2.2.2.2.2.2.2.2.2.2.2.2.2.2.1 u1.2.2.2.2.2.2.2.2.2.2.2.2.2.2.2.2.1 u1.2.2.2.2.2.2.2.2.2.2.2.2.2.2.2.2.2.1 u1.2.2.2.2.2.2.2.2.2.2.2.2.2.2.2.2.2.2.1 u1.2.2.2.2.2.2.2.2.2.2.2.2.2.2.2.2.2.2.2.1 u1.2.2.2.2.2.2.2.2.2.2.2.2.2.2.2.2.2.2.2.2.1 u1.2.2.2.2.2.2.2.2.2.2.2.2.2.2.2.2.2.2.2.2.2.1 u1.2.2.2.2.2.2.2.2.2.2.2.2.2.2.2.2.2.2.2.2.2.2.1 u1.2.2.2.2.2.2.2.2.2.2.2.2.2.2.2.2.2.2.2.2.2.2.2.1 u1.2.2.2.2.2.2.2.2.2.2.2.2.2.2.2.2.2.2.2.2.2.2.2.2.1 u1.2.2.2.2.2.2.2.2.2.2.2.2.2.2.2.2.2.2.2.2.2.2.2.2.2.1 u1.2.2.2.2.2.2.2.2.2.2.2.2.2.2.2.2.2.2.2.2.2.2.2.2.2.2.1 u1.2.2.2.2.2.2.2.2.2.2.2.2.2.2.2.2.2.2.2.2.2.2.2.2.2.2.2.1 u1.2.2.2.2.2.2.2.2.2.2.2.2.2.2.2.2.2.2.2.2.2.2.2.2.2.2.2.2.1 u1.2.2.2.2.2.2.2.2.2.2.2.2.2.2.2.2.2.2.2.2.2.2.2.2.2.2.2.2.2.1 u1.2.2.2.2.2.2.2.2.2.2.2.2.2.2.2.2.2.2.2.2.2.2.2.2.2.2.2.2.2.2.1 u1.2.2.2.2.2.2.2.2.2.2.2.2.2.2.2.2.2.2.2.2.2.2.2.2.2.2.2.2.2.2.2.1 u1.2.2.2.2.2.2.2.2.2.2.2.2.2.2.2.2.2.2.2.2.2.2.2.2.2.2.2.2.2.2.2.2.1 u1.2.2.2.2.2.2.2.2.2.2.2.2.2.2.2.2.2.2.2.2.2.2.2.2.2.2.2.2.2.2.2.2.2) (fun _ => rfl) rfl (Nat.le_of_ble_eq_true rfl) ⟨rfl, rfl⟩ ⟨Nat.le_of_ble_eq_true rfl, Nat.le_of_ble_eq_true rfl⟩ ⟨Nat.zero_le _, Nat.zero_le _⟩ hl.1 (st' := fun u1 => []) (fun _ => rfl) (fun u1 H locs huu1 Y => ?_)
  obtain ⟨u1_status, u1_points, u1_home, u1_men, u1_hasTable, u1_acts, u1_imaged, u1_length, u1_fault, u1_traced, u1_spot, u1_begins, u1_token, u1_number, u1_readPoints, u1_readHome, u1_readMen, u1_otherOne, u1_otherKind, u1_items, u1_lanes, u1_sizes, u1_firms, u1_kinds, u1_now, u1_before, u1_images, u1_tape, u1_trace, u1_readFirms, u1_readKinds, u1_readAt, u1_rows, u1_bests⟩ := u1
  replace Y : rY G A s (wMS G h h_items h_lanes h_sizes h_firms h_kinds h_now h_before h_images h_tape h_trace h_readFirms h_readKinds h_readAt h_rows h_bests u1_status u1_points u1_home u1_men u1_hasTable u1_acts u1_imaged u1_length u1_fault u1_traced u1_spot u1_begins u1_token u1_number u1_readPoints u1_readHome u1_readMen u1_otherOne u1_otherKind u1_items u1_lanes u1_sizes u1_firms u1_kinds u1_now u1_before u1_images u1_tape u1_trace u1_readFirms u1_readKinds u1_readAt u1_rows u1_bests) H locs := Y
  replace hM := mS hM huu1
  show W p l e q_X8_wonNow s m args below meth c H locs 0 0 Q (F0 m 5 ls [])
  refine r_aload_n (pc' := 6) X hl 0 rfl rfl 3 rfl rfl ?_
  refine r_iconst (pc' := 7) X (0 : Int32) 4 rfl rfl rfl ?_
  refine r_callV0 (pc' := 10) (As := [.int (0 : Int32)]) (rest := []) X Y 5 rfl rfl mRX8_206 (c_X8_won l G h h_items h_lanes h_sizes h_firms h_kinds h_now h_before h_images h_tape h_trace h_readFirms h_readKinds h_readAt h_rows h_bests u1_status u1_points u1_home u1_men u1_hasTable u1_acts u1_imaged u1_length u1_fault u1_traced u1_spot u1_begins u1_token u1_number u1_readPoints u1_readHome u1_readMen u1_otherOne u1_otherKind u1_items u1_lanes u1_sizes u1_firms u1_kinds u1_now u1_before u1_images u1_tape u1_trace u1_readFirms u1_readKinds u1_readAt u1_rows u1_bests (0 : Int32)) (mB hM hne) 0 rfl rfl [0, 1, 2, 3, 4, 5, 6, 7, 8, 9, 10, 11, 12, 13, 14, 15] rfl rfl rfl (Nat.le_of_ble_eq_true rfl) ⟨rfl, rfl⟩ ⟨Nat.le_of_ble_eq_true rfl, Nat.le_of_ble_eq_true rfl⟩ ⟨Nat.zero_le _, Nat.zero_le _⟩ hl.1 (st' := fun u2 => [.int u2]) (fun _ => rfl) (fun u2 H locs huu2 Y => ?_)
  replace hM := mS hM huu2
  exact RT (u2, (u1_status, u1_points, u1_home, u1_men, u1_hasTable, u1_acts, u1_imaged, u1_length, u1_fault, u1_traced, u1_spot, u1_begins, u1_token, u1_number, u1_readPoints, u1_readHome, u1_readMen, u1_otherOne, u1_otherKind, u1_items, u1_lanes, u1_sizes, u1_firms, u1_kinds, u1_now, u1_before, u1_images, u1_tape, u1_trace, u1_readFirms, u1_readKinds, u1_readAt, u1_rows, u1_bests)) _ _ _ _ _ hM (Or.inl ⟨rfl, rfl, _, rfl⟩) (X.d (k := 6) rfl) Y

def M_X8_goRuled (S0 : MS) (i1 : Int32) (i2 : Int32) : Option (Int32 × MS) :=
  (if inb (((12 : Int32) * i1) + (8 : Int32)) 48 = true then ((M_X8_ruled S0 i1 (((ms_rows S0) ((((12 : Int32) * i1) + (8 : Int32))).toNatClampNeg)) i2).bind (fun u2 => (jn (σ := MS) (fun v3 => ((M_X8_goTurn v3 i1).bind (fun u4 => (some (u2, u4))))) (fun J3 => (if u2 = (-1000000 : Int32) then (J3 S0) else ((M_X8_goMan S0 i1 u2 i2).bind (fun u6 => (J3 u6)))))))) else none)
def q_X8_goRuled : Room := { frames := 6, cells := 0, slots := 0, locals := 183 }
set_option maxHeartbeats 4000000 in
set_option maxRecDepth 100000 in
theorem c_X8_goRuled (l : Launch) (G : gT) (h h_items h_lanes h_sizes h_firms h_kinds h_now h_before h_images h_tape h_trace h_readFirms h_readKinds h_readAt h_rows h_bests : Nat) (S0_status : Int32) (S0_points : Int32) (S0_home : Int32) (S0_men : Int32) (S0_hasTable : Int32) (S0_acts : Int32) (S0_imaged : Int32) (S0_length : Int32) (S0_fault : Int32) (S0_traced : Int32) (S0_spot : Int32) (S0_begins : Int32) (S0_token : Int32) (S0_number : Int32) (S0_readPoints : Int32) (S0_readHome : Int32) (S0_readMen : Int32) (S0_otherOne : Int32) (S0_otherKind : Int32) (S0_items : Nat → Int32) (S0_lanes : Nat → Int32) (S0_sizes : Nat → Int32) (S0_firms : Nat → Int32) (S0_kinds : Nat → Int32) (S0_now : Nat → Int32) (S0_before : Nat → Int32) (S0_images : Nat → Int32) (S0_tape : Nat → Int32) (S0_trace : Nat → Int32) (S0_readFirms : Nat → Int32) (S0_readKinds : Nat → Int32) (S0_readAt : Nat → Int32) (S0_rows : Nat → Int32) (S0_bests : Nat → Int32) (i1 : Int32) (i2 : Int32) : CT l G yX8_goRuled cX8_goRuled 4 (some .int) q_X8_goRuled [.ref h, .int i1, .int i2] (wMS G h h_items h_lanes h_sizes h_firms h_kinds h_now h_before h_images h_tape h_trace h_readFirms h_readKinds h_readAt h_rows h_bests S0_status S0_points S0_home S0_men S0_hasTable S0_acts S0_imaged S0_length S0_fault S0_traced S0_spot S0_begins S0_token S0_number S0_readPoints S0_readHome S0_readMen S0_otherOne S0_otherKind S0_items S0_lanes S0_sizes S0_firms S0_kinds S0_now S0_before S0_images S0_tape S0_trace S0_readFirms S0_readKinds S0_readAt S0_rows S0_bests) (M_X8_goRuled (S0_status, S0_points, S0_home, S0_men, S0_hasTable, S0_acts, S0_imaged, S0_length, S0_fault, S0_traced, S0_spot, S0_begins, S0_token, S0_number, S0_readPoints, S0_readHome, S0_readMen, S0_otherOne, S0_otherKind, S0_items, S0_lanes, S0_sizes, S0_firms, S0_kinds, S0_now, S0_before, S0_images, S0_tape, S0_trace, S0_readFirms, S0_readKinds, S0_readAt, S0_rows, S0_bests) i1 i2) (fun u => some (.int u.1)) (fun u => wMS G h h_items h_lanes h_sizes h_firms h_kinds h_now h_before h_images h_tape h_trace h_readFirms h_readKinds h_readAt h_rows h_bests u.2.1 u.2.2.1 u.2.2.2.1 u.2.2.2.2.1 u.2.2.2.2.2.1 u.2.2.2.2.2.2.1 u.2.2.2.2.2.2.2.1 u.2.2.2.2.2.2.2.2.1 u.2.2.2.2.2.2.2.2.2.1 u.2.2.2.2.2.2.2.2.2.2.1 u.2.2.2.2.2.2.2.2.2.2.2.1 u.2.2.2.2.2.2.2.2.2.2.2.2.1 u.2.2.2.2.2.2.2.2.2.2.2.2.2.1 u.2.2.2.2.2.2.2.2.2.2.2.2.2.2.1 u.2.2.2.2.2.2.2.2.2.2.2.2.2.2.2.1 u.2.2.2.2.2.2.2.2.2.2.2.2.2.2.2.2.1 u.2.2.2.2.2.2.2.2.2.2.2.2.2.2.2.2.2.1 u.2.2.2.2.2.2.2.2.2.2.2.2.2.2.2.2.2.2.1 u.2.2.2.2.2.2.2.2.2.2.2.2.2.2.2.2.2.2.2.1 u.2.2.2.2.2.2.2.2.2.2.2.2.2.2.2.2.2.2.2.2.1 u.2.2.2.2.2.2.2.2.2.2.2.2.2.2.2.2.2.2.2.2.2.1 u.2.2.2.2.2.2.2.2.2.2.2.2.2.2.2.2.2.2.2.2.2.2.1 u.2.2.2.2.2.2.2.2.2.2.2.2.2.2.2.2.2.2.2.2.2.2.2.1 u.2.2.2.2.2.2.2.2.2.2.2.2.2.2.2.2.2.2.2.2.2.2.2.2.1 u.2.2.2.2.2.2.2.2.2.2.2.2.2.2.2.2.2.2.2.2.2.2.2.2.2.1 u.2.2.2.2.2.2.2.2.2.2.2.2.2.2.2.2.2.2.2.2.2.2.2.2.2.2.1 u.2.2.2.2.2.2.2.2.2.2.2.2.2.2.2.2.2.2.2.2.2.2.2.2.2.2.2.1 u.2.2.2.2.2.2.2.2.2.2.2.2.2.2.2.2.2.2.2.2.2.2.2.2.2.2.2.2.1 u.2.2.2.2.2.2.2.2.2.2.2.2.2.2.2.2.2.2.2.2.2.2.2.2.2.2.2.2.2.1 u.2.2.2.2.2.2.2.2.2.2.2.2.2.2.2.2.2.2.2.2.2.2.2.2.2.2.2.2.2.2.1 u.2.2.2.2.2.2.2.2.2.2.2.2.2.2.2.2.2.2.2.2.2.2.2.2.2.2.2.2.2.2.2.1 u.2.2.2.2.2.2.2.2.2.2.2.2.2.2.2.2.2.2.2.2.2.2.2.2.2.2.2.2.2.2.2.2.1 u.2.2.2.2.2.2.2.2.2.2.2.2.2.2.2.2.2.2.2.2.2.2.2.2.2.2.2.2.2.2.2.2.2.1 u.2.2.2.2.2.2.2.2.2.2.2.2.2.2.2.2.2.2.2.2.2.2.2.2.2.2.2.2.2.2.2.2.2.2) := by
  refine CT.of (P := PX8_goRuled) (by decide) dPX8_goRuled (Nat.le_of_ble_eq_true rfl) ?_
  intro p e s m args below meth c A Q ls hne X RT Y hl
  have hl : lv_has ls 4 [(0, .ref h), (1, .int i1), (2, .int i2)] := hl
  generalize hM : M_X8_goRuled (S0_status, S0_points, S0_home, S0_men, S0_hasTable, S0_acts, S0_imaged, S0_length, S0_fault, S0_traced, S0_spot, S0_begins, S0_token, S0_number, S0_readPoints, S0_readHome, S0_readMen, S0_otherOne, S0_otherKind, S0_items, S0_lanes, S0_sizes, S0_firms, S0_kinds, S0_now, S0_before, S0_images, S0_tape, S0_trace, S0_readFirms, S0_readKinds, S0_readAt, S0_rows, S0_bests) i1 i2 = MM at hne RT
  unfold M_X8_goRuled at hM
  refine r_aload_n (pc' := 1) X hl 0 rfl rfl 0 rfl rfl ?_
  refine r_iload_n (pc' := 2) X hl 1 rfl rfl 1 rfl rfl ?_
  refine r_aload_n (pc' := 3) X hl 0 rfl rfl 2 rfl rfl ?_
  refine r_get (pc' := 6) (v := .ref h_rows) X Y 3 rfl rfl fRX8_49 0 rfl rfl ?_
  refine r_bipush (pc' := 8) X (12 : Int32) 4 rfl rfl rfl ?_
  refine r_iload_n (pc' := 9) X hl 1 rfl rfl 5 rfl rfl ?_
  refine r_imul (pc' := 10) X 6 rfl rfl ?_
  refine r_bipush (pc' := 12) X (8 : Int32) 7 rfl rfl rfl ?_
  refine r_iadd (pc' := 13) X 8 rfl rfl ?_
  obtain ⟨g1, hM⟩ := mG hM hne
  refine r_iald (pc' := 14) X Y 9 rfl rfl 14 rfl (vin g1) ?_
  refine r_iload_n (pc' := 15) X hl 2 rfl rfl 10 rfl rfl ?_
  refine r_callV0 (pc' := 18) (As := [.int i1, .int (S0_rows ((((12 : Int32) * i1) + (8 : Int32))).toNatClampNeg), .int i2]) (rest := []) X Y 11 rfl rfl mRX8_209 (c_X8_ruled l G h h_items h_lanes h_sizes h_firms h_kinds h_now h_before h_images h_tape h_trace h_readFirms h_readKinds h_readAt h_rows h_bests S0_status S0_points S0_home S0_men S0_hasTable S0_acts S0_imaged S0_length S0_fault S0_traced S0_spot S0_begins S0_token S0_number S0_readPoints S0_readHome S0_readMen S0_otherOne S0_otherKind S0_items S0_lanes S0_sizes S0_firms S0_kinds S0_now S0_before S0_images S0_tape S0_trace S0_readFirms S0_readKinds S0_readAt S0_rows S0_bests i1 ((S0_rows ((((12 : Int32) * i1) + (8 : Int32))).toNatClampNeg)) i2) (mB hM hne) 0 rfl rfl [0, 1, 2, 3, 4, 5, 6, 7, 8, 9, 10, 11, 12, 13, 14, 15] rfl rfl rfl (Nat.le_of_ble_eq_true rfl) ⟨rfl, rfl⟩ ⟨Nat.le_of_ble_eq_true rfl, Nat.le_of_ble_eq_true rfl⟩ ⟨Nat.zero_le _, Nat.zero_le _⟩ hl.1 (st' := fun u2 => [.int u2]) (fun _ => rfl) (fun u2 H locs huu2 Y => ?_)
  replace hM := mS hM huu2
  refine r_istore_n (pc' := 19) (L' := [(3, .int u2), (0, .ref h), (1, .int i1), (2, .int i2)]) X hl rfl 12 rfl rfl (by decide) rfl (fun ls hl => ?_)
  refine r_iload_n (pc' := 20) X hl 0 rfl rfl 13 rfl rfl ?_
  refine r_ldc (pc' := 22) X mw526 14 rfl rfl ?_
  obtain ⟨J3, hJ3, hM⟩ := mJ hM
  have KJ3 : ∀ (v3_status : Int32) (v3_points : Int32) (v3_home : Int32) (v3_men : Int32) (v3_hasTable : Int32) (v3_acts : Int32) (v3_imaged : Int32) (v3_length : Int32) (v3_fault : Int32) (v3_traced : Int32) (v3_spot : Int32) (v3_begins : Int32) (v3_token : Int32) (v3_number : Int32) (v3_readPoints : Int32) (v3_readHome : Int32) (v3_readMen : Int32) (v3_otherOne : Int32) (v3_otherKind : Int32) (v3_items : Nat → Int32) (v3_lanes : Nat → Int32) (v3_sizes : Nat → Int32) (v3_firms : Nat → Int32) (v3_kinds : Nat → Int32) (v3_now : Nat → Int32) (v3_before : Nat → Int32) (v3_images : Nat → Int32) (v3_tape : Nat → Int32) (v3_trace : Nat → Int32) (v3_readFirms : Nat → Int32) (v3_readKinds : Nat → Int32) (v3_readAt : Nat → Int32) (v3_rows : Nat → Int32) (v3_bests : Nat → Int32) (H : Heap) (locs : List Loc) (ls : Array Slot), J3 (v3_status, v3_points, v3_home, v3_men, v3_hasTable, v3_acts, v3_imaged, v3_length, v3_fault, v3_traced, v3_spot, v3_begins, v3_token, v3_number, v3_readPoints, v3_readHome, v3_readMen, v3_otherOne, v3_otherKind, v3_items, v3_lanes, v3_sizes, v3_firms, v3_kinds, v3_now, v3_before, v3_images, v3_tape, v3_trace, v3_readFirms, v3_readKinds, v3_readAt, v3_rows, v3_bests) = MM → rY G A s (wMS G h h_items h_lanes h_sizes h_firms h_kinds h_now h_before h_images h_tape h_trace h_readFirms h_readKinds h_readAt h_rows h_bests v3_status v3_points v3_home v3_men v3_hasTable v3_acts v3_imaged v3_length v3_fault v3_traced v3_spot v3_begins v3_token v3_number v3_readPoints v3_readHome v3_readMen v3_otherOne v3_otherKind v3_items v3_lanes v3_sizes v3_firms v3_kinds v3_now v3_before v3_images v3_tape v3_trace v3_readFirms v3_readKinds v3_readAt v3_rows v3_bests) H locs → lv_has ls 4 [(0, .ref h), (1, .int i1), (3, .int u2)] → W p l e q_X8_goRuled s m args below meth c H locs 0 0 Q (F0 m 32 ls []) := by
    intro v3_status v3_points v3_home v3_men v3_hasTable v3_acts v3_imaged v3_length v3_fault v3_traced v3_spot v3_begins v3_token v3_number v3_readPoints v3_readHome v3_readMen v3_otherOne v3_otherKind v3_items v3_lanes v3_sizes v3_firms v3_kinds v3_now v3_before v3_images v3_tape v3_trace v3_readFirms v3_readKinds v3_readAt v3_rows v3_bests H locs ls hM Y hl
    replace hM := (hJ3 _).symm.trans hM
    refine r_aload_n (pc' := 33) X hl 0 rfl rfl 21 rfl rfl ?_
    refine r_iload_n (pc' := 34) X hl 1 rfl rfl 22 rfl rfl ?_
    refine r_callV (pc' := 37) (As := [.int i1]) (rest := []) (wr := ([] : va_W)) X Y 23 rfl rfl mRX8_216 (c_X8_goTurn l G h h_items h_lanes h_sizes h_firms h_kinds h_now h_before h_images h_tape h_trace h_readFirms h_readKinds h_readAt h_rows h_bests v3_status v3_points v3_home v3_men v3_hasTable v3_acts v3_imaged v3_length v3_fault v3_traced v3_spot v3_begins v3_token v3_number v3_readPoints v3_readHome v3_readMen v3_otherOne v3_otherKind v3_items v3_lanes v3_sizes v3_firms v3_kinds v3_now v3_before v3_images v3_tape v3_trace v3_readFirms v3_readKinds v3_readAt v3_rows v3_bests i1) (mB hM hne) 0 rfl rfl [0, 1, 2, 3, 4, 5, 6, 7, 8, 9, 10, 11, 12, 13, 14, 15] [] [0, 1, 2, 3, 4, 5, 6, 7, 8, 9, 10, 11, 12, 13, 14, 15] rfl rfl ⟨rfl, rfl, rfl⟩ rfl (w2 := fun u4 => wMS G h h_items h_lanes h_sizes h_firms h_kinds h_now h_before h_images h_tape h_trace h_readFirms h_readKinds h_readAt h_rows h_bests u4.1 u4.2.1 u4.2.2.1 u4.2.2.2.1 u4.2.2.2.2.1 u4.2.2.2.2.2.1 u4.2.2.2.2.2.2.1 u4.2.2.2.2.2.2.2.1 u4.2.2.2.2.2.2.2.2.1 u4.2.2.2.2.2.2.2.2.2.1 u4.2.2.2.2.2.2.2.2.2.2.1 u4.2.2.2.2.2.2.2.2.2.2.2.1 u4.2.2.2.2.2.2.2.2.2.2.2.2.1 u4.2.2.2.2.2.2.2.2.2.2.2.2.2.1 u4.2.2.2.2.2.2.2.2.2.2.2.2.2.2.1 u4.2.2.2.2.2.2.2.2.2.2.2.2.2.2.2.1 u4.2.2.2.2.2.2.2.2.2.2.2.2.2.2.2.2.1 u4.2.2.2.2.2.2.2.2.2.2.2.2.2.2.2.2.2.1 u4.2.2.2.2.2.2.2.2.2.2.2.2.2.2.2.2.2.2.1 u4.2.2.2.2.2.2.2.2.2.2.2.2.2.2.2.2.2.2.2.1 u4.2.2.2.2.2.2.2.2.2.2.2.2.2.2.2.2.2.2.2.2.1 u4.2.2.2.2.2.2.2.2.2.2.2.2.2.2.2.2.2.2.2.2.2.1 u4.2.2.2.2.2.2.2.2.2.2.2.2.2.2.2.2.2.2.2.2.2.2.1 u4.2.2.2.2.2.2.2.2.2.2.2.2.2.2.2.2.2.2.2.2.2.2.2.1 u4.2.2.2.2.2.2.2.2.2.2.2.2.2.2.2.2.2.2.2.2.2.2.2.2.1 u4.2.2.2.2.2.2.2.2.2.2.2.2.2.2.2.2.2.2.2.2.2.2.2.2.2.1 u4.2.2.2.2.2.2.2.2.2.2.2.2.2.2.2.2.2.2.2.2.2.2.2.2.2.2.1 u4.2.2.2.2.2.2.2.2.2.2.2.2.2.2.2.2.2.2.2.2.2.2.2.2.2.2.2.1 u4.2.2.2.2.2.2.2.2.2.2.2.2.2.2.2.2.2.2.2.2.2.2.2.2.2.2.2.2.1 u4.2.2.2.2.2.2.2.2.2.2.2.2.2.2.2.2.2.2.2.2.2.2.2.2.2.2.2.2.2.1 u4.2.2.2.2.2.2.2.2.2.2.2.2.2.2.2.2.2.2.2.2.2.2.2.2.2.2.2.2.2.2.1 u4.2.2.2.2.2.2.2.2.2.2.2.2.2.2.2.2.2.2.2.2.2.2.2.2.2.2.2.2.2.2.2.1 u4.2.2.2.2.2.2.2.2.2.2.2.2.2.2.2.2.2.2.2.2.2.2.2.2.2.2.2.2.2.2.2.2.1 u4.2.2.2.2.2.2.2.2.2.2.2.2.2.2.2.2.2.2.2.2.2.2.2.2.2.2.2.2.2.2.2.2.2) (fun _ => rfl) rfl (Nat.le_of_ble_eq_true rfl) ⟨rfl, rfl⟩ ⟨Nat.le_of_ble_eq_true rfl, Nat.le_of_ble_eq_true rfl⟩ ⟨Nat.zero_le _, Nat.zero_le _⟩ hl.1 (st' := fun u4 => []) (fun _ => rfl) (fun u4 H locs huu4 Y => ?_)
    obtain ⟨u4_status, u4_points, u4_home, u4_men, u4_hasTable, u4_acts, u4_imaged, u4_length, u4_fault, u4_traced, u4_spot, u4_begins, u4_token, u4_number, u4_readPoints, u4_readHome, u4_readMen, u4_otherOne, u4_otherKind, u4_items, u4_lanes, u4_sizes, u4_firms, u4_kinds, u4_now, u4_before, u4_images, u4_tape, u4_trace, u4_readFirms, u4_readKinds, u4_readAt, u4_rows, u4_bests⟩ := u4
    replace Y : rY G A s (wMS G h h_items h_lanes h_sizes h_firms h_kinds h_now h_before h_images h_tape h_trace h_readFirms h_readKinds h_readAt h_rows h_bests u4_status u4_points u4_home u4_men u4_hasTable u4_acts u4_imaged u4_length u4_fault u4_traced u4_spot u4_begins u4_token u4_number u4_readPoints u4_readHome u4_readMen u4_otherOne u4_otherKind u4_items u4_lanes u4_sizes u4_firms u4_kinds u4_now u4_before u4_images u4_tape u4_trace u4_readFirms u4_readKinds u4_readAt u4_rows u4_bests) H locs := Y
    replace hM := mS hM huu4
    show W p l e q_X8_goRuled s m args below meth c H locs 0 0 Q (F0 m 37 ls [])
    refine r_iload_n (pc' := 38) X hl 2 rfl rfl 24 rfl rfl ?_
    exact RT (u2, (u4_status, u4_points, u4_home, u4_men, u4_hasTable, u4_acts, u4_imaged, u4_length, u4_fault, u4_traced, u4_spot, u4_begins, u4_token, u4_number, u4_readPoints, u4_readHome, u4_readMen, u4_otherOne, u4_otherKind, u4_items, u4_lanes, u4_sizes, u4_firms, u4_kinds, u4_now, u4_before, u4_images, u4_tape, u4_trace, u4_readFirms, u4_readKinds, u4_readAt, u4_rows, u4_bests)) _ _ _ _ _ hM (Or.inl ⟨rfl, rfl, _, rfl⟩) (X.d (k := 25) rfl) Y
  refine r_icmp_eq (pc' := 25) X 32 15 rfl rfl (by decide) (fun c5 => ?_) (fun c5 => ?_)
  · replace hM := mI hM c5
    exact KJ3 S0_status S0_points S0_home S0_men S0_hasTable S0_acts S0_imaged S0_length S0_fault S0_traced S0_spot S0_begins S0_token S0_number S0_readPoints S0_readHome S0_readMen S0_otherOne S0_otherKind S0_items S0_lanes S0_sizes S0_firms S0_kinds S0_now S0_before S0_images S0_tape S0_trace S0_readFirms S0_readKinds S0_readAt S0_rows S0_bests _ _ _ hM Y (lv_sub hl [1, 2, 0] rfl)
  · replace hM := mE hM c5
    refine r_aload_n (pc' := 26) X hl 1 rfl rfl 16 rfl rfl ?_
    refine r_iload_n (pc' := 27) X hl 2 rfl rfl 17 rfl rfl ?_
    refine r_iload_n (pc' := 28) X hl 0 rfl rfl 18 rfl rfl ?_
    refine r_iload_n (pc' := 29) X hl 3 rfl rfl 19 rfl rfl ?_
    refine r_callV (pc' := 32) (As := [.int i1, .int u2, .int i2]) (rest := []) (wr := ([] : va_W)) X Y 20 rfl rfl mRX8_212 (c_X8_goMan l G h h_items h_lanes h_sizes h_firms h_kinds h_now h_before h_images h_tape h_trace h_readFirms h_readKinds h_readAt h_rows h_bests S0_status S0_points S0_home S0_men S0_hasTable S0_acts S0_imaged S0_length S0_fault S0_traced S0_spot S0_begins S0_token S0_number S0_readPoints S0_readHome S0_readMen S0_otherOne S0_otherKind S0_items S0_lanes S0_sizes S0_firms S0_kinds S0_now S0_before S0_images S0_tape S0_trace S0_readFirms S0_readKinds S0_readAt S0_rows S0_bests i1 u2 i2) (mB hM hne) 0 rfl rfl [0, 1, 2, 3, 4, 5, 6, 7, 8, 9, 10, 11, 12, 13, 14, 15] [] [0, 1, 2, 3, 4, 5, 6, 7, 8, 9, 10, 11, 12, 13, 14, 15] rfl rfl ⟨rfl, rfl, rfl⟩ rfl (w2 := fun u6 => wMS G h h_items h_lanes h_sizes h_firms h_kinds h_now h_before h_images h_tape h_trace h_readFirms h_readKinds h_readAt h_rows h_bests u6.1 u6.2.1 u6.2.2.1 u6.2.2.2.1 u6.2.2.2.2.1 u6.2.2.2.2.2.1 u6.2.2.2.2.2.2.1 u6.2.2.2.2.2.2.2.1 u6.2.2.2.2.2.2.2.2.1 u6.2.2.2.2.2.2.2.2.2.1 u6.2.2.2.2.2.2.2.2.2.2.1 u6.2.2.2.2.2.2.2.2.2.2.2.1 u6.2.2.2.2.2.2.2.2.2.2.2.2.1 u6.2.2.2.2.2.2.2.2.2.2.2.2.2.1 u6.2.2.2.2.2.2.2.2.2.2.2.2.2.2.1 u6.2.2.2.2.2.2.2.2.2.2.2.2.2.2.2.1 u6.2.2.2.2.2.2.2.2.2.2.2.2.2.2.2.2.1 u6.2.2.2.2.2.2.2.2.2.2.2.2.2.2.2.2.2.1 u6.2.2.2.2.2.2.2.2.2.2.2.2.2.2.2.2.2.2.1 u6.2.2.2.2.2.2.2.2.2.2.2.2.2.2.2.2.2.2.2.1 u6.2.2.2.2.2.2.2.2.2.2.2.2.2.2.2.2.2.2.2.2.1 u6.2.2.2.2.2.2.2.2.2.2.2.2.2.2.2.2.2.2.2.2.2.1 u6.2.2.2.2.2.2.2.2.2.2.2.2.2.2.2.2.2.2.2.2.2.2.1 u6.2.2.2.2.2.2.2.2.2.2.2.2.2.2.2.2.2.2.2.2.2.2.2.1 u6.2.2.2.2.2.2.2.2.2.2.2.2.2.2.2.2.2.2.2.2.2.2.2.2.1 u6.2.2.2.2.2.2.2.2.2.2.2.2.2.2.2.2.2.2.2.2.2.2.2.2.2.1 u6.2.2.2.2.2.2.2.2.2.2.2.2.2.2.2.2.2.2.2.2.2.2.2.2.2.2.1 u6.2.2.2.2.2.2.2.2.2.2.2.2.2.2.2.2.2.2.2.2.2.2.2.2.2.2.2.1 u6.2.2.2.2.2.2.2.2.2.2.2.2.2.2.2.2.2.2.2.2.2.2.2.2.2.2.2.2.1 u6.2.2.2.2.2.2.2.2.2.2.2.2.2.2.2.2.2.2.2.2.2.2.2.2.2.2.2.2.2.1 u6.2.2.2.2.2.2.2.2.2.2.2.2.2.2.2.2.2.2.2.2.2.2.2.2.2.2.2.2.2.2.1 u6.2.2.2.2.2.2.2.2.2.2.2.2.2.2.2.2.2.2.2.2.2.2.2.2.2.2.2.2.2.2.2.1 u6.2.2.2.2.2.2.2.2.2.2.2.2.2.2.2.2.2.2.2.2.2.2.2.2.2.2.2.2.2.2.2.2.1 u6.2.2.2.2.2.2.2.2.2.2.2.2.2.2.2.2.2.2.2.2.2.2.2.2.2.2.2.2.2.2.2.2.2) (fun _ => rfl) rfl (Nat.le_of_ble_eq_true rfl) ⟨rfl, rfl⟩ ⟨Nat.le_of_ble_eq_true rfl, Nat.le_of_ble_eq_true rfl⟩ ⟨Nat.zero_le _, Nat.zero_le _⟩ hl.1 (st' := fun u6 => []) (fun _ => rfl) (fun u6 H locs huu6 Y => ?_)
    obtain ⟨u6_status, u6_points, u6_home, u6_men, u6_hasTable, u6_acts, u6_imaged, u6_length, u6_fault, u6_traced, u6_spot, u6_begins, u6_token, u6_number, u6_readPoints, u6_readHome, u6_readMen, u6_otherOne, u6_otherKind, u6_items, u6_lanes, u6_sizes, u6_firms, u6_kinds, u6_now, u6_before, u6_images, u6_tape, u6_trace, u6_readFirms, u6_readKinds, u6_readAt, u6_rows, u6_bests⟩ := u6
    replace Y : rY G A s (wMS G h h_items h_lanes h_sizes h_firms h_kinds h_now h_before h_images h_tape h_trace h_readFirms h_readKinds h_readAt h_rows h_bests u6_status u6_points u6_home u6_men u6_hasTable u6_acts u6_imaged u6_length u6_fault u6_traced u6_spot u6_begins u6_token u6_number u6_readPoints u6_readHome u6_readMen u6_otherOne u6_otherKind u6_items u6_lanes u6_sizes u6_firms u6_kinds u6_now u6_before u6_images u6_tape u6_trace u6_readFirms u6_readKinds u6_readAt u6_rows u6_bests) H locs := Y
    replace hM := mS hM huu6
    show W p l e q_X8_goRuled s m args below meth c H locs 0 0 Q (F0 m 32 ls [])
    exact KJ3 u6_status u6_points u6_home u6_men u6_hasTable u6_acts u6_imaged u6_length u6_fault u6_traced u6_spot u6_begins u6_token u6_number u6_readPoints u6_readHome u6_readMen u6_otherOne u6_otherKind u6_items u6_lanes u6_sizes u6_firms u6_kinds u6_now u6_before u6_images u6_tape u6_trace u6_readFirms u6_readKinds u6_readAt u6_rows u6_bests _ _ _ hM Y (lv_sub hl [1, 2, 0] rfl)

def M_X8_pipsOfAll (S0 : MS) (i1 : Int32) (i2 : Int32) : Option (Int32) :=
  ((lp (σ := Int32 × Int32) (β := Int32) (fun rec1 st1 => (if (ms_men S0) ≤ st1.2 then (some st1.1) else (if inb st1.2 8 = true then (if ((ms_firms S0) (st1.2).toNatClampNeg) = i2 then ((M_X8_pipsOf S0 i1 st1.2).bind (fun u5 => (rec1 ((st1.1 + u5), (st1.2 + (1 : Int32)))))) else (rec1 ((st1.1 + (0 : Int32)), (st1.2 + (1 : Int32))))) else none))) 1000000 ((0 : Int32), (0 : Int32))).bind (fun b1 => (some b1)))
def q_X8_pipsOfAll : Room := { frames := 3, cells := 0, slots := 0, locals := 104 }
set_option maxHeartbeats 4000000 in
set_option maxRecDepth 100000 in
theorem c_X8_pipsOfAll (l : Launch) (G : gT) (h h_items h_lanes h_sizes h_firms h_kinds h_now h_before h_images h_tape h_trace h_readFirms h_readKinds h_readAt h_rows h_bests : Nat) (S0_status : Int32) (S0_points : Int32) (S0_home : Int32) (S0_men : Int32) (S0_hasTable : Int32) (S0_acts : Int32) (S0_imaged : Int32) (S0_length : Int32) (S0_fault : Int32) (S0_traced : Int32) (S0_spot : Int32) (S0_begins : Int32) (S0_token : Int32) (S0_number : Int32) (S0_readPoints : Int32) (S0_readHome : Int32) (S0_readMen : Int32) (S0_otherOne : Int32) (S0_otherKind : Int32) (S0_items : Nat → Int32) (S0_lanes : Nat → Int32) (S0_sizes : Nat → Int32) (S0_firms : Nat → Int32) (S0_kinds : Nat → Int32) (S0_now : Nat → Int32) (S0_before : Nat → Int32) (S0_images : Nat → Int32) (S0_tape : Nat → Int32) (S0_trace : Nat → Int32) (S0_readFirms : Nat → Int32) (S0_readKinds : Nat → Int32) (S0_readAt : Nat → Int32) (S0_rows : Nat → Int32) (S0_bests : Nat → Int32) (i1 : Int32) (i2 : Int32) : CT l G yX8_pipsOfAll cX8_pipsOfAll 5 (some .int) q_X8_pipsOfAll [.ref h, .int i1, .int i2] (wMS G h h_items h_lanes h_sizes h_firms h_kinds h_now h_before h_images h_tape h_trace h_readFirms h_readKinds h_readAt h_rows h_bests S0_status S0_points S0_home S0_men S0_hasTable S0_acts S0_imaged S0_length S0_fault S0_traced S0_spot S0_begins S0_token S0_number S0_readPoints S0_readHome S0_readMen S0_otherOne S0_otherKind S0_items S0_lanes S0_sizes S0_firms S0_kinds S0_now S0_before S0_images S0_tape S0_trace S0_readFirms S0_readKinds S0_readAt S0_rows S0_bests) (M_X8_pipsOfAll (S0_status, S0_points, S0_home, S0_men, S0_hasTable, S0_acts, S0_imaged, S0_length, S0_fault, S0_traced, S0_spot, S0_begins, S0_token, S0_number, S0_readPoints, S0_readHome, S0_readMen, S0_otherOne, S0_otherKind, S0_items, S0_lanes, S0_sizes, S0_firms, S0_kinds, S0_now, S0_before, S0_images, S0_tape, S0_trace, S0_readFirms, S0_readKinds, S0_readAt, S0_rows, S0_bests) i1 i2) (fun u => some (.int u)) (fun u => wMS G h h_items h_lanes h_sizes h_firms h_kinds h_now h_before h_images h_tape h_trace h_readFirms h_readKinds h_readAt h_rows h_bests S0_status S0_points S0_home S0_men S0_hasTable S0_acts S0_imaged S0_length S0_fault S0_traced S0_spot S0_begins S0_token S0_number S0_readPoints S0_readHome S0_readMen S0_otherOne S0_otherKind S0_items S0_lanes S0_sizes S0_firms S0_kinds S0_now S0_before S0_images S0_tape S0_trace S0_readFirms S0_readKinds S0_readAt S0_rows S0_bests) := by
  refine CT.of (P := PX8_pipsOfAll) (by decide) dPX8_pipsOfAll (Nat.le_of_ble_eq_true rfl) ?_
  intro p e s m args below meth c A Q ls hne X RT Y hl
  have hl : lv_has ls 5 [(0, .ref h), (1, .int i1), (2, .int i2)] := hl
  generalize hM : M_X8_pipsOfAll (S0_status, S0_points, S0_home, S0_men, S0_hasTable, S0_acts, S0_imaged, S0_length, S0_fault, S0_traced, S0_spot, S0_begins, S0_token, S0_number, S0_readPoints, S0_readHome, S0_readMen, S0_otherOne, S0_otherKind, S0_items, S0_lanes, S0_sizes, S0_firms, S0_kinds, S0_now, S0_before, S0_images, S0_tape, S0_trace, S0_readFirms, S0_readKinds, S0_readAt, S0_rows, S0_bests) i1 i2 = MM at hne RT
  unfold M_X8_pipsOfAll at hM
  refine r_iconst (pc' := 1) X (0 : Int32) 0 rfl rfl rfl ?_
  refine r_istore_n (pc' := 2) (L' := [(3, .int (0 : Int32)), (0, .ref h), (1, .int i1), (2, .int i2)]) X hl rfl 1 rfl rfl (by decide) rfl (fun ls hl => ?_)
  refine r_iconst (pc' := 3) X (0 : Int32) 2 rfl rfl rfl ?_
  refine r_istore (pc' := 5) (L' := [(4, .int (0 : Int32)), (3, .int (0 : Int32)), (0, .ref h), (1, .int i1), (2, .int i2)]) X hl 3 rfl rfl (by decide) rfl (fun ls hl => ?_)
  obtain ⟨LL1, hL1, hne1, hX1⟩ := mL hM hne
  have KX1 : ∀ (b1 : Int32) (H : Heap) (locs : List Loc) (ls : Array Slot), some b1 = LL1 → rY G A s (wMS G h h_items h_lanes h_sizes h_firms h_kinds h_now h_before h_images h_tape h_trace h_readFirms h_readKinds h_readAt h_rows h_bests S0_status S0_points S0_home S0_men S0_hasTable S0_acts S0_imaged S0_length S0_fault S0_traced S0_spot S0_begins S0_token S0_number S0_readPoints S0_readHome S0_readMen S0_otherOne S0_otherKind S0_items S0_lanes S0_sizes S0_firms S0_kinds S0_now S0_before S0_images S0_tape S0_trace S0_readFirms S0_readKinds S0_readAt S0_rows S0_bests) H locs → lv_has ls 5 [(3, .int b1)] → W p l e q_X8_pipsOfAll s m args below meth c H locs 0 0 Q (F0 m 45 ls []) := by
    intro b1 H locs ls hM Y hl
    replace hM := hX1 _ hM
    refine r_iload_n (pc' := 46) X hl 0 rfl rfl 25 rfl rfl ?_
    exact RT b1 _ _ _ _ _ hM (Or.inl ⟨rfl, rfl, _, rfl⟩) (X.d (k := 26) rfl) Y
  refine lp_rule (I := fun (st1 : Int32 × Int32) => ∀ (H : Heap) (locs : List Loc) (ls : Array Slot), rY G A s (wMS G h h_items h_lanes h_sizes h_firms h_kinds h_now h_before h_images h_tape h_trace h_readFirms h_readKinds h_readAt h_rows h_bests S0_status S0_points S0_home S0_men S0_hasTable S0_acts S0_imaged S0_length S0_fault S0_traced S0_spot S0_begins S0_token S0_number S0_readPoints S0_readHome S0_readMen S0_otherOne S0_otherKind S0_items S0_lanes S0_sizes S0_firms S0_kinds S0_now S0_before S0_images S0_tape S0_trace S0_readFirms S0_readKinds S0_readAt S0_rows S0_bests) H locs → lv_has ls 5 [(0, .ref h), (1, .int i1), (2, .int i2), (3, .int st1.1), (4, .int st1.2)] → W p l e q_X8_pipsOfAll s m args below meth c H locs 0 0 Q (F0 m 5 ls [])) hne1 (fun rec1 st1 IH1 hM => ?_) _ _ hL1 _ _ _ Y (lv_sub hl [2, 3, 4, 1, 0] rfl)
  intro H locs ls Y hl
  obtain ⟨st1_1, st1_2⟩ := st1
  replace Y : rY G A s (wMS G h h_items h_lanes h_sizes h_firms h_kinds h_now h_before h_images h_tape h_trace h_readFirms h_readKinds h_readAt h_rows h_bests S0_status S0_points S0_home S0_men S0_hasTable S0_acts S0_imaged S0_length S0_fault S0_traced S0_spot S0_begins S0_token S0_number S0_readPoints S0_readHome S0_readMen S0_otherOne S0_otherKind S0_items S0_lanes S0_sizes S0_firms S0_kinds S0_now S0_before S0_images S0_tape S0_trace S0_readFirms S0_readKinds S0_readAt S0_rows S0_bests) H locs := Y
  replace hl : lv_has ls 5 [(0, .ref h), (1, .int i1), (2, .int i2), (3, .int st1_1), (4, .int st1_2)] := hl
  refine r_iload (pc' := 7) X hl 4 rfl 4 rfl rfl ?_
  refine r_aload_n (pc' := 8) X hl 0 rfl rfl 5 rfl rfl ?_
  refine r_get (pc' := 11) (v := .int S0_men) X Y 6 rfl rfl fRX8_159 0 rfl rfl ?_
  refine r_icmp_ge (pc' := 14) X 45 7 rfl rfl (by decide) (fun c2 => ?_) (fun c2 => ?_)
  · replace hM := mI hM c2
    exact KX1 st1_1 _ _ _ hM Y (lv_sub hl [3] rfl)
  · replace hM := mE hM c2
    refine r_iload_n (pc' := 15) X hl 3 rfl rfl 8 rfl rfl ?_
    refine r_aload_n (pc' := 16) X hl 0 rfl rfl 9 rfl rfl ?_
    refine r_get (pc' := 19) (v := .ref h_firms) X Y 10 rfl rfl fRX8_19 0 rfl rfl ?_
    refine r_iload (pc' := 21) X hl 4 rfl 11 rfl rfl ?_
    obtain ⟨g3, hM⟩ := mG hM hne1
    refine r_iald (pc' := 22) X Y 12 rfl rfl 4 rfl (vin g3) ?_
    refine r_iload_n (pc' := 23) X hl 2 rfl rfl 13 rfl rfl ?_
    refine r_icmp_ne (pc' := 26) X 36 14 rfl rfl (by decide) (fun c4 => ?_) (fun c4 => ?_)
    · replace hM := mE hM c4
      refine r_iconst (pc' := 37) X (0 : Int32) 20 rfl rfl rfl ?_
      refine r_iadd (pc' := 38) X 21 rfl rfl ?_
      refine r_istore_n (pc' := 39) (L' := [(3, .int (st1_1 + (0 : Int32))), (0, .ref h), (1, .int i1), (2, .int i2), (4, .int st1_2)]) X hl rfl 22 rfl rfl (by decide) rfl (fun ls hl => ?_)
      refine r_iinc (pc' := 42) (L' := [(4, .int (st1_2 + (1 : Int32))), (3, .int (st1_1 + (0 : Int32))), (0, .ref h), (1, .int i1), (2, .int i2)]) X (st1_2 + (1 : Int32)) hl 4 rfl rfl 23 rfl rfl (by decide) rfl (fun ls hl => ?_)
      refine r_goto X 5 24 rfl (by decide) ?_
      exact IH1 _ hM _ _ _ Y (lv_sub hl [2, 3, 4, 1, 0] rfl)
    · replace hM := mI hM c4
      refine r_aload_n (pc' := 27) X hl 0 rfl rfl 15 rfl rfl ?_
      refine r_iload_n (pc' := 28) X hl 1 rfl rfl 16 rfl rfl ?_
      refine r_iload (pc' := 30) X hl 4 rfl 17 rfl rfl ?_
      refine r_callV0 (pc' := 33) (As := [.int i1, .int st1_2]) (rest := [.int st1_1]) X Y 18 rfl rfl mRX8_181 (c_X8_pipsOf l G h h_items h_lanes h_sizes h_firms h_kinds h_now h_before h_images h_tape h_trace h_readFirms h_readKinds h_readAt h_rows h_bests S0_status S0_points S0_home S0_men S0_hasTable S0_acts S0_imaged S0_length S0_fault S0_traced S0_spot S0_begins S0_token S0_number S0_readPoints S0_readHome S0_readMen S0_otherOne S0_otherKind S0_items S0_lanes S0_sizes S0_firms S0_kinds S0_now S0_before S0_images S0_tape S0_trace S0_readFirms S0_readKinds S0_readAt S0_rows S0_bests i1 st1_2) (mB hM hne1) 0 rfl rfl [0, 1, 2, 3, 4, 5, 6, 7, 8, 9, 10, 11, 12, 13, 14, 15] rfl rfl rfl (Nat.le_of_ble_eq_true rfl) ⟨rfl, rfl⟩ ⟨Nat.le_of_ble_eq_true rfl, Nat.le_of_ble_eq_true rfl⟩ ⟨Nat.zero_le _, Nat.zero_le _⟩ hl.1 (st' := fun u5 => [.int u5, .int st1_1]) (fun _ => rfl) (fun u5 H locs huu5 Y => ?_)
      replace hM := mS hM huu5
      refine r_goto X 37 19 rfl (by decide) ?_
      refine r_iadd (pc' := 38) X 21 rfl rfl ?_
      refine r_istore_n (pc' := 39) (L' := [(3, .int (st1_1 + u5)), (0, .ref h), (1, .int i1), (2, .int i2), (4, .int st1_2)]) X hl rfl 22 rfl rfl (by decide) rfl (fun ls hl => ?_)
      refine r_iinc (pc' := 42) (L' := [(4, .int (st1_2 + (1 : Int32))), (3, .int (st1_1 + u5)), (0, .ref h), (1, .int i1), (2, .int i2)]) X (st1_2 + (1 : Int32)) hl 4 rfl rfl 23 rfl rfl (by decide) rfl (fun ls hl => ?_)
      refine r_goto X 5 24 rfl (by decide) ?_
      exact IH1 _ hM _ _ _ Y (lv_sub hl [2, 3, 4, 1, 0] rfl)

def M_X8_lead (S0 : MS) (i1 : Int32) (i2 : Int32) : Option (Int32) :=
  ((M_X8_pipsOfAll S0 i1 (((1 : Int32) - i2))).bind (fun u1 => ((M_X8_pipsOfAll S0 i1 i2).bind (fun u2 => (some (u1 - u2))))))
def q_X8_lead : Room := { frames := 4, cells := 0, slots := 0, locals := 128 }
set_option maxHeartbeats 4000000 in
set_option maxRecDepth 100000 in
theorem c_X8_lead (l : Launch) (G : gT) (h h_items h_lanes h_sizes h_firms h_kinds h_now h_before h_images h_tape h_trace h_readFirms h_readKinds h_readAt h_rows h_bests : Nat) (S0_status : Int32) (S0_points : Int32) (S0_home : Int32) (S0_men : Int32) (S0_hasTable : Int32) (S0_acts : Int32) (S0_imaged : Int32) (S0_length : Int32) (S0_fault : Int32) (S0_traced : Int32) (S0_spot : Int32) (S0_begins : Int32) (S0_token : Int32) (S0_number : Int32) (S0_readPoints : Int32) (S0_readHome : Int32) (S0_readMen : Int32) (S0_otherOne : Int32) (S0_otherKind : Int32) (S0_items : Nat → Int32) (S0_lanes : Nat → Int32) (S0_sizes : Nat → Int32) (S0_firms : Nat → Int32) (S0_kinds : Nat → Int32) (S0_now : Nat → Int32) (S0_before : Nat → Int32) (S0_images : Nat → Int32) (S0_tape : Nat → Int32) (S0_trace : Nat → Int32) (S0_readFirms : Nat → Int32) (S0_readKinds : Nat → Int32) (S0_readAt : Nat → Int32) (S0_rows : Nat → Int32) (S0_bests : Nat → Int32) (i1 : Int32) (i2 : Int32) : CT l G yX8_lead cX8_lead 3 (some .int) q_X8_lead [.ref h, .int i1, .int i2] (wMS G h h_items h_lanes h_sizes h_firms h_kinds h_now h_before h_images h_tape h_trace h_readFirms h_readKinds h_readAt h_rows h_bests S0_status S0_points S0_home S0_men S0_hasTable S0_acts S0_imaged S0_length S0_fault S0_traced S0_spot S0_begins S0_token S0_number S0_readPoints S0_readHome S0_readMen S0_otherOne S0_otherKind S0_items S0_lanes S0_sizes S0_firms S0_kinds S0_now S0_before S0_images S0_tape S0_trace S0_readFirms S0_readKinds S0_readAt S0_rows S0_bests) (M_X8_lead (S0_status, S0_points, S0_home, S0_men, S0_hasTable, S0_acts, S0_imaged, S0_length, S0_fault, S0_traced, S0_spot, S0_begins, S0_token, S0_number, S0_readPoints, S0_readHome, S0_readMen, S0_otherOne, S0_otherKind, S0_items, S0_lanes, S0_sizes, S0_firms, S0_kinds, S0_now, S0_before, S0_images, S0_tape, S0_trace, S0_readFirms, S0_readKinds, S0_readAt, S0_rows, S0_bests) i1 i2) (fun u => some (.int u)) (fun u => wMS G h h_items h_lanes h_sizes h_firms h_kinds h_now h_before h_images h_tape h_trace h_readFirms h_readKinds h_readAt h_rows h_bests S0_status S0_points S0_home S0_men S0_hasTable S0_acts S0_imaged S0_length S0_fault S0_traced S0_spot S0_begins S0_token S0_number S0_readPoints S0_readHome S0_readMen S0_otherOne S0_otherKind S0_items S0_lanes S0_sizes S0_firms S0_kinds S0_now S0_before S0_images S0_tape S0_trace S0_readFirms S0_readKinds S0_readAt S0_rows S0_bests) := by
  refine CT.of (P := PX8_lead) (by decide) dPX8_lead (Nat.le_of_ble_eq_true rfl) ?_
  intro p e s m args below meth c A Q ls hne X RT Y hl
  have hl : lv_has ls 3 [(0, .ref h), (1, .int i1), (2, .int i2)] := hl
  generalize hM : M_X8_lead (S0_status, S0_points, S0_home, S0_men, S0_hasTable, S0_acts, S0_imaged, S0_length, S0_fault, S0_traced, S0_spot, S0_begins, S0_token, S0_number, S0_readPoints, S0_readHome, S0_readMen, S0_otherOne, S0_otherKind, S0_items, S0_lanes, S0_sizes, S0_firms, S0_kinds, S0_now, S0_before, S0_images, S0_tape, S0_trace, S0_readFirms, S0_readKinds, S0_readAt, S0_rows, S0_bests) i1 i2 = MM at hne RT
  unfold M_X8_lead at hM
  refine r_aload_n (pc' := 1) X hl 0 rfl rfl 0 rfl rfl ?_
  refine r_iload_n (pc' := 2) X hl 1 rfl rfl 1 rfl rfl ?_
  refine r_iconst (pc' := 3) X (1 : Int32) 2 rfl rfl rfl ?_
  refine r_iload_n (pc' := 4) X hl 2 rfl rfl 3 rfl rfl ?_
  refine r_isub (pc' := 5) X 4 rfl rfl ?_
  refine r_callV0 (pc' := 8) (As := [.int i1, .int ((1 : Int32) - i2)]) (rest := []) X Y 5 rfl rfl mRX8_219 (c_X8_pipsOfAll l G h h_items h_lanes h_sizes h_firms h_kinds h_now h_before h_images h_tape h_trace h_readFirms h_readKinds h_readAt h_rows h_bests S0_status S0_points S0_home S0_men S0_hasTable S0_acts S0_imaged S0_length S0_fault S0_traced S0_spot S0_begins S0_token S0_number S0_readPoints S0_readHome S0_readMen S0_otherOne S0_otherKind S0_items S0_lanes S0_sizes S0_firms S0_kinds S0_now S0_before S0_images S0_tape S0_trace S0_readFirms S0_readKinds S0_readAt S0_rows S0_bests i1 (((1 : Int32) - i2))) (mB hM hne) 0 rfl rfl [0, 1, 2, 3, 4, 5, 6, 7, 8, 9, 10, 11, 12, 13, 14, 15] rfl rfl rfl (Nat.le_of_ble_eq_true rfl) ⟨rfl, rfl⟩ ⟨Nat.le_of_ble_eq_true rfl, Nat.le_of_ble_eq_true rfl⟩ ⟨Nat.zero_le _, Nat.zero_le _⟩ hl.1 (st' := fun u1 => [.int u1]) (fun _ => rfl) (fun u1 H locs huu1 Y => ?_)
  replace hM := mS hM huu1
  refine r_aload_n (pc' := 9) X hl 0 rfl rfl 6 rfl rfl ?_
  refine r_iload_n (pc' := 10) X hl 1 rfl rfl 7 rfl rfl ?_
  refine r_iload_n (pc' := 11) X hl 2 rfl rfl 8 rfl rfl ?_
  refine r_callV0 (pc' := 14) (As := [.int i1, .int i2]) (rest := [.int u1]) X Y 9 rfl rfl mRX8_219 (c_X8_pipsOfAll l G h h_items h_lanes h_sizes h_firms h_kinds h_now h_before h_images h_tape h_trace h_readFirms h_readKinds h_readAt h_rows h_bests S0_status S0_points S0_home S0_men S0_hasTable S0_acts S0_imaged S0_length S0_fault S0_traced S0_spot S0_begins S0_token S0_number S0_readPoints S0_readHome S0_readMen S0_otherOne S0_otherKind S0_items S0_lanes S0_sizes S0_firms S0_kinds S0_now S0_before S0_images S0_tape S0_trace S0_readFirms S0_readKinds S0_readAt S0_rows S0_bests i1 i2) (mB hM hne) 0 rfl rfl [0, 1, 2, 3, 4, 5, 6, 7, 8, 9, 10, 11, 12, 13, 14, 15] rfl rfl rfl (Nat.le_of_ble_eq_true rfl) ⟨rfl, rfl⟩ ⟨Nat.le_of_ble_eq_true rfl, Nat.le_of_ble_eq_true rfl⟩ ⟨Nat.zero_le _, Nat.zero_le _⟩ hl.1 (st' := fun u2 => [.int u2, .int u1]) (fun _ => rfl) (fun u2 H locs huu2 Y => ?_)
  replace hM := mS hM huu2
  refine r_isub (pc' := 15) X 10 rfl rfl ?_
  exact RT (u1 - u2) _ _ _ _ _ hM (Or.inl ⟨rfl, rfl, _, rfl⟩) (X.d (k := 11) rfl) Y

def M_X8_isThrow (i0 : Int32) : Option (Int32) :=
  ((M_X8_in ((i0).toInt64) (1 : Int64) (6 : Int64)).bind (fun u1 => (if (u1 = 0 ∨ u1 = 1) then (some u1) else none)))
def q_X8_isThrow : Room := { frames := 2, cells := 0, slots := 0, locals := 85 }
set_option maxHeartbeats 4000000 in
set_option maxRecDepth 100000 in
theorem c_X8_isThrow (l : Launch) (G : gT) (i0 : Int32) : CT l G yX8_isThrow cX8_isThrow 1 (some .boolean) q_X8_isThrow [.int i0] ([]) (M_X8_isThrow i0) (fun u => some (.int u)) (fun u => []) := by
  refine CT.of (P := PX8_isThrow) (by decide) dPX8_isThrow (Nat.le_of_ble_eq_true rfl) ?_
  intro p e s m args below meth c A Q ls hne X RT Y hl
  have hl : lv_has ls 1 [(0, .int i0)] := hl
  generalize hM : M_X8_isThrow i0 = MM at hne RT
  unfold M_X8_isThrow at hM
  refine r_iload_n (pc' := 1) X hl 0 rfl rfl 0 rfl rfl ?_
  refine r_i2l (pc' := 2) X 1 rfl rfl ?_
  refine r_lconst (pc' := 3) X (1 : Int64) 2 rfl rfl rfl ?_
  refine r_ldc2 (pc' := 6) X mw679 3 rfl rfl ?_
  refine r_callS0 (pc' := 9) (As := [.long (i0).toInt64, .long (1 : Int64), .long (6 : Int64)]) (rest := []) X Y 4 rfl rfl mRX8_66 (c_X8_in l G ((i0).toInt64) (1 : Int64) (6 : Int64)) (mB hM hne) rfl [] rfl rfl rfl (Nat.le_of_ble_eq_true rfl) ⟨rfl, rfl⟩ ⟨Nat.le_of_ble_eq_true rfl, Nat.le_of_ble_eq_true rfl⟩ ⟨Nat.zero_le _, Nat.zero_le _⟩ hl.1 (st' := fun u1 => [.int u1]) (fun _ => rfl) (fun u1 H locs huu1 Y => ?_)
  replace hM := mS hM huu1
  obtain ⟨g2, hM⟩ := mG hM hne
  exact RT u1 _ _ _ _ _ hM (Or.inr (Or.inl ⟨rfl, rfl, _, rfl, nb g2⟩)) (X.d (k := 5) rfl) Y

def M_X8_isMan (S0 : MS) (i1 : Int32) : Option (Int32) :=
  ((M_X8_in ((i1).toInt64) (0 : Int64) ((((ms_men S0) - (1 : Int32))).toInt64)).bind (fun u1 => (if (u1 = 0 ∨ u1 = 1) then (some u1) else none)))
def q_X8_isMan : Room := { frames := 2, cells := 0, slots := 0, locals := 85 }
set_option maxHeartbeats 4000000 in
set_option maxRecDepth 100000 in
theorem c_X8_isMan (l : Launch) (G : gT) (h h_items h_lanes h_sizes h_firms h_kinds h_now h_before h_images h_tape h_trace h_readFirms h_readKinds h_readAt h_rows h_bests : Nat) (S0_status : Int32) (S0_points : Int32) (S0_home : Int32) (S0_men : Int32) (S0_hasTable : Int32) (S0_acts : Int32) (S0_imaged : Int32) (S0_length : Int32) (S0_fault : Int32) (S0_traced : Int32) (S0_spot : Int32) (S0_begins : Int32) (S0_token : Int32) (S0_number : Int32) (S0_readPoints : Int32) (S0_readHome : Int32) (S0_readMen : Int32) (S0_otherOne : Int32) (S0_otherKind : Int32) (S0_items : Nat → Int32) (S0_lanes : Nat → Int32) (S0_sizes : Nat → Int32) (S0_firms : Nat → Int32) (S0_kinds : Nat → Int32) (S0_now : Nat → Int32) (S0_before : Nat → Int32) (S0_images : Nat → Int32) (S0_tape : Nat → Int32) (S0_trace : Nat → Int32) (S0_readFirms : Nat → Int32) (S0_readKinds : Nat → Int32) (S0_readAt : Nat → Int32) (S0_rows : Nat → Int32) (S0_bests : Nat → Int32) (i1 : Int32) : CT l G yX8_isMan cX8_isMan 2 (some .boolean) q_X8_isMan [.ref h, .int i1] (wMS G h h_items h_lanes h_sizes h_firms h_kinds h_now h_before h_images h_tape h_trace h_readFirms h_readKinds h_readAt h_rows h_bests S0_status S0_points S0_home S0_men S0_hasTable S0_acts S0_imaged S0_length S0_fault S0_traced S0_spot S0_begins S0_token S0_number S0_readPoints S0_readHome S0_readMen S0_otherOne S0_otherKind S0_items S0_lanes S0_sizes S0_firms S0_kinds S0_now S0_before S0_images S0_tape S0_trace S0_readFirms S0_readKinds S0_readAt S0_rows S0_bests) (M_X8_isMan (S0_status, S0_points, S0_home, S0_men, S0_hasTable, S0_acts, S0_imaged, S0_length, S0_fault, S0_traced, S0_spot, S0_begins, S0_token, S0_number, S0_readPoints, S0_readHome, S0_readMen, S0_otherOne, S0_otherKind, S0_items, S0_lanes, S0_sizes, S0_firms, S0_kinds, S0_now, S0_before, S0_images, S0_tape, S0_trace, S0_readFirms, S0_readKinds, S0_readAt, S0_rows, S0_bests) i1) (fun u => some (.int u)) (fun u => wMS G h h_items h_lanes h_sizes h_firms h_kinds h_now h_before h_images h_tape h_trace h_readFirms h_readKinds h_readAt h_rows h_bests S0_status S0_points S0_home S0_men S0_hasTable S0_acts S0_imaged S0_length S0_fault S0_traced S0_spot S0_begins S0_token S0_number S0_readPoints S0_readHome S0_readMen S0_otherOne S0_otherKind S0_items S0_lanes S0_sizes S0_firms S0_kinds S0_now S0_before S0_images S0_tape S0_trace S0_readFirms S0_readKinds S0_readAt S0_rows S0_bests) := by
  refine CT.of (P := PX8_isMan) (by decide) dPX8_isMan (Nat.le_of_ble_eq_true rfl) ?_
  intro p e s m args below meth c A Q ls hne X RT Y hl
  have hl : lv_has ls 2 [(0, .ref h), (1, .int i1)] := hl
  generalize hM : M_X8_isMan (S0_status, S0_points, S0_home, S0_men, S0_hasTable, S0_acts, S0_imaged, S0_length, S0_fault, S0_traced, S0_spot, S0_begins, S0_token, S0_number, S0_readPoints, S0_readHome, S0_readMen, S0_otherOne, S0_otherKind, S0_items, S0_lanes, S0_sizes, S0_firms, S0_kinds, S0_now, S0_before, S0_images, S0_tape, S0_trace, S0_readFirms, S0_readKinds, S0_readAt, S0_rows, S0_bests) i1 = MM at hne RT
  unfold M_X8_isMan at hM
  refine r_iload_n (pc' := 1) X hl 1 rfl rfl 0 rfl rfl ?_
  refine r_i2l (pc' := 2) X 1 rfl rfl ?_
  refine r_lconst (pc' := 3) X (0 : Int64) 2 rfl rfl rfl ?_
  refine r_aload_n (pc' := 4) X hl 0 rfl rfl 3 rfl rfl ?_
  refine r_get (pc' := 7) (v := .int S0_men) X Y 4 rfl rfl fRX8_159 0 rfl rfl ?_
  refine r_iconst (pc' := 8) X (1 : Int32) 5 rfl rfl rfl ?_
  refine r_isub (pc' := 9) X 6 rfl rfl ?_
  refine r_i2l (pc' := 10) X 7 rfl rfl ?_
  refine r_callS0 (pc' := 13) (As := [.long (i1).toInt64, .long (0 : Int64), .long ((S0_men - (1 : Int32))).toInt64]) (rest := []) X Y 8 rfl rfl mRX8_66 (c_X8_in l G ((i1).toInt64) (0 : Int64) (((S0_men - (1 : Int32))).toInt64)) (mB hM hne) rfl [] rfl rfl rfl (Nat.le_of_ble_eq_true rfl) ⟨rfl, rfl⟩ ⟨Nat.le_of_ble_eq_true rfl, Nat.le_of_ble_eq_true rfl⟩ ⟨Nat.zero_le _, Nat.zero_le _⟩ hl.1 (st' := fun u1 => [.int u1]) (fun _ => rfl) (fun u1 H locs huu1 Y => ?_)
  replace hM := mS hM huu1
  obtain ⟨g2, hM⟩ := mG hM hne
  exact RT u1 _ _ _ _ _ hM (Or.inr (Or.inl ⟨rfl, rfl, _, rfl, nb g2⟩)) (X.d (k := 9) rfl) Y

def M_X8_isFirm (i0 : Int32) : Option (Int32) :=
  ((M_X8_in ((i0).toInt64) (0 : Int64) (1 : Int64)).bind (fun u1 => (if (u1 = 0 ∨ u1 = 1) then (some u1) else none)))
def q_X8_isFirm : Room := { frames := 2, cells := 0, slots := 0, locals := 85 }
set_option maxHeartbeats 4000000 in
set_option maxRecDepth 100000 in
theorem c_X8_isFirm (l : Launch) (G : gT) (i0 : Int32) : CT l G yX8_isFirm cX8_isFirm 1 (some .boolean) q_X8_isFirm [.int i0] ([]) (M_X8_isFirm i0) (fun u => some (.int u)) (fun u => []) := by
  refine CT.of (P := PX8_isFirm) (by decide) dPX8_isFirm (Nat.le_of_ble_eq_true rfl) ?_
  intro p e s m args below meth c A Q ls hne X RT Y hl
  have hl : lv_has ls 1 [(0, .int i0)] := hl
  generalize hM : M_X8_isFirm i0 = MM at hne RT
  unfold M_X8_isFirm at hM
  refine r_iload_n (pc' := 1) X hl 0 rfl rfl 0 rfl rfl ?_
  refine r_i2l (pc' := 2) X 1 rfl rfl ?_
  refine r_lconst (pc' := 3) X (0 : Int64) 2 rfl rfl rfl ?_
  refine r_lconst (pc' := 4) X (1 : Int64) 3 rfl rfl rfl ?_
  refine r_callS0 (pc' := 7) (As := [.long (i0).toInt64, .long (0 : Int64), .long (1 : Int64)]) (rest := []) X Y 4 rfl rfl mRX8_66 (c_X8_in l G ((i0).toInt64) (0 : Int64) (1 : Int64)) (mB hM hne) rfl [] rfl rfl rfl (Nat.le_of_ble_eq_true rfl) ⟨rfl, rfl⟩ ⟨Nat.le_of_ble_eq_true rfl, Nat.le_of_ble_eq_true rfl⟩ ⟨Nat.zero_le _, Nat.zero_le _⟩ hl.1 (st' := fun u1 => [.int u1]) (fun _ => rfl) (fun u1 H locs huu1 Y => ?_)
  replace hM := mS hM huu1
  obtain ⟨g2, hM⟩ := mG hM hne
  exact RT u1 _ _ _ _ _ hM (Or.inr (Or.inl ⟨rfl, rfl, _, rfl, nb g2⟩)) (X.d (k := 5) rfl) Y

def M_X8_note (S0 : MS) : Option (MS) :=
  (jn (σ := Int32 × (Nat → Int32)) (fun v1 => ((lp (σ := Int32 × (Nat → Int32)) (β := (Nat → Int32)) (fun rec2 st2 => (if (12 : Int32) ≤ st2.1 then (some st2.2) else (if inb st2.1 12 = true then (if inb (((12 : Int32) * v1.1) + st2.1) 288 = true then (rec2 ((st2.1 + (1 : Int32)), (upd st2.2 ((((12 : Int32) * v1.1) + st2.1)).toNatClampNeg ((ms_now S0) (st2.1).toNatClampNeg)))) else none) else none))) 1000000 ((0 : Int32), v1.2)).bind (fun b2 => (some (ms_s_before (ms_s_acts S0 (v1.1 + (1 : Int32))) b2))))) (fun J1 => (if (ms_acts S0) = (24 : Int32) then ((lp (σ := Int32 × (Nat → Int32)) (β := (Nat → Int32)) (fun rec7 st7 => (if (276 : Int32) ≤ st7.1 then (some st7.2) else (if inb ((12 : Int32) + st7.1) 288 = true then (if inb st7.1 288 = true then (rec7 ((st7.1 + (1 : Int32)), (upd st7.2 (st7.1).toNatClampNeg (st7.2 (((12 : Int32) + st7.1)).toNatClampNeg)))) else none) else none))) 1000000 ((0 : Int32), (ms_before S0))).bind (fun b7 => (J1 (((ms_acts S0) - (1 : Int32)), b7)))) else (J1 ((ms_acts S0), (ms_before S0))))))
def q_X8_note : Room := { frames := 1, cells := 0, slots := 0, locals := 60 }
set_option maxHeartbeats 4000000 in
set_option maxRecDepth 100000 in
theorem c_X8_note (l : Launch) (G : gT) (h h_items h_lanes h_sizes h_firms h_kinds h_now h_before h_images h_tape h_trace h_readFirms h_readKinds h_readAt h_rows h_bests : Nat) (S0_status : Int32) (S0_points : Int32) (S0_home : Int32) (S0_men : Int32) (S0_hasTable : Int32) (S0_acts : Int32) (S0_imaged : Int32) (S0_length : Int32) (S0_fault : Int32) (S0_traced : Int32) (S0_spot : Int32) (S0_begins : Int32) (S0_token : Int32) (S0_number : Int32) (S0_readPoints : Int32) (S0_readHome : Int32) (S0_readMen : Int32) (S0_otherOne : Int32) (S0_otherKind : Int32) (S0_items : Nat → Int32) (S0_lanes : Nat → Int32) (S0_sizes : Nat → Int32) (S0_firms : Nat → Int32) (S0_kinds : Nat → Int32) (S0_now : Nat → Int32) (S0_before : Nat → Int32) (S0_images : Nat → Int32) (S0_tape : Nat → Int32) (S0_trace : Nat → Int32) (S0_readFirms : Nat → Int32) (S0_readKinds : Nat → Int32) (S0_readAt : Nat → Int32) (S0_rows : Nat → Int32) (S0_bests : Nat → Int32) : CT l G yX8_note cX8_note 2 none q_X8_note [.ref h] (wMS G h h_items h_lanes h_sizes h_firms h_kinds h_now h_before h_images h_tape h_trace h_readFirms h_readKinds h_readAt h_rows h_bests S0_status S0_points S0_home S0_men S0_hasTable S0_acts S0_imaged S0_length S0_fault S0_traced S0_spot S0_begins S0_token S0_number S0_readPoints S0_readHome S0_readMen S0_otherOne S0_otherKind S0_items S0_lanes S0_sizes S0_firms S0_kinds S0_now S0_before S0_images S0_tape S0_trace S0_readFirms S0_readKinds S0_readAt S0_rows S0_bests) (M_X8_note (S0_status, S0_points, S0_home, S0_men, S0_hasTable, S0_acts, S0_imaged, S0_length, S0_fault, S0_traced, S0_spot, S0_begins, S0_token, S0_number, S0_readPoints, S0_readHome, S0_readMen, S0_otherOne, S0_otherKind, S0_items, S0_lanes, S0_sizes, S0_firms, S0_kinds, S0_now, S0_before, S0_images, S0_tape, S0_trace, S0_readFirms, S0_readKinds, S0_readAt, S0_rows, S0_bests)) (fun u => none) (fun u => wMS G h h_items h_lanes h_sizes h_firms h_kinds h_now h_before h_images h_tape h_trace h_readFirms h_readKinds h_readAt h_rows h_bests u.1 u.2.1 u.2.2.1 u.2.2.2.1 u.2.2.2.2.1 u.2.2.2.2.2.1 u.2.2.2.2.2.2.1 u.2.2.2.2.2.2.2.1 u.2.2.2.2.2.2.2.2.1 u.2.2.2.2.2.2.2.2.2.1 u.2.2.2.2.2.2.2.2.2.2.1 u.2.2.2.2.2.2.2.2.2.2.2.1 u.2.2.2.2.2.2.2.2.2.2.2.2.1 u.2.2.2.2.2.2.2.2.2.2.2.2.2.1 u.2.2.2.2.2.2.2.2.2.2.2.2.2.2.1 u.2.2.2.2.2.2.2.2.2.2.2.2.2.2.2.1 u.2.2.2.2.2.2.2.2.2.2.2.2.2.2.2.2.1 u.2.2.2.2.2.2.2.2.2.2.2.2.2.2.2.2.2.1 u.2.2.2.2.2.2.2.2.2.2.2.2.2.2.2.2.2.2.1 u.2.2.2.2.2.2.2.2.2.2.2.2.2.2.2.2.2.2.2.1 u.2.2.2.2.2.2.2.2.2.2.2.2.2.2.2.2.2.2.2.2.1 u.2.2.2.2.2.2.2.2.2.2.2.2.2.2.2.2.2.2.2.2.2.1 u.2.2.2.2.2.2.2.2.2.2.2.2.2.2.2.2.2.2.2.2.2.2.1 u.2.2.2.2.2.2.2.2.2.2.2.2.2.2.2.2.2.2.2.2.2.2.2.1 u.2.2.2.2.2.2.2.2.2.2.2.2.2.2.2.2.2.2.2.2.2.2.2.2.1 u.2.2.2.2.2.2.2.2.2.2.2.2.2.2.2.2.2.2.2.2.2.2.2.2.2.1 u.2.2.2.2.2.2.2.2.2.2.2.2.2.2.2.2.2.2.2.2.2.2.2.2.2.2.1 u.2.2.2.2.2.2.2.2.2.2.2.2.2.2.2.2.2.2.2.2.2.2.2.2.2.2.2.1 u.2.2.2.2.2.2.2.2.2.2.2.2.2.2.2.2.2.2.2.2.2.2.2.2.2.2.2.2.1 u.2.2.2.2.2.2.2.2.2.2.2.2.2.2.2.2.2.2.2.2.2.2.2.2.2.2.2.2.2.1 u.2.2.2.2.2.2.2.2.2.2.2.2.2.2.2.2.2.2.2.2.2.2.2.2.2.2.2.2.2.2.1 u.2.2.2.2.2.2.2.2.2.2.2.2.2.2.2.2.2.2.2.2.2.2.2.2.2.2.2.2.2.2.2.1 u.2.2.2.2.2.2.2.2.2.2.2.2.2.2.2.2.2.2.2.2.2.2.2.2.2.2.2.2.2.2.2.2.1 u.2.2.2.2.2.2.2.2.2.2.2.2.2.2.2.2.2.2.2.2.2.2.2.2.2.2.2.2.2.2.2.2.2) := by
  refine CT.of (P := PX8_note) (by decide) dPX8_note (Nat.le_of_ble_eq_true rfl) ?_
  intro p e s m args below meth c A Q ls hne X RT Y hl
  have hl : lv_has ls 2 [(0, .ref h)] := hl
  generalize hM : M_X8_note (S0_status, S0_points, S0_home, S0_men, S0_hasTable, S0_acts, S0_imaged, S0_length, S0_fault, S0_traced, S0_spot, S0_begins, S0_token, S0_number, S0_readPoints, S0_readHome, S0_readMen, S0_otherOne, S0_otherKind, S0_items, S0_lanes, S0_sizes, S0_firms, S0_kinds, S0_now, S0_before, S0_images, S0_tape, S0_trace, S0_readFirms, S0_readKinds, S0_readAt, S0_rows, S0_bests) = MM at hne RT
  unfold M_X8_note at hM
  refine r_aload_n (pc' := 1) X hl 0 rfl rfl 0 rfl rfl ?_
  refine r_get (pc' := 4) (v := .int S0_acts) X Y 1 rfl rfl fRX8_166 0 rfl rfl ?_
  refine r_bipush (pc' := 6) X (24 : Int32) 2 rfl rfl rfl ?_
  obtain ⟨J1, hJ1, hM⟩ := mJ hM
  have KJ1 : ∀ (v1_1 : Int32) (v1_2 : (Nat → Int32)) (H : Heap) (locs : List Loc) (ls : Array Slot), J1 (v1_1, v1_2) = MM → rY G A s (wMS G h h_items h_lanes h_sizes h_firms h_kinds h_now h_before h_images h_tape h_trace h_readFirms h_readKinds h_readAt h_rows h_bests S0_status S0_points S0_home S0_men S0_hasTable v1_1 S0_imaged S0_length S0_fault S0_traced S0_spot S0_begins S0_token S0_number S0_readPoints S0_readHome S0_readMen S0_otherOne S0_otherKind S0_items S0_lanes S0_sizes S0_firms S0_kinds S0_now v1_2 S0_images S0_tape S0_trace S0_readFirms S0_readKinds S0_readAt S0_rows S0_bests) H locs → lv_has ls 2 [(0, .ref h)] → W p l e q_X8_note s m args below meth c H locs 0 0 Q (F0 m 49 ls []) := by
    intro v1_1 v1_2 H locs ls hM Y hl
    replace hM := (hJ1 _).symm.trans hM
    refine r_iconst (pc' := 50) X (0 : Int32) 27 rfl rfl rfl ?_
    refine r_istore_n (pc' := 51) (L' := [(1, .int (0 : Int32)), (0, .ref h)]) X hl rfl 28 rfl rfl (by decide) rfl (fun ls hl => ?_)
    obtain ⟨LL2, hL2, hne2, hX2⟩ := mL hM hne
    have KX2 : ∀ (b2 : (Nat → Int32)) (H : Heap) (locs : List Loc) (ls : Array Slot), some b2 = LL2 → rY G A s (wMS G h h_items h_lanes h_sizes h_firms h_kinds h_now h_before h_images h_tape h_trace h_readFirms h_readKinds h_readAt h_rows h_bests S0_status S0_points S0_home S0_men S0_hasTable v1_1 S0_imaged S0_length S0_fault S0_traced S0_spot S0_begins S0_token S0_number S0_readPoints S0_readHome S0_readMen S0_otherOne S0_otherKind S0_items S0_lanes S0_sizes S0_firms S0_kinds S0_now b2 S0_images S0_tape S0_trace S0_readFirms S0_readKinds S0_readAt S0_rows S0_bests) H locs → lv_has ls 2 [(0, .ref h)] → W p l e q_X8_note s m args below meth c H locs 0 0 Q (F0 m 83 ls []) := by
      intro b2 H locs ls hM Y hl
      replace hM := hX2 _ hM
      refine r_aload_n (pc' := 84) X hl 0 rfl rfl 47 rfl rfl ?_
      refine r_dup (pc' := 85) X 48 rfl rfl rfl ?_
      refine r_get (pc' := 88) (v := .int v1_1) X Y 49 rfl rfl fRX8_166 0 rfl rfl ?_
      refine r_iconst (pc' := 89) X (1 : Int32) 50 rfl rfl rfl ?_
      refine r_iadd (pc' := 90) X 51 rfl rfl ?_
      refine r_put (pc' := 93) (ws' := wMS G h h_items h_lanes h_sizes h_firms h_kinds h_now h_before h_images h_tape h_trace h_readFirms h_readKinds h_readAt h_rows h_bests S0_status S0_points S0_home S0_men S0_hasTable (v1_1 + (1 : Int32)) S0_imaged S0_length S0_fault S0_traced S0_spot S0_begins S0_token S0_number S0_readPoints S0_readHome S0_readMen S0_otherOne S0_otherKind S0_items S0_lanes S0_sizes S0_firms S0_kinds S0_now b2 S0_images S0_tape S0_trace S0_readFirms S0_readKinds S0_readAt S0_rows S0_bests) X Y 52 rfl rfl fRX8_166 0 rfl rfl rfl (Nat.le_of_ble_eq_true rfl) rfl (fun H locs Y => ?_)
      exact RT (S0_status, S0_points, S0_home, S0_men, S0_hasTable, (v1_1 + (1 : Int32)), S0_imaged, S0_length, S0_fault, S0_traced, S0_spot, S0_begins, S0_token, S0_number, S0_readPoints, S0_readHome, S0_readMen, S0_otherOne, S0_otherKind, S0_items, S0_lanes, S0_sizes, S0_firms, S0_kinds, S0_now, b2, S0_images, S0_tape, S0_trace, S0_readFirms, S0_readKinds, S0_readAt, S0_rows, S0_bests) _ _ _ _ _ hM (Or.inr (Or.inr (Or.inr (Or.inl ⟨rfl, rfl, rfl⟩)))) (X.d (k := 53) rfl) Y
    refine lp_rule (I := fun (st2 : Int32 × (Nat → Int32)) => ∀ (H : Heap) (locs : List Loc) (ls : Array Slot), rY G A s (wMS G h h_items h_lanes h_sizes h_firms h_kinds h_now h_before h_images h_tape h_trace h_readFirms h_readKinds h_readAt h_rows h_bests S0_status S0_points S0_home S0_men S0_hasTable v1_1 S0_imaged S0_length S0_fault S0_traced S0_spot S0_begins S0_token S0_number S0_readPoints S0_readHome S0_readMen S0_otherOne S0_otherKind S0_items S0_lanes S0_sizes S0_firms S0_kinds S0_now st2.2 S0_images S0_tape S0_trace S0_readFirms S0_readKinds S0_readAt S0_rows S0_bests) H locs → lv_has ls 2 [(0, .ref h), (1, .int st2.1)] → W p l e q_X8_note s m args below meth c H locs 0 0 Q (F0 m 51 ls [])) hne2 (fun rec2 st2 IH2 hM => ?_) _ _ hL2 _ _ _ Y (lv_sub hl [1, 0] rfl)
    intro H locs ls Y hl
    obtain ⟨st2_1, st2_2⟩ := st2
    replace Y : rY G A s (wMS G h h_items h_lanes h_sizes h_firms h_kinds h_now h_before h_images h_tape h_trace h_readFirms h_readKinds h_readAt h_rows h_bests S0_status S0_points S0_home S0_men S0_hasTable v1_1 S0_imaged S0_length S0_fault S0_traced S0_spot S0_begins S0_token S0_number S0_readPoints S0_readHome S0_readMen S0_otherOne S0_otherKind S0_items S0_lanes S0_sizes S0_firms S0_kinds S0_now st2_2 S0_images S0_tape S0_trace S0_readFirms S0_readKinds S0_readAt S0_rows S0_bests) H locs := Y
    replace hl : lv_has ls 2 [(0, .ref h), (1, .int st2_1)] := hl
    refine r_iload_n (pc' := 52) X hl 1 rfl rfl 29 rfl rfl ?_
    refine r_bipush (pc' := 54) X (12 : Int32) 30 rfl rfl rfl ?_
    refine r_icmp_ge (pc' := 57) X 83 31 rfl rfl (by decide) (fun c3 => ?_) (fun c3 => ?_)
    · replace hM := mI hM c3
      exact KX2 st2_2 _ _ _ hM Y (lv_sub hl [0] rfl)
    · replace hM := mE hM c3
      refine r_aload_n (pc' := 58) X hl 0 rfl rfl 32 rfl rfl ?_
      refine r_get (pc' := 61) (v := .ref h_before) X Y 33 rfl rfl fRX8_28 0 rfl rfl ?_
      refine r_bipush (pc' := 63) X (12 : Int32) 34 rfl rfl rfl ?_
      refine r_aload_n (pc' := 64) X hl 0 rfl rfl 35 rfl rfl ?_
      refine r_get (pc' := 67) (v := .int v1_1) X Y 36 rfl rfl fRX8_166 0 rfl rfl ?_
      refine r_imul (pc' := 68) X 37 rfl rfl ?_
      refine r_iload_n (pc' := 69) X hl 1 rfl rfl 38 rfl rfl ?_
      refine r_iadd (pc' := 70) X 39 rfl rfl ?_
      refine r_aload_n (pc' := 71) X hl 0 rfl rfl 40 rfl rfl ?_
      refine r_get (pc' := 74) (v := .ref h_now) X Y 41 rfl rfl fRX8_25 0 rfl rfl ?_
      refine r_iload_n (pc' := 75) X hl 1 rfl rfl 42 rfl rfl ?_
      obtain ⟨g4, hM⟩ := mG hM hne2
      refine r_iald (pc' := 76) X Y 43 rfl rfl 6 rfl (vin g4) ?_
      obtain ⟨g5, hM⟩ := mG hM hne2
      refine r_iast (pc' := 77) (ws' := wMS G h h_items h_lanes h_sizes h_firms h_kinds h_now h_before h_images h_tape h_trace h_readFirms h_readKinds h_readAt h_rows h_bests S0_status S0_points S0_home S0_men S0_hasTable v1_1 S0_imaged S0_length S0_fault S0_traced S0_spot S0_begins S0_token S0_number S0_readPoints S0_readHome S0_readMen S0_otherOne S0_otherKind S0_items S0_lanes S0_sizes S0_firms S0_kinds S0_now (upd st2_2 ((((12 : Int32) * v1_1) + st2_1)).toNatClampNeg (S0_now (st2_1).toNatClampNeg)) S0_images S0_tape S0_trace S0_readFirms S0_readKinds S0_readAt S0_rows S0_bests) X Y 44 rfl rfl 7 rfl (vin g5) rfl (fun H locs Y => ?_)
      refine r_iinc (pc' := 80) (L' := [(1, .int (st2_1 + (1 : Int32))), (0, .ref h)]) X (st2_1 + (1 : Int32)) hl 1 rfl rfl 45 rfl rfl (by decide) rfl (fun ls hl => ?_)
      refine r_goto X 51 46 rfl (by decide) ?_
      exact IH2 _ hM _ _ _ Y (lv_sub hl [1, 0] rfl)
  refine r_icmp_ne (pc' := 9) X 49 3 rfl rfl (by decide) (fun c6 => ?_) (fun c6 => ?_)
  · replace hM := mE hM c6
    exact KJ1 S0_acts S0_before _ _ _ hM Y (lv_sub hl [0] rfl)
  · replace hM := mI hM c6
    refine r_iconst (pc' := 10) X (0 : Int32) 4 rfl rfl rfl ?_
    refine r_istore_n (pc' := 11) (L' := [(1, .int (0 : Int32)), (0, .ref h)]) X hl rfl 5 rfl rfl (by decide) rfl (fun ls hl => ?_)
    obtain ⟨LL7, hL7, hne7, hX7⟩ := mL hM hne
    have KX7 : ∀ (b7 : (Nat → Int32)) (H : Heap) (locs : List Loc) (ls : Array Slot), some b7 = LL7 → rY G A s (wMS G h h_items h_lanes h_sizes h_firms h_kinds h_now h_before h_images h_tape h_trace h_readFirms h_readKinds h_readAt h_rows h_bests S0_status S0_points S0_home S0_men S0_hasTable S0_acts S0_imaged S0_length S0_fault S0_traced S0_spot S0_begins S0_token S0_number S0_readPoints S0_readHome S0_readMen S0_otherOne S0_otherKind S0_items S0_lanes S0_sizes S0_firms S0_kinds S0_now b7 S0_images S0_tape S0_trace S0_readFirms S0_readKinds S0_readAt S0_rows S0_bests) H locs → lv_has ls 2 [(0, .ref h)] → W p l e q_X8_note s m args below meth c H locs 0 0 Q (F0 m 39 ls []) := by
      intro b7 H locs ls hM Y hl
      replace hM := hX7 _ hM
      refine r_aload_n (pc' := 40) X hl 0 rfl rfl 21 rfl rfl ?_
      refine r_dup (pc' := 41) X 22 rfl rfl rfl ?_
      refine r_get (pc' := 44) (v := .int S0_acts) X Y 23 rfl rfl fRX8_166 0 rfl rfl ?_
      refine r_iconst (pc' := 45) X (1 : Int32) 24 rfl rfl rfl ?_
      refine r_isub (pc' := 46) X 25 rfl rfl ?_
      refine r_put (pc' := 49) (ws' := wMS G h h_items h_lanes h_sizes h_firms h_kinds h_now h_before h_images h_tape h_trace h_readFirms h_readKinds h_readAt h_rows h_bests S0_status S0_points S0_home S0_men S0_hasTable (S0_acts - (1 : Int32)) S0_imaged S0_length S0_fault S0_traced S0_spot S0_begins S0_token S0_number S0_readPoints S0_readHome S0_readMen S0_otherOne S0_otherKind S0_items S0_lanes S0_sizes S0_firms S0_kinds S0_now b7 S0_images S0_tape S0_trace S0_readFirms S0_readKinds S0_readAt S0_rows S0_bests) X Y 26 rfl rfl fRX8_166 0 rfl rfl rfl (Nat.le_of_ble_eq_true rfl) rfl (fun H locs Y => ?_)
      exact KJ1 (S0_acts - (1 : Int32)) b7 _ _ _ hM Y (lv_sub hl [0] rfl)
    refine lp_rule (I := fun (st7 : Int32 × (Nat → Int32)) => ∀ (H : Heap) (locs : List Loc) (ls : Array Slot), rY G A s (wMS G h h_items h_lanes h_sizes h_firms h_kinds h_now h_before h_images h_tape h_trace h_readFirms h_readKinds h_readAt h_rows h_bests S0_status S0_points S0_home S0_men S0_hasTable S0_acts S0_imaged S0_length S0_fault S0_traced S0_spot S0_begins S0_token S0_number S0_readPoints S0_readHome S0_readMen S0_otherOne S0_otherKind S0_items S0_lanes S0_sizes S0_firms S0_kinds S0_now st7.2 S0_images S0_tape S0_trace S0_readFirms S0_readKinds S0_readAt S0_rows S0_bests) H locs → lv_has ls 2 [(0, .ref h), (1, .int st7.1)] → W p l e q_X8_note s m args below meth c H locs 0 0 Q (F0 m 11 ls [])) hne7 (fun rec7 st7 IH7 hM => ?_) _ _ hL7 _ _ _ Y (lv_sub hl [1, 0] rfl)
    intro H locs ls Y hl
    obtain ⟨st7_1, st7_2⟩ := st7
    replace Y : rY G A s (wMS G h h_items h_lanes h_sizes h_firms h_kinds h_now h_before h_images h_tape h_trace h_readFirms h_readKinds h_readAt h_rows h_bests S0_status S0_points S0_home S0_men S0_hasTable S0_acts S0_imaged S0_length S0_fault S0_traced S0_spot S0_begins S0_token S0_number S0_readPoints S0_readHome S0_readMen S0_otherOne S0_otherKind S0_items S0_lanes S0_sizes S0_firms S0_kinds S0_now st7_2 S0_images S0_tape S0_trace S0_readFirms S0_readKinds S0_readAt S0_rows S0_bests) H locs := Y
    replace hl : lv_has ls 2 [(0, .ref h), (1, .int st7_1)] := hl
    refine r_iload_n (pc' := 12) X hl 1 rfl rfl 6 rfl rfl ?_
    refine r_sipush (pc' := 15) X (276 : Int32) 7 rfl rfl rfl ?_
    refine r_icmp_ge (pc' := 18) X 39 8 rfl rfl (by decide) (fun c8 => ?_) (fun c8 => ?_)
    · replace hM := mI hM c8
      exact KX7 st7_2 _ _ _ hM Y (lv_sub hl [0] rfl)
    · replace hM := mE hM c8
      refine r_aload_n (pc' := 19) X hl 0 rfl rfl 9 rfl rfl ?_
      refine r_get (pc' := 22) (v := .ref h_before) X Y 10 rfl rfl fRX8_28 0 rfl rfl ?_
      refine r_iload_n (pc' := 23) X hl 1 rfl rfl 11 rfl rfl ?_
      refine r_aload_n (pc' := 24) X hl 0 rfl rfl 12 rfl rfl ?_
      refine r_get (pc' := 27) (v := .ref h_before) X Y 13 rfl rfl fRX8_28 0 rfl rfl ?_
      refine r_bipush (pc' := 29) X (12 : Int32) 14 rfl rfl rfl ?_
      refine r_iload_n (pc' := 30) X hl 1 rfl rfl 15 rfl rfl ?_
      refine r_iadd (pc' := 31) X 16 rfl rfl ?_
      obtain ⟨g9, hM⟩ := mG hM hne7
      refine r_iald (pc' := 32) X Y 17 rfl rfl 7 rfl (vin g9) ?_
      obtain ⟨g10, hM⟩ := mG hM hne7
      refine r_iast (pc' := 33) (ws' := wMS G h h_items h_lanes h_sizes h_firms h_kinds h_now h_before h_images h_tape h_trace h_readFirms h_readKinds h_readAt h_rows h_bests S0_status S0_points S0_home S0_men S0_hasTable S0_acts S0_imaged S0_length S0_fault S0_traced S0_spot S0_begins S0_token S0_number S0_readPoints S0_readHome S0_readMen S0_otherOne S0_otherKind S0_items S0_lanes S0_sizes S0_firms S0_kinds S0_now (upd st7_2 (st7_1).toNatClampNeg (st7_2 (((12 : Int32) + st7_1)).toNatClampNeg)) S0_images S0_tape S0_trace S0_readFirms S0_readKinds S0_readAt S0_rows S0_bests) X Y 18 rfl rfl 7 rfl (vin g10) rfl (fun H locs Y => ?_)
      refine r_iinc (pc' := 36) (L' := [(1, .int (st7_1 + (1 : Int32))), (0, .ref h)]) X (st7_1 + (1 : Int32)) hl 1 rfl rfl 19 rfl rfl (by decide) rfl (fun ls hl => ?_)
      refine r_goto X 11 20 rfl (by decide) ?_
      exact IH7 _ hM _ _ _ Y (lv_sub hl [1, 0] rfl)

def M_X8_undo (S0 : MS) : Option (Int32 × MS) :=
  (if (ms_acts S0) = 0 then (some ((-1000002 : Int32), S0)) else ((lp (σ := Int32 × (Nat → Int32)) (β := (Nat → Int32)) (fun rec2 st2 => (if (12 : Int32) ≤ st2.1 then (some st2.2) else (if inb (((12 : Int32) * ((ms_acts S0) - (1 : Int32))) + st2.1) 288 = true then (if inb st2.1 12 = true then (rec2 ((st2.1 + (1 : Int32)), (upd st2.2 (st2.1).toNatClampNeg ((ms_before S0) ((((12 : Int32) * ((ms_acts S0) - (1 : Int32))) + st2.1)).toNatClampNeg)))) else none) else none))) 1000000 ((0 : Int32), (ms_now S0))).bind (fun b2 => (some (((ms_acts S0) - (1 : Int32)), (ms_s_now (ms_s_acts S0 ((ms_acts S0) - (1 : Int32))) b2))))))
def q_X8_undo : Room := { frames := 1, cells := 0, slots := 0, locals := 60 }
set_option maxHeartbeats 4000000 in
set_option maxRecDepth 100000 in
theorem c_X8_undo (l : Launch) (G : gT) (h h_items h_lanes h_sizes h_firms h_kinds h_now h_before h_images h_tape h_trace h_readFirms h_readKinds h_readAt h_rows h_bests : Nat) (S0_status : Int32) (S0_points : Int32) (S0_home : Int32) (S0_men : Int32) (S0_hasTable : Int32) (S0_acts : Int32) (S0_imaged : Int32) (S0_length : Int32) (S0_fault : Int32) (S0_traced : Int32) (S0_spot : Int32) (S0_begins : Int32) (S0_token : Int32) (S0_number : Int32) (S0_readPoints : Int32) (S0_readHome : Int32) (S0_readMen : Int32) (S0_otherOne : Int32) (S0_otherKind : Int32) (S0_items : Nat → Int32) (S0_lanes : Nat → Int32) (S0_sizes : Nat → Int32) (S0_firms : Nat → Int32) (S0_kinds : Nat → Int32) (S0_now : Nat → Int32) (S0_before : Nat → Int32) (S0_images : Nat → Int32) (S0_tape : Nat → Int32) (S0_trace : Nat → Int32) (S0_readFirms : Nat → Int32) (S0_readKinds : Nat → Int32) (S0_readAt : Nat → Int32) (S0_rows : Nat → Int32) (S0_bests : Nat → Int32) : CT l G yX8_undo cX8_undo 2 (some .int) q_X8_undo [.ref h] (wMS G h h_items h_lanes h_sizes h_firms h_kinds h_now h_before h_images h_tape h_trace h_readFirms h_readKinds h_readAt h_rows h_bests S0_status S0_points S0_home S0_men S0_hasTable S0_acts S0_imaged S0_length S0_fault S0_traced S0_spot S0_begins S0_token S0_number S0_readPoints S0_readHome S0_readMen S0_otherOne S0_otherKind S0_items S0_lanes S0_sizes S0_firms S0_kinds S0_now S0_before S0_images S0_tape S0_trace S0_readFirms S0_readKinds S0_readAt S0_rows S0_bests) (M_X8_undo (S0_status, S0_points, S0_home, S0_men, S0_hasTable, S0_acts, S0_imaged, S0_length, S0_fault, S0_traced, S0_spot, S0_begins, S0_token, S0_number, S0_readPoints, S0_readHome, S0_readMen, S0_otherOne, S0_otherKind, S0_items, S0_lanes, S0_sizes, S0_firms, S0_kinds, S0_now, S0_before, S0_images, S0_tape, S0_trace, S0_readFirms, S0_readKinds, S0_readAt, S0_rows, S0_bests)) (fun u => some (.int u.1)) (fun u => wMS G h h_items h_lanes h_sizes h_firms h_kinds h_now h_before h_images h_tape h_trace h_readFirms h_readKinds h_readAt h_rows h_bests u.2.1 u.2.2.1 u.2.2.2.1 u.2.2.2.2.1 u.2.2.2.2.2.1 u.2.2.2.2.2.2.1 u.2.2.2.2.2.2.2.1 u.2.2.2.2.2.2.2.2.1 u.2.2.2.2.2.2.2.2.2.1 u.2.2.2.2.2.2.2.2.2.2.1 u.2.2.2.2.2.2.2.2.2.2.2.1 u.2.2.2.2.2.2.2.2.2.2.2.2.1 u.2.2.2.2.2.2.2.2.2.2.2.2.2.1 u.2.2.2.2.2.2.2.2.2.2.2.2.2.2.1 u.2.2.2.2.2.2.2.2.2.2.2.2.2.2.2.1 u.2.2.2.2.2.2.2.2.2.2.2.2.2.2.2.2.1 u.2.2.2.2.2.2.2.2.2.2.2.2.2.2.2.2.2.1 u.2.2.2.2.2.2.2.2.2.2.2.2.2.2.2.2.2.2.1 u.2.2.2.2.2.2.2.2.2.2.2.2.2.2.2.2.2.2.2.1 u.2.2.2.2.2.2.2.2.2.2.2.2.2.2.2.2.2.2.2.2.1 u.2.2.2.2.2.2.2.2.2.2.2.2.2.2.2.2.2.2.2.2.2.1 u.2.2.2.2.2.2.2.2.2.2.2.2.2.2.2.2.2.2.2.2.2.2.1 u.2.2.2.2.2.2.2.2.2.2.2.2.2.2.2.2.2.2.2.2.2.2.2.1 u.2.2.2.2.2.2.2.2.2.2.2.2.2.2.2.2.2.2.2.2.2.2.2.2.1 u.2.2.2.2.2.2.2.2.2.2.2.2.2.2.2.2.2.2.2.2.2.2.2.2.2.1 u.2.2.2.2.2.2.2.2.2.2.2.2.2.2.2.2.2.2.2.2.2.2.2.2.2.2.1 u.2.2.2.2.2.2.2.2.2.2.2.2.2.2.2.2.2.2.2.2.2.2.2.2.2.2.2.1 u.2.2.2.2.2.2.2.2.2.2.2.2.2.2.2.2.2.2.2.2.2.2.2.2.2.2.2.2.1 u.2.2.2.2.2.2.2.2.2.2.2.2.2.2.2.2.2.2.2.2.2.2.2.2.2.2.2.2.2.1 u.2.2.2.2.2.2.2.2.2.2.2.2.2.2.2.2.2.2.2.2.2.2.2.2.2.2.2.2.2.2.1 u.2.2.2.2.2.2.2.2.2.2.2.2.2.2.2.2.2.2.2.2.2.2.2.2.2.2.2.2.2.2.2.1 u.2.2.2.2.2.2.2.2.2.2.2.2.2.2.2.2.2.2.2.2.2.2.2.2.2.2.2.2.2.2.2.2.1 u.2.2.2.2.2.2.2.2.2.2.2.2.2.2.2.2.2.2.2.2.2.2.2.2.2.2.2.2.2.2.2.2.2.1 u.2.2.2.2.2.2.2.2.2.2.2.2.2.2.2.2.2.2.2.2.2.2.2.2.2.2.2.2.2.2.2.2.2.2) := by
  refine CT.of (P := PX8_undo) (by decide) dPX8_undo (Nat.le_of_ble_eq_true rfl) ?_
  intro p e s m args below meth c A Q ls hne X RT Y hl
  have hl : lv_has ls 2 [(0, .ref h)] := hl
  generalize hM : M_X8_undo (S0_status, S0_points, S0_home, S0_men, S0_hasTable, S0_acts, S0_imaged, S0_length, S0_fault, S0_traced, S0_spot, S0_begins, S0_token, S0_number, S0_readPoints, S0_readHome, S0_readMen, S0_otherOne, S0_otherKind, S0_items, S0_lanes, S0_sizes, S0_firms, S0_kinds, S0_now, S0_before, S0_images, S0_tape, S0_trace, S0_readFirms, S0_readKinds, S0_readAt, S0_rows, S0_bests) = MM at hne RT
  unfold M_X8_undo at hM
  refine r_aload_n (pc' := 1) X hl 0 rfl rfl 0 rfl rfl ?_
  refine r_get (pc' := 4) (v := .int S0_acts) X Y 1 rfl rfl fRX8_166 0 rfl rfl ?_
  refine r_if_ne (pc' := 7) X 10 2 rfl rfl (by decide) (fun c1 => ?_) (fun c1 => ?_)
  · replace hM := mE hM c1
    refine r_aload_n (pc' := 11) X hl 0 rfl rfl 5 rfl rfl ?_
    refine r_dup (pc' := 12) X 6 rfl rfl rfl ?_
    refine r_get (pc' := 15) (v := .int S0_acts) X Y 7 rfl rfl fRX8_166 0 rfl rfl ?_
    refine r_iconst (pc' := 16) X (1 : Int32) 8 rfl rfl rfl ?_
    refine r_isub (pc' := 17) X 9 rfl rfl ?_
    refine r_put (pc' := 20) (ws' := wMS G h h_items h_lanes h_sizes h_firms h_kinds h_now h_before h_images h_tape h_trace h_readFirms h_readKinds h_readAt h_rows h_bests S0_status S0_points S0_home S0_men S0_hasTable (S0_acts - (1 : Int32)) S0_imaged S0_length S0_fault S0_traced S0_spot S0_begins S0_token S0_number S0_readPoints S0_readHome S0_readMen S0_otherOne S0_otherKind S0_items S0_lanes S0_sizes S0_firms S0_kinds S0_now S0_before S0_images S0_tape S0_trace S0_readFirms S0_readKinds S0_readAt S0_rows S0_bests) X Y 10 rfl rfl fRX8_166 0 rfl rfl rfl (Nat.le_of_ble_eq_true rfl) rfl (fun H locs Y => ?_)
    refine r_iconst (pc' := 21) X (0 : Int32) 11 rfl rfl rfl ?_
    refine r_istore_n (pc' := 22) (L' := [(1, .int (0 : Int32)), (0, .ref h)]) X hl rfl 12 rfl rfl (by decide) rfl (fun ls hl => ?_)
    obtain ⟨LL2, hL2, hne2, hX2⟩ := mL hM hne
    have KX2 : ∀ (b2 : (Nat → Int32)) (H : Heap) (locs : List Loc) (ls : Array Slot), some b2 = LL2 → rY G A s (wMS G h h_items h_lanes h_sizes h_firms h_kinds h_now h_before h_images h_tape h_trace h_readFirms h_readKinds h_readAt h_rows h_bests S0_status S0_points S0_home S0_men S0_hasTable (S0_acts - (1 : Int32)) S0_imaged S0_length S0_fault S0_traced S0_spot S0_begins S0_token S0_number S0_readPoints S0_readHome S0_readMen S0_otherOne S0_otherKind S0_items S0_lanes S0_sizes S0_firms S0_kinds b2 S0_before S0_images S0_tape S0_trace S0_readFirms S0_readKinds S0_readAt S0_rows S0_bests) H locs → lv_has ls 2 [(0, .ref h)] → W p l e q_X8_undo s m args below meth c H locs 0 0 Q (F0 m 54 ls []) := by
      intro b2 H locs ls hM Y hl
      replace hM := hX2 _ hM
      refine r_aload_n (pc' := 55) X hl 0 rfl rfl 31 rfl rfl ?_
      refine r_get (pc' := 58) (v := .int (S0_acts - (1 : Int32))) X Y 32 rfl rfl fRX8_166 0 rfl rfl ?_
      exact RT ((S0_acts - (1 : Int32)), (S0_status, S0_points, S0_home, S0_men, S0_hasTable, (S0_acts - (1 : Int32)), S0_imaged, S0_length, S0_fault, S0_traced, S0_spot, S0_begins, S0_token, S0_number, S0_readPoints, S0_readHome, S0_readMen, S0_otherOne, S0_otherKind, S0_items, S0_lanes, S0_sizes, S0_firms, S0_kinds, b2, S0_before, S0_images, S0_tape, S0_trace, S0_readFirms, S0_readKinds, S0_readAt, S0_rows, S0_bests)) _ _ _ _ _ hM (Or.inl ⟨rfl, rfl, _, rfl⟩) (X.d (k := 33) rfl) Y
    refine lp_rule (I := fun (st2 : Int32 × (Nat → Int32)) => ∀ (H : Heap) (locs : List Loc) (ls : Array Slot), rY G A s (wMS G h h_items h_lanes h_sizes h_firms h_kinds h_now h_before h_images h_tape h_trace h_readFirms h_readKinds h_readAt h_rows h_bests S0_status S0_points S0_home S0_men S0_hasTable (S0_acts - (1 : Int32)) S0_imaged S0_length S0_fault S0_traced S0_spot S0_begins S0_token S0_number S0_readPoints S0_readHome S0_readMen S0_otherOne S0_otherKind S0_items S0_lanes S0_sizes S0_firms S0_kinds st2.2 S0_before S0_images S0_tape S0_trace S0_readFirms S0_readKinds S0_readAt S0_rows S0_bests) H locs → lv_has ls 2 [(0, .ref h), (1, .int st2.1)] → W p l e q_X8_undo s m args below meth c H locs 0 0 Q (F0 m 22 ls [])) hne2 (fun rec2 st2 IH2 hM => ?_) _ _ hL2 _ _ _ Y (lv_sub hl [1, 0] rfl)
    intro H locs ls Y hl
    obtain ⟨st2_1, st2_2⟩ := st2
    replace Y : rY G A s (wMS G h h_items h_lanes h_sizes h_firms h_kinds h_now h_before h_images h_tape h_trace h_readFirms h_readKinds h_readAt h_rows h_bests S0_status S0_points S0_home S0_men S0_hasTable (S0_acts - (1 : Int32)) S0_imaged S0_length S0_fault S0_traced S0_spot S0_begins S0_token S0_number S0_readPoints S0_readHome S0_readMen S0_otherOne S0_otherKind S0_items S0_lanes S0_sizes S0_firms S0_kinds st2_2 S0_before S0_images S0_tape S0_trace S0_readFirms S0_readKinds S0_readAt S0_rows S0_bests) H locs := Y
    replace hl : lv_has ls 2 [(0, .ref h), (1, .int st2_1)] := hl
    refine r_iload_n (pc' := 23) X hl 1 rfl rfl 13 rfl rfl ?_
    refine r_bipush (pc' := 25) X (12 : Int32) 14 rfl rfl rfl ?_
    refine r_icmp_ge (pc' := 28) X 54 15 rfl rfl (by decide) (fun c3 => ?_) (fun c3 => ?_)
    · replace hM := mI hM c3
      exact KX2 st2_2 _ _ _ hM Y (lv_sub hl [0] rfl)
    · replace hM := mE hM c3
      refine r_aload_n (pc' := 29) X hl 0 rfl rfl 16 rfl rfl ?_
      refine r_get (pc' := 32) (v := .ref h_now) X Y 17 rfl rfl fRX8_25 0 rfl rfl ?_
      refine r_iload_n (pc' := 33) X hl 1 rfl rfl 18 rfl rfl ?_
      refine r_aload_n (pc' := 34) X hl 0 rfl rfl 19 rfl rfl ?_
      refine r_get (pc' := 37) (v := .ref h_before) X Y 20 rfl rfl fRX8_28 0 rfl rfl ?_
      refine r_bipush (pc' := 39) X (12 : Int32) 21 rfl rfl rfl ?_
      refine r_aload_n (pc' := 40) X hl 0 rfl rfl 22 rfl rfl ?_
      refine r_get (pc' := 43) (v := .int (S0_acts - (1 : Int32))) X Y 23 rfl rfl fRX8_166 0 rfl rfl ?_
      refine r_imul (pc' := 44) X 24 rfl rfl ?_
      refine r_iload_n (pc' := 45) X hl 1 rfl rfl 25 rfl rfl ?_
      refine r_iadd (pc' := 46) X 26 rfl rfl ?_
      obtain ⟨g4, hM⟩ := mG hM hne2
      refine r_iald (pc' := 47) X Y 27 rfl rfl 7 rfl (vin g4) ?_
      obtain ⟨g5, hM⟩ := mG hM hne2
      refine r_iast (pc' := 48) (ws' := wMS G h h_items h_lanes h_sizes h_firms h_kinds h_now h_before h_images h_tape h_trace h_readFirms h_readKinds h_readAt h_rows h_bests S0_status S0_points S0_home S0_men S0_hasTable (S0_acts - (1 : Int32)) S0_imaged S0_length S0_fault S0_traced S0_spot S0_begins S0_token S0_number S0_readPoints S0_readHome S0_readMen S0_otherOne S0_otherKind S0_items S0_lanes S0_sizes S0_firms S0_kinds (upd st2_2 (st2_1).toNatClampNeg (S0_before ((((12 : Int32) * (S0_acts - (1 : Int32))) + st2_1)).toNatClampNeg)) S0_before S0_images S0_tape S0_trace S0_readFirms S0_readKinds S0_readAt S0_rows S0_bests) X Y 28 rfl rfl 6 rfl (vin g5) rfl (fun H locs Y => ?_)
      refine r_iinc (pc' := 51) (L' := [(1, .int (st2_1 + (1 : Int32))), (0, .ref h)]) X (st2_1 + (1 : Int32)) hl 1 rfl rfl 29 rfl rfl (by decide) rfl (fun ls hl => ?_)
      refine r_goto X 22 30 rfl (by decide) ?_
      exact IH2 _ hM _ _ _ Y (lv_sub hl [1, 0] rfl)
  · replace hM := mI hM c1
    refine r_ldc (pc' := 9) X mw684 3 rfl rfl ?_
    exact RT ((-1000002 : Int32), (S0_status, S0_points, S0_home, S0_men, S0_hasTable, S0_acts, S0_imaged, S0_length, S0_fault, S0_traced, S0_spot, S0_begins, S0_token, S0_number, S0_readPoints, S0_readHome, S0_readMen, S0_otherOne, S0_otherKind, S0_items, S0_lanes, S0_sizes, S0_firms, S0_kinds, S0_now, S0_before, S0_images, S0_tape, S0_trace, S0_readFirms, S0_readKinds, S0_readAt, S0_rows, S0_bests)) _ _ _ _ _ hM (Or.inl ⟨rfl, rfl, _, rfl⟩) (X.d (k := 4) rfl) Y

def M_X8_play (S0 : MS) (i1 : Int32) : Option (Int32 × MS) :=
  (if (ms_hasTable S0) = 0 then (some ((-1000002 : Int32), S0)) else ((M_X8_isThrow i1).bind (fun u2 => (if u2 = 0 then (some ((-1000001 : Int32), S0)) else ((M_X8_wonNow S0).bind (fun u4 => (if u4.1 = (-1000000 : Int32) then (if ((ms_now u4.2) ((11 : Int32)).toNatClampNeg) = (999 : Int32) then (some ((-1000003 : Int32), u4.2)) else ((M_X8_note u4.2).bind (fun u7 => ((M_X8_goRuled u7 (0 : Int32) i1).bind (fun u8 => ((M_X8_take u8.2).bind (fun u9 => (some (u8.1, u9))))))))) else (some ((-1000002 : Int32), u4.2)))))))))
def q_X8_play : Room := { frames := 7, cells := 0, slots := 0, locals := 206 }
set_option maxHeartbeats 4000000 in
set_option maxRecDepth 100000 in
theorem c_X8_play (l : Launch) (G : gT) (h h_items h_lanes h_sizes h_firms h_kinds h_now h_before h_images h_tape h_trace h_readFirms h_readKinds h_readAt h_rows h_bests : Nat) (S0_status : Int32) (S0_points : Int32) (S0_home : Int32) (S0_men : Int32) (S0_hasTable : Int32) (S0_acts : Int32) (S0_imaged : Int32) (S0_length : Int32) (S0_fault : Int32) (S0_traced : Int32) (S0_spot : Int32) (S0_begins : Int32) (S0_token : Int32) (S0_number : Int32) (S0_readPoints : Int32) (S0_readHome : Int32) (S0_readMen : Int32) (S0_otherOne : Int32) (S0_otherKind : Int32) (S0_items : Nat → Int32) (S0_lanes : Nat → Int32) (S0_sizes : Nat → Int32) (S0_firms : Nat → Int32) (S0_kinds : Nat → Int32) (S0_now : Nat → Int32) (S0_before : Nat → Int32) (S0_images : Nat → Int32) (S0_tape : Nat → Int32) (S0_trace : Nat → Int32) (S0_readFirms : Nat → Int32) (S0_readKinds : Nat → Int32) (S0_readAt : Nat → Int32) (S0_rows : Nat → Int32) (S0_bests : Nat → Int32) (i1 : Int32) : CT l G yX8_play cX8_play 3 (some .int) q_X8_play [.ref h, .int i1] (wMS G h h_items h_lanes h_sizes h_firms h_kinds h_now h_before h_images h_tape h_trace h_readFirms h_readKinds h_readAt h_rows h_bests S0_status S0_points S0_home S0_men S0_hasTable S0_acts S0_imaged S0_length S0_fault S0_traced S0_spot S0_begins S0_token S0_number S0_readPoints S0_readHome S0_readMen S0_otherOne S0_otherKind S0_items S0_lanes S0_sizes S0_firms S0_kinds S0_now S0_before S0_images S0_tape S0_trace S0_readFirms S0_readKinds S0_readAt S0_rows S0_bests) (M_X8_play (S0_status, S0_points, S0_home, S0_men, S0_hasTable, S0_acts, S0_imaged, S0_length, S0_fault, S0_traced, S0_spot, S0_begins, S0_token, S0_number, S0_readPoints, S0_readHome, S0_readMen, S0_otherOne, S0_otherKind, S0_items, S0_lanes, S0_sizes, S0_firms, S0_kinds, S0_now, S0_before, S0_images, S0_tape, S0_trace, S0_readFirms, S0_readKinds, S0_readAt, S0_rows, S0_bests) i1) (fun u => some (.int u.1)) (fun u => wMS G h h_items h_lanes h_sizes h_firms h_kinds h_now h_before h_images h_tape h_trace h_readFirms h_readKinds h_readAt h_rows h_bests u.2.1 u.2.2.1 u.2.2.2.1 u.2.2.2.2.1 u.2.2.2.2.2.1 u.2.2.2.2.2.2.1 u.2.2.2.2.2.2.2.1 u.2.2.2.2.2.2.2.2.1 u.2.2.2.2.2.2.2.2.2.1 u.2.2.2.2.2.2.2.2.2.2.1 u.2.2.2.2.2.2.2.2.2.2.2.1 u.2.2.2.2.2.2.2.2.2.2.2.2.1 u.2.2.2.2.2.2.2.2.2.2.2.2.2.1 u.2.2.2.2.2.2.2.2.2.2.2.2.2.2.1 u.2.2.2.2.2.2.2.2.2.2.2.2.2.2.2.1 u.2.2.2.2.2.2.2.2.2.2.2.2.2.2.2.2.1 u.2.2.2.2.2.2.2.2.2.2.2.2.2.2.2.2.2.1 u.2.2.2.2.2.2.2.2.2.2.2.2.2.2.2.2.2.2.1 u.2.2.2.2.2.2.2.2.2.2.2.2.2.2.2.2.2.2.2.1 u.2.2.2.2.2.2.2.2.2.2.2.2.2.2.2.2.2.2.2.2.1 u.2.2.2.2.2.2.2.2.2.2.2.2.2.2.2.2.2.2.2.2.2.1 u.2.2.2.2.2.2.2.2.2.2.2.2.2.2.2.2.2.2.2.2.2.2.1 u.2.2.2.2.2.2.2.2.2.2.2.2.2.2.2.2.2.2.2.2.2.2.2.1 u.2.2.2.2.2.2.2.2.2.2.2.2.2.2.2.2.2.2.2.2.2.2.2.2.1 u.2.2.2.2.2.2.2.2.2.2.2.2.2.2.2.2.2.2.2.2.2.2.2.2.2.1 u.2.2.2.2.2.2.2.2.2.2.2.2.2.2.2.2.2.2.2.2.2.2.2.2.2.2.1 u.2.2.2.2.2.2.2.2.2.2.2.2.2.2.2.2.2.2.2.2.2.2.2.2.2.2.2.1 u.2.2.2.2.2.2.2.2.2.2.2.2.2.2.2.2.2.2.2.2.2.2.2.2.2.2.2.2.1 u.2.2.2.2.2.2.2.2.2.2.2.2.2.2.2.2.2.2.2.2.2.2.2.2.2.2.2.2.2.1 u.2.2.2.2.2.2.2.2.2.2.2.2.2.2.2.2.2.2.2.2.2.2.2.2.2.2.2.2.2.2.1 u.2.2.2.2.2.2.2.2.2.2.2.2.2.2.2.2.2.2.2.2.2.2.2.2.2.2.2.2.2.2.2.1 u.2.2.2.2.2.2.2.2.2.2.2.2.2.2.2.2.2.2.2.2.2.2.2.2.2.2.2.2.2.2.2.2.1 u.2.2.2.2.2.2.2.2.2.2.2.2.2.2.2.2.2.2.2.2.2.2.2.2.2.2.2.2.2.2.2.2.2.1 u.2.2.2.2.2.2.2.2.2.2.2.2.2.2.2.2.2.2.2.2.2.2.2.2.2.2.2.2.2.2.2.2.2.2) := by
  refine CT.of (P := PX8_play) (by decide) dPX8_play (Nat.le_of_ble_eq_true rfl) ?_
  intro p e s m args below meth c A Q ls hne X RT Y hl
  have hl : lv_has ls 3 [(0, .ref h), (1, .int i1)] := hl
  generalize hM : M_X8_play (S0_status, S0_points, S0_home, S0_men, S0_hasTable, S0_acts, S0_imaged, S0_length, S0_fault, S0_traced, S0_spot, S0_begins, S0_token, S0_number, S0_readPoints, S0_readHome, S0_readMen, S0_otherOne, S0_otherKind, S0_items, S0_lanes, S0_sizes, S0_firms, S0_kinds, S0_now, S0_before, S0_images, S0_tape, S0_trace, S0_readFirms, S0_readKinds, S0_readAt, S0_rows, S0_bests) i1 = MM at hne RT
  unfold M_X8_play at hM
  refine r_aload_n (pc' := 1) X hl 0 rfl rfl 0 rfl rfl ?_
  refine r_get (pc' := 4) (v := .int S0_hasTable) X Y 1 rfl rfl fRX8_162 0 rfl rfl ?_
  refine r_if_ne (pc' := 7) X 10 2 rfl rfl (by decide) (fun c1 => ?_) (fun c1 => ?_)
  · replace hM := mE hM c1
    refine r_iload_n (pc' := 11) X hl 1 rfl rfl 5 rfl rfl ?_
    refine r_callS0 (pc' := 14) (As := [.int i1]) (rest := []) X Y 6 rfl rfl mRX8_225 (c_X8_isThrow l G i1) (mB hM hne) rfl [] rfl rfl rfl (Nat.le_of_ble_eq_true rfl) ⟨rfl, rfl⟩ ⟨Nat.le_of_ble_eq_true rfl, Nat.le_of_ble_eq_true rfl⟩ ⟨Nat.zero_le _, Nat.zero_le _⟩ hl.1 (st' := fun u2 => [.int u2]) (fun _ => rfl) (fun u2 H locs huu2 Y => ?_)
    replace hM := mS hM huu2
    refine r_if_ne (pc' := 17) X 20 7 rfl rfl (by decide) (fun c3 => ?_) (fun c3 => ?_)
    · replace hM := mE hM c3
      refine r_aload_n (pc' := 21) X hl 0 rfl rfl 10 rfl rfl ?_
      refine r_callV (pc' := 24) (As := []) (rest := []) (wr := ([] : va_W)) X Y 11 rfl rfl mRX8_228 (c_X8_wonNow l G h h_items h_lanes h_sizes h_firms h_kinds h_now h_before h_images h_tape h_trace h_readFirms h_readKinds h_readAt h_rows h_bests S0_status S0_points S0_home S0_men S0_hasTable S0_acts S0_imaged S0_length S0_fault S0_traced S0_spot S0_begins S0_token S0_number S0_readPoints S0_readHome S0_readMen S0_otherOne S0_otherKind S0_items S0_lanes S0_sizes S0_firms S0_kinds S0_now S0_before S0_images S0_tape S0_trace S0_readFirms S0_readKinds S0_readAt S0_rows S0_bests) (mB hM hne) 0 rfl rfl [0, 1, 2, 3, 4, 5, 6, 7, 8, 9, 10, 11, 12, 13, 14, 15] [] [0, 1, 2, 3, 4, 5, 6, 7, 8, 9, 10, 11, 12, 13, 14, 15] rfl rfl ⟨rfl, rfl, rfl⟩ rfl (w2 := fun u4 => wMS G h h_items h_lanes h_sizes h_firms h_kinds h_now h_before h_images h_tape h_trace h_readFirms h_readKinds h_readAt h_rows h_bests u4.2.1 u4.2.2.1 u4.2.2.2.1 u4.2.2.2.2.1 u4.2.2.2.2.2.1 u4.2.2.2.2.2.2.1 u4.2.2.2.2.2.2.2.1 u4.2.2.2.2.2.2.2.2.1 u4.2.2.2.2.2.2.2.2.2.1 u4.2.2.2.2.2.2.2.2.2.2.1 u4.2.2.2.2.2.2.2.2.2.2.2.1 u4.2.2.2.2.2.2.2.2.2.2.2.2.1 u4.2.2.2.2.2.2.2.2.2.2.2.2.2.1 u4.2.2.2.2.2.2.2.2.2.2.2.2.2.2.1 u4.2.2.2.2.2.2.2.2.2.2.2.2.2.2.2.1 u4.2.2.2.2.2.2.2.2.2.2.2.2.2.2.2.2.1 u4.2.2.2.2.2.2.2.2.2.2.2.2.2.2.2.2.2.1 u4.2.2.2.2.2.2.2.2.2.2.2.2.2.2.2.2.2.2.1 u4.2.2.2.2.2.2.2.2.2.2.2.2.2.2.2.2.2.2.2.1 u4.2.2.2.2.2.2.2.2.2.2.2.2.2.2.2.2.2.2.2.2.1 u4.2.2.2.2.2.2.2.2.2.2.2.2.2.2.2.2.2.2.2.2.2.1 u4.2.2.2.2.2.2.2.2.2.2.2.2.2.2.2.2.2.2.2.2.2.2.1 u4.2.2.2.2.2.2.2.2.2.2.2.2.2.2.2.2.2.2.2.2.2.2.2.1 u4.2.2.2.2.2.2.2.2.2.2.2.2.2.2.2.2.2.2.2.2.2.2.2.2.1 u4.2.2.2.2.2.2.2.2.2.2.2.2.2.2.2.2.2.2.2.2.2.2.2.2.2.1 u4.2.2.2.2.2.2.2.2.2.2.2.2.2.2.2.2.2.2.2.2.2.2.2.2.2.2.1 u4.2.2.2.2.2.2.2.2.2.2.2.2.2.2.2.2.2.2.2.2.2.2.2.2.2.2.2.1 u4.2.2.2.2.2.2.2.2.2.2.2.2.2.2.2.2.2.2.2.2.2.2.2.2.2.2.2.2.1 u4.2.2.2.2.2.2.2.2.2.2.2.2.2.2.2.2.2.2.2.2.2.2.2.2.2.2.2.2.2.1 u4.2.2.2.2.2.2.2.2.2.2.2.2.2.2.2.2.2.2.2.2.2.2.2.2.2.2.2.2.2.2.1 u4.2.2.2.2.2.2.2.2.2.2.2.2.2.2.2.2.2.2.2.2.2.2.2.2.2.2.2.2.2.2.2.1 u4.2.2.2.2.2.2.2.2.2.2.2.2.2.2.2.2.2.2.2.2.2.2.2.2.2.2.2.2.2.2.2.2.1 u4.2.2.2.2.2.2.2.2.2.2.2.2.2.2.2.2.2.2.2.2.2.2.2.2.2.2.2.2.2.2.2.2.2.1 u4.2.2.2.2.2.2.2.2.2.2.2.2.2.2.2.2.2.2.2.2.2.2.2.2.2.2.2.2.2.2.2.2.2.2) (fun _ => rfl) rfl (Nat.le_of_ble_eq_true rfl) ⟨rfl, rfl⟩ ⟨Nat.le_of_ble_eq_true rfl, Nat.le_of_ble_eq_true rfl⟩ ⟨Nat.zero_le _, Nat.zero_le _⟩ hl.1 (st' := fun u4 => [.int u4.1]) (fun _ => rfl) (fun u4 H locs huu4 Y => ?_)
      obtain ⟨u4_1, ⟨u4_2_status, u4_2_points, u4_2_home, u4_2_men, u4_2_hasTable, u4_2_acts, u4_2_imaged, u4_2_length, u4_2_fault, u4_2_traced, u4_2_spot, u4_2_begins, u4_2_token, u4_2_number, u4_2_readPoints, u4_2_readHome, u4_2_readMen, u4_2_otherOne, u4_2_otherKind, u4_2_items, u4_2_lanes, u4_2_sizes, u4_2_firms, u4_2_kinds, u4_2_now, u4_2_before, u4_2_images, u4_2_tape, u4_2_trace, u4_2_readFirms, u4_2_readKinds, u4_2_readAt, u4_2_rows, u4_2_bests⟩⟩ := u4
      replace Y : rY G A s (wMS G h h_items h_lanes h_sizes h_firms h_kinds h_now h_before h_images h_tape h_trace h_readFirms h_readKinds h_readAt h_rows h_bests u4_2_status u4_2_points u4_2_home u4_2_men u4_2_hasTable u4_2_acts u4_2_imaged u4_2_length u4_2_fault u4_2_traced u4_2_spot u4_2_begins u4_2_token u4_2_number u4_2_readPoints u4_2_readHome u4_2_readMen u4_2_otherOne u4_2_otherKind u4_2_items u4_2_lanes u4_2_sizes u4_2_firms u4_2_kinds u4_2_now u4_2_before u4_2_images u4_2_tape u4_2_trace u4_2_readFirms u4_2_readKinds u4_2_readAt u4_2_rows u4_2_bests) H locs := Y
      replace hM := mS hM huu4
      show W p l e q_X8_play s m args below meth c H locs 0 0 Q (F0 m 24 ls [.int u4_1])
      refine r_ldc (pc' := 26) X mw526 12 rfl rfl ?_
      refine r_icmp_eq (pc' := 29) X 32 13 rfl rfl (by decide) (fun c5 => ?_) (fun c5 => ?_)
      · replace hM := mI hM c5
        refine r_aload_n (pc' := 33) X hl 0 rfl rfl 16 rfl rfl ?_
        refine r_get (pc' := 36) (v := .ref h_now) X Y 17 rfl rfl fRX8_25 0 rfl rfl ?_
        refine r_bipush (pc' := 38) X (11 : Int32) 18 rfl rfl rfl ?_
        refine r_iald (pc' := 39) X Y 19 rfl rfl 6 rfl (vin rfl) ?_
        refine r_sipush (pc' := 42) X (999 : Int32) 20 rfl rfl rfl ?_
        refine r_icmp_ne (pc' := 45) X 48 21 rfl rfl (by decide) (fun c6 => ?_) (fun c6 => ?_)
        · replace hM := mE hM c6
          refine r_aload_n (pc' := 49) X hl 0 rfl rfl 24 rfl rfl ?_
          refine r_callV (pc' := 52) (As := []) (rest := []) (wr := ([] : va_W)) X Y 25 rfl rfl mRX8_231 (c_X8_note l G h h_items h_lanes h_sizes h_firms h_kinds h_now h_before h_images h_tape h_trace h_readFirms h_readKinds h_readAt h_rows h_bests u4_2_status u4_2_points u4_2_home u4_2_men u4_2_hasTable u4_2_acts u4_2_imaged u4_2_length u4_2_fault u4_2_traced u4_2_spot u4_2_begins u4_2_token u4_2_number u4_2_readPoints u4_2_readHome u4_2_readMen u4_2_otherOne u4_2_otherKind u4_2_items u4_2_lanes u4_2_sizes u4_2_firms u4_2_kinds u4_2_now u4_2_before u4_2_images u4_2_tape u4_2_trace u4_2_readFirms u4_2_readKinds u4_2_readAt u4_2_rows u4_2_bests) (mB hM hne) 0 rfl rfl [0, 1, 2, 3, 4, 5, 6, 7, 8, 9, 10, 11, 12, 13, 14, 15] [] [0, 1, 2, 3, 4, 5, 6, 7, 8, 9, 10, 11, 12, 13, 14, 15] rfl rfl ⟨rfl, rfl, rfl⟩ rfl (w2 := fun u7 => wMS G h h_items h_lanes h_sizes h_firms h_kinds h_now h_before h_images h_tape h_trace h_readFirms h_readKinds h_readAt h_rows h_bests u7.1 u7.2.1 u7.2.2.1 u7.2.2.2.1 u7.2.2.2.2.1 u7.2.2.2.2.2.1 u7.2.2.2.2.2.2.1 u7.2.2.2.2.2.2.2.1 u7.2.2.2.2.2.2.2.2.1 u7.2.2.2.2.2.2.2.2.2.1 u7.2.2.2.2.2.2.2.2.2.2.1 u7.2.2.2.2.2.2.2.2.2.2.2.1 u7.2.2.2.2.2.2.2.2.2.2.2.2.1 u7.2.2.2.2.2.2.2.2.2.2.2.2.2.1 u7.2.2.2.2.2.2.2.2.2.2.2.2.2.2.1 u7.2.2.2.2.2.2.2.2.2.2.2.2.2.2.2.1 u7.2.2.2.2.2.2.2.2.2.2.2.2.2.2.2.2.1 u7.2.2.2.2.2.2.2.2.2.2.2.2.2.2.2.2.2.1 u7.2.2.2.2.2.2.2.2.2.2.2.2.2.2.2.2.2.2.1 u7.2.2.2.2.2.2.2.2.2.2.2.2.2.2.2.2.2.2.2.1 u7.2.2.2.2.2.2.2.2.2.2.2.2.2.2.2.2.2.2.2.2.1 u7.2.2.2.2.2.2.2.2.2.2.2.2.2.2.2.2.2.2.2.2.2.1 u7.2.2.2.2.2.2.2.2.2.2.2.2.2.2.2.2.2.2.2.2.2.2.1 u7.2.2.2.2.2.2.2.2.2.2.2.2.2.2.2.2.2.2.2.2.2.2.2.1 u7.2.2.2.2.2.2.2.2.2.2.2.2.2.2.2.2.2.2.2.2.2.2.2.2.1 u7.2.2.2.2.2.2.2.2.2.2.2.2.2.2.2.2.2.2.2.2.2.2.2.2.2.1 u7.2.2.2.2.2.2.2.2.2.2.2.2.2.2.2.2.2.2.2.2.2.2.2.2.2.2.1 u7.2.2.2.2.2.2.2.2.2.2.2.2.2.2.2.2.2.2.2.2.2.2.2.2.2.2.2.1 u7.2.2.2.2.2.2.2.2.2.2.2.2.2.2.2.2.2.2.2.2.2.2.2.2.2.2.2.2.1 u7.2.2.2.2.2.2.2.2.2.2.2.2.2.2.2.2.2.2.2.2.2.2.2.2.2.2.2.2.2.1 u7.2.2.2.2.2.2.2.2.2.2.2.2.2.2.2.2.2.2.2.2.2.2.2.2.2.2.2.2.2.2.1 u7.2.2.2.2.2.2.2.2.2.2.2.2.2.2.2.2.2.2.2.2.2.2.2.2.2.2.2.2.2.2.2.1 u7.2.2.2.2.2.2.2.2.2.2.2.2.2.2.2.2.2.2.2.2.2.2.2.2.2.2.2.2.2.2.2.2.1 u7.2.2.2.2.2.2.2.2.2.2.2.2.2.2.2.2.2.2.2.2.2.2.2.2.2.2.2.2.2.2.2.2.2) (fun _ => rfl) rfl (Nat.le_of_ble_eq_true rfl) ⟨rfl, rfl⟩ ⟨Nat.le_of_ble_eq_true rfl, Nat.le_of_ble_eq_true rfl⟩ ⟨Nat.zero_le _, Nat.zero_le _⟩ hl.1 (st' := fun u7 => []) (fun _ => rfl) (fun u7 H locs huu7 Y => ?_)
          obtain ⟨u7_status, u7_points, u7_home, u7_men, u7_hasTable, u7_acts, u7_imaged, u7_length, u7_fault, u7_traced, u7_spot, u7_begins, u7_token, u7_number, u7_readPoints, u7_readHome, u7_readMen, u7_otherOne, u7_otherKind, u7_items, u7_lanes, u7_sizes, u7_firms, u7_kinds, u7_now, u7_before, u7_images, u7_tape, u7_trace, u7_readFirms, u7_readKinds, u7_readAt, u7_rows, u7_bests⟩ := u7
          replace Y : rY G A s (wMS G h h_items h_lanes h_sizes h_firms h_kinds h_now h_before h_images h_tape h_trace h_readFirms h_readKinds h_readAt h_rows h_bests u7_status u7_points u7_home u7_men u7_hasTable u7_acts u7_imaged u7_length u7_fault u7_traced u7_spot u7_begins u7_token u7_number u7_readPoints u7_readHome u7_readMen u7_otherOne u7_otherKind u7_items u7_lanes u7_sizes u7_firms u7_kinds u7_now u7_before u7_images u7_tape u7_trace u7_readFirms u7_readKinds u7_readAt u7_rows u7_bests) H locs := Y
          replace hM := mS hM huu7
          show W p l e q_X8_play s m args below meth c H locs 0 0 Q (F0 m 52 ls [])
          refine r_aload_n (pc' := 53) X hl 0 rfl rfl 26 rfl rfl ?_
          refine r_iconst (pc' := 54) X (0 : Int32) 27 rfl rfl rfl ?_
          refine r_iload_n (pc' := 55) X hl 1 rfl rfl 28 rfl rfl ?_
          refine r_callV (pc' := 58) (As := [.int (0 : Int32), .int i1]) (rest := []) (wr := ([] : va_W)) X Y 29 rfl rfl mRX8_234 (c_X8_goRuled l G h h_items h_lanes h_sizes h_firms h_kinds h_now h_before h_images h_tape h_trace h_readFirms h_readKinds h_readAt h_rows h_bests u7_status u7_points u7_home u7_men u7_hasTable u7_acts u7_imaged u7_length u7_fault u7_traced u7_spot u7_begins u7_token u7_number u7_readPoints u7_readHome u7_readMen u7_otherOne u7_otherKind u7_items u7_lanes u7_sizes u7_firms u7_kinds u7_now u7_before u7_images u7_tape u7_trace u7_readFirms u7_readKinds u7_readAt u7_rows u7_bests (0 : Int32) i1) (mB hM hne) 0 rfl rfl [0, 1, 2, 3, 4, 5, 6, 7, 8, 9, 10, 11, 12, 13, 14, 15] [] [0, 1, 2, 3, 4, 5, 6, 7, 8, 9, 10, 11, 12, 13, 14, 15] rfl rfl ⟨rfl, rfl, rfl⟩ rfl (w2 := fun u8 => wMS G h h_items h_lanes h_sizes h_firms h_kinds h_now h_before h_images h_tape h_trace h_readFirms h_readKinds h_readAt h_rows h_bests u8.2.1 u8.2.2.1 u8.2.2.2.1 u8.2.2.2.2.1 u8.2.2.2.2.2.1 u8.2.2.2.2.2.2.1 u8.2.2.2.2.2.2.2.1 u8.2.2.2.2.2.2.2.2.1 u8.2.2.2.2.2.2.2.2.2.1 u8.2.2.2.2.2.2.2.2.2.2.1 u8.2.2.2.2.2.2.2.2.2.2.2.1 u8.2.2.2.2.2.2.2.2.2.2.2.2.1 u8.2.2.2.2.2.2.2.2.2.2.2.2.2.1 u8.2.2.2.2.2.2.2.2.2.2.2.2.2.2.1 u8.2.2.2.2.2.2.2.2.2.2.2.2.2.2.2.1 u8.2.2.2.2.2.2.2.2.2.2.2.2.2.2.2.2.1 u8.2.2.2.2.2.2.2.2.2.2.2.2.2.2.2.2.2.1 u8.2.2.2.2.2.2.2.2.2.2.2.2.2.2.2.2.2.2.1 u8.2.2.2.2.2.2.2.2.2.2.2.2.2.2.2.2.2.2.2.1 u8.2.2.2.2.2.2.2.2.2.2.2.2.2.2.2.2.2.2.2.2.1 u8.2.2.2.2.2.2.2.2.2.2.2.2.2.2.2.2.2.2.2.2.2.1 u8.2.2.2.2.2.2.2.2.2.2.2.2.2.2.2.2.2.2.2.2.2.2.1 u8.2.2.2.2.2.2.2.2.2.2.2.2.2.2.2.2.2.2.2.2.2.2.2.1 u8.2.2.2.2.2.2.2.2.2.2.2.2.2.2.2.2.2.2.2.2.2.2.2.2.1 u8.2.2.2.2.2.2.2.2.2.2.2.2.2.2.2.2.2.2.2.2.2.2.2.2.2.1 u8.2.2.2.2.2.2.2.2.2.2.2.2.2.2.2.2.2.2.2.2.2.2.2.2.2.2.1 u8.2.2.2.2.2.2.2.2.2.2.2.2.2.2.2.2.2.2.2.2.2.2.2.2.2.2.2.1 u8.2.2.2.2.2.2.2.2.2.2.2.2.2.2.2.2.2.2.2.2.2.2.2.2.2.2.2.2.1 u8.2.2.2.2.2.2.2.2.2.2.2.2.2.2.2.2.2.2.2.2.2.2.2.2.2.2.2.2.2.1 u8.2.2.2.2.2.2.2.2.2.2.2.2.2.2.2.2.2.2.2.2.2.2.2.2.2.2.2.2.2.2.1 u8.2.2.2.2.2.2.2.2.2.2.2.2.2.2.2.2.2.2.2.2.2.2.2.2.2.2.2.2.2.2.2.1 u8.2.2.2.2.2.2.2.2.2.2.2.2.2.2.2.2.2.2.2.2.2.2.2.2.2.2.2.2.2.2.2.2.1 u8.2.2.2.2.2.2.2.2.2.2.2.2.2.2.2.2.2.2.2.2.2.2.2.2.2.2.2.2.2.2.2.2.2.1 u8.2.2.2.2.2.2.2.2.2.2.2.2.2.2.2.2.2.2.2.2.2.2.2.2.2.2.2.2.2.2.2.2.2.2) (fun _ => rfl) rfl (Nat.le_of_ble_eq_true rfl) ⟨rfl, rfl⟩ ⟨Nat.le_of_ble_eq_true rfl, Nat.le_of_ble_eq_true rfl⟩ ⟨Nat.zero_le _, Nat.zero_le _⟩ hl.1 (st' := fun u8 => [.int u8.1]) (fun _ => rfl) (fun u8 H locs huu8 Y => ?_)
          obtain ⟨u8_1, ⟨u8_2_status, u8_2_points, u8_2_home, u8_2_men, u8_2_hasTable, u8_2_acts, u8_2_imaged, u8_2_length, u8_2_fault, u8_2_traced, u8_2_spot, u8_2_begins, u8_2_token, u8_2_number, u8_2_readPoints, u8_2_readHome, u8_2_readMen, u8_2_otherOne, u8_2_otherKind, u8_2_items, u8_2_lanes, u8_2_sizes, u8_2_firms, u8_2_kinds, u8_2_now, u8_2_before, u8_2_images, u8_2_tape, u8_2_trace, u8_2_readFirms, u8_2_readKinds, u8_2_readAt, u8_2_rows, u8_2_bests⟩⟩ := u8
          replace Y : rY G A s (wMS G h h_items h_lanes h_sizes h_firms h_kinds h_now h_before h_images h_tape h_trace h_readFirms h_readKinds h_readAt h_rows h_bests u8_2_status u8_2_points u8_2_home u8_2_men u8_2_hasTable u8_2_acts u8_2_imaged u8_2_length u8_2_fault u8_2_traced u8_2_spot u8_2_begins u8_2_token u8_2_number u8_2_readPoints u8_2_readHome u8_2_readMen u8_2_otherOne u8_2_otherKind u8_2_items u8_2_lanes u8_2_sizes u8_2_firms u8_2_kinds u8_2_now u8_2_before u8_2_images u8_2_tape u8_2_trace u8_2_readFirms u8_2_readKinds u8_2_readAt u8_2_rows u8_2_bests) H locs := Y
          replace hM := mS hM huu8
          show W p l e q_X8_play s m args below meth c H locs 0 0 Q (F0 m 58 ls [.int u8_1])
          refine r_istore_n (pc' := 59) (L' := [(2, .int u8_1), (0, .ref h), (1, .int i1)]) X hl rfl 30 rfl rfl (by decide) rfl (fun ls hl => ?_)
          refine r_aload_n (pc' := 60) X hl 1 rfl rfl 31 rfl rfl ?_
          refine r_callV (pc' := 63) (As := []) (rest := []) (wr := ([] : va_W)) X Y 32 rfl rfl mRX8_237 (c_X8_take l G h h_items h_lanes h_sizes h_firms h_kinds h_now h_before h_images h_tape h_trace h_readFirms h_readKinds h_readAt h_rows h_bests u8_2_status u8_2_points u8_2_home u8_2_men u8_2_hasTable u8_2_acts u8_2_imaged u8_2_length u8_2_fault u8_2_traced u8_2_spot u8_2_begins u8_2_token u8_2_number u8_2_readPoints u8_2_readHome u8_2_readMen u8_2_otherOne u8_2_otherKind u8_2_items u8_2_lanes u8_2_sizes u8_2_firms u8_2_kinds u8_2_now u8_2_before u8_2_images u8_2_tape u8_2_trace u8_2_readFirms u8_2_readKinds u8_2_readAt u8_2_rows u8_2_bests) (mB hM hne) 0 rfl rfl [0, 1, 2, 3, 4, 5, 6, 7, 8, 9, 10, 11, 12, 13, 14, 15] [] [0, 1, 2, 3, 4, 5, 6, 7, 8, 9, 10, 11, 12, 13, 14, 15] rfl rfl ⟨rfl, rfl, rfl⟩ rfl (w2 := fun u9 => wMS G h h_items h_lanes h_sizes h_firms h_kinds h_now h_before h_images h_tape h_trace h_readFirms h_readKinds h_readAt h_rows h_bests u9.1 u9.2.1 u9.2.2.1 u9.2.2.2.1 u9.2.2.2.2.1 u9.2.2.2.2.2.1 u9.2.2.2.2.2.2.1 u9.2.2.2.2.2.2.2.1 u9.2.2.2.2.2.2.2.2.1 u9.2.2.2.2.2.2.2.2.2.1 u9.2.2.2.2.2.2.2.2.2.2.1 u9.2.2.2.2.2.2.2.2.2.2.2.1 u9.2.2.2.2.2.2.2.2.2.2.2.2.1 u9.2.2.2.2.2.2.2.2.2.2.2.2.2.1 u9.2.2.2.2.2.2.2.2.2.2.2.2.2.2.1 u9.2.2.2.2.2.2.2.2.2.2.2.2.2.2.2.1 u9.2.2.2.2.2.2.2.2.2.2.2.2.2.2.2.2.1 u9.2.2.2.2.2.2.2.2.2.2.2.2.2.2.2.2.2.1 u9.2.2.2.2.2.2.2.2.2.2.2.2.2.2.2.2.2.2.1 u9.2.2.2.2.2.2.2.2.2.2.2.2.2.2.2.2.2.2.2.1 u9.2.2.2.2.2.2.2.2.2.2.2.2.2.2.2.2.2.2.2.2.1 u9.2.2.2.2.2.2.2.2.2.2.2.2.2.2.2.2.2.2.2.2.2.1 u9.2.2.2.2.2.2.2.2.2.2.2.2.2.2.2.2.2.2.2.2.2.2.1 u9.2.2.2.2.2.2.2.2.2.2.2.2.2.2.2.2.2.2.2.2.2.2.2.1 u9.2.2.2.2.2.2.2.2.2.2.2.2.2.2.2.2.2.2.2.2.2.2.2.2.1 u9.2.2.2.2.2.2.2.2.2.2.2.2.2.2.2.2.2.2.2.2.2.2.2.2.2.1 u9.2.2.2.2.2.2.2.2.2.2.2.2.2.2.2.2.2.2.2.2.2.2.2.2.2.2.1 u9.2.2.2.2.2.2.2.2.2.2.2.2.2.2.2.2.2.2.2.2.2.2.2.2.2.2.2.1 u9.2.2.2.2.2.2.2.2.2.2.2.2.2.2.2.2.2.2.2.2.2.2.2.2.2.2.2.2.1 u9.2.2.2.2.2.2.2.2.2.2.2.2.2.2.2.2.2.2.2.2.2.2.2.2.2.2.2.2.2.1 u9.2.2.2.2.2.2.2.2.2.2.2.2.2.2.2.2.2.2.2.2.2.2.2.2.2.2.2.2.2.2.1 u9.2.2.2.2.2.2.2.2.2.2.2.2.2.2.2.2.2.2.2.2.2.2.2.2.2.2.2.2.2.2.2.1 u9.2.2.2.2.2.2.2.2.2.2.2.2.2.2.2.2.2.2.2.2.2.2.2.2.2.2.2.2.2.2.2.2.1 u9.2.2.2.2.2.2.2.2.2.2.2.2.2.2.2.2.2.2.2.2.2.2.2.2.2.2.2.2.2.2.2.2.2) (fun _ => rfl) rfl (Nat.le_of_ble_eq_true rfl) ⟨rfl, rfl⟩ ⟨Nat.le_of_ble_eq_true rfl, Nat.le_of_ble_eq_true rfl⟩ ⟨Nat.zero_le _, Nat.zero_le _⟩ hl.1 (st' := fun u9 => []) (fun _ => rfl) (fun u9 H locs huu9 Y => ?_)
          obtain ⟨u9_status, u9_points, u9_home, u9_men, u9_hasTable, u9_acts, u9_imaged, u9_length, u9_fault, u9_traced, u9_spot, u9_begins, u9_token, u9_number, u9_readPoints, u9_readHome, u9_readMen, u9_otherOne, u9_otherKind, u9_items, u9_lanes, u9_sizes, u9_firms, u9_kinds, u9_now, u9_before, u9_images, u9_tape, u9_trace, u9_readFirms, u9_readKinds, u9_readAt, u9_rows, u9_bests⟩ := u9
          replace Y : rY G A s (wMS G h h_items h_lanes h_sizes h_firms h_kinds h_now h_before h_images h_tape h_trace h_readFirms h_readKinds h_readAt h_rows h_bests u9_status u9_points u9_home u9_men u9_hasTable u9_acts u9_imaged u9_length u9_fault u9_traced u9_spot u9_begins u9_token u9_number u9_readPoints u9_readHome u9_readMen u9_otherOne u9_otherKind u9_items u9_lanes u9_sizes u9_firms u9_kinds u9_now u9_before u9_images u9_tape u9_trace u9_readFirms u9_readKinds u9_readAt u9_rows u9_bests) H locs := Y
          replace hM := mS hM huu9
          show W p l e q_X8_play s m args below meth c H locs 0 0 Q (F0 m 63 ls [])
          refine r_iload_n (pc' := 64) X hl 0 rfl rfl 33 rfl rfl ?_
          exact RT (u8_1, (u9_status, u9_points, u9_home, u9_men, u9_hasTable, u9_acts, u9_imaged, u9_length, u9_fault, u9_traced, u9_spot, u9_begins, u9_token, u9_number, u9_readPoints, u9_readHome, u9_readMen, u9_otherOne, u9_otherKind, u9_items, u9_lanes, u9_sizes, u9_firms, u9_kinds, u9_now, u9_before, u9_images, u9_tape, u9_trace, u9_readFirms, u9_readKinds, u9_readAt, u9_rows, u9_bests)) _ _ _ _ _ hM (Or.inl ⟨rfl, rfl, _, rfl⟩) (X.d (k := 34) rfl) Y
        · replace hM := mI hM c6
          refine r_ldc (pc' := 47) X mw561 22 rfl rfl ?_
          exact RT ((-1000003 : Int32), (u4_2_status, u4_2_points, u4_2_home, u4_2_men, u4_2_hasTable, u4_2_acts, u4_2_imaged, u4_2_length, u4_2_fault, u4_2_traced, u4_2_spot, u4_2_begins, u4_2_token, u4_2_number, u4_2_readPoints, u4_2_readHome, u4_2_readMen, u4_2_otherOne, u4_2_otherKind, u4_2_items, u4_2_lanes, u4_2_sizes, u4_2_firms, u4_2_kinds, u4_2_now, u4_2_before, u4_2_images, u4_2_tape, u4_2_trace, u4_2_readFirms, u4_2_readKinds, u4_2_readAt, u4_2_rows, u4_2_bests)) _ _ _ _ _ hM (Or.inl ⟨rfl, rfl, _, rfl⟩) (X.d (k := 23) rfl) Y
      · replace hM := mE hM c5
        refine r_ldc (pc' := 31) X mw684 14 rfl rfl ?_
        exact RT ((-1000002 : Int32), (u4_2_status, u4_2_points, u4_2_home, u4_2_men, u4_2_hasTable, u4_2_acts, u4_2_imaged, u4_2_length, u4_2_fault, u4_2_traced, u4_2_spot, u4_2_begins, u4_2_token, u4_2_number, u4_2_readPoints, u4_2_readHome, u4_2_readMen, u4_2_otherOne, u4_2_otherKind, u4_2_items, u4_2_lanes, u4_2_sizes, u4_2_firms, u4_2_kinds, u4_2_now, u4_2_before, u4_2_images, u4_2_tape, u4_2_trace, u4_2_readFirms, u4_2_readKinds, u4_2_readAt, u4_2_rows, u4_2_bests)) _ _ _ _ _ hM (Or.inl ⟨rfl, rfl, _, rfl⟩) (X.d (k := 15) rfl) Y
    · replace hM := mI hM c3
      refine r_ldc (pc' := 19) X mw542 8 rfl rfl ?_
      exact RT ((-1000001 : Int32), (S0_status, S0_points, S0_home, S0_men, S0_hasTable, S0_acts, S0_imaged, S0_length, S0_fault, S0_traced, S0_spot, S0_begins, S0_token, S0_number, S0_readPoints, S0_readHome, S0_readMen, S0_otherOne, S0_otherKind, S0_items, S0_lanes, S0_sizes, S0_firms, S0_kinds, S0_now, S0_before, S0_images, S0_tape, S0_trace, S0_readFirms, S0_readKinds, S0_readAt, S0_rows, S0_bests)) _ _ _ _ _ hM (Or.inl ⟨rfl, rfl, _, rfl⟩) (X.d (k := 9) rfl) Y
  · replace hM := mI hM c1
    refine r_ldc (pc' := 9) X mw684 3 rfl rfl ?_
    exact RT ((-1000002 : Int32), (S0_status, S0_points, S0_home, S0_men, S0_hasTable, S0_acts, S0_imaged, S0_length, S0_fault, S0_traced, S0_spot, S0_begins, S0_token, S0_number, S0_readPoints, S0_readHome, S0_readMen, S0_otherOne, S0_otherKind, S0_items, S0_lanes, S0_sizes, S0_firms, S0_kinds, S0_now, S0_before, S0_images, S0_tape, S0_trace, S0_readFirms, S0_readKinds, S0_readAt, S0_rows, S0_bests)) _ _ _ _ _ hM (Or.inl ⟨rfl, rfl, _, rfl⟩) (X.d (k := 4) rfl) Y

def M_X8_move (S0 : MS) (i1 : Int32) (i2 : Int32) : Option (Int32 × MS) :=
  ((M_X8_isMan S0 i1).bind (fun u1 => (if u1 = 0 then (some ((-1000001 : Int32), S0)) else ((M_X8_isThrow i2).bind (fun u3 => (if u3 = 0 then (some ((-1000001 : Int32), S0)) else ((M_X8_wonNow S0).bind (fun u5 => (if u5.1 = (-1000000 : Int32) then (if inb i1 8 = true then (if ((ms_firms u5.2) (i1).toNatClampNeg) = ((ms_now u5.2) ((8 : Int32)).toNatClampNeg) then ((M_X8_can u5.2 (0 : Int32) i1 i2).bind (fun u9 => (if u9 = 0 then (some ((-1000002 : Int32), u5.2)) else (if ((ms_now u5.2) ((11 : Int32)).toNatClampNeg) = (999 : Int32) then (some ((-1000003 : Int32), u5.2)) else ((M_X8_note u5.2).bind (fun u12 => ((M_X8_goMan u12 (0 : Int32) i1 i2).bind (fun u13 => ((M_X8_goTurn u13 (0 : Int32)).bind (fun u14 => ((M_X8_take u14).bind (fun u15 => (if inb i1 12 = true then (if ((ms_now u15) (i1).toNatClampNeg) = (99 : Int32) then (some ((ms_points u15), u15)) else (some (((ms_now u15) (i1).toNatClampNeg), u15))) else none))))))))))))) else (some ((-1000002 : Int32), u5.2))) else none) else (some ((-1000002 : Int32), u5.2)))))))))))
def q_X8_move : Room := { frames := 5, cells := 0, slots := 0, locals := 157 }
set_option maxHeartbeats 4000000 in
set_option maxRecDepth 100000 in
theorem c_X8_move (l : Launch) (G : gT) (h h_items h_lanes h_sizes h_firms h_kinds h_now h_before h_images h_tape h_trace h_readFirms h_readKinds h_readAt h_rows h_bests : Nat) (S0_status : Int32) (S0_points : Int32) (S0_home : Int32) (S0_men : Int32) (S0_hasTable : Int32) (S0_acts : Int32) (S0_imaged : Int32) (S0_length : Int32) (S0_fault : Int32) (S0_traced : Int32) (S0_spot : Int32) (S0_begins : Int32) (S0_token : Int32) (S0_number : Int32) (S0_readPoints : Int32) (S0_readHome : Int32) (S0_readMen : Int32) (S0_otherOne : Int32) (S0_otherKind : Int32) (S0_items : Nat → Int32) (S0_lanes : Nat → Int32) (S0_sizes : Nat → Int32) (S0_firms : Nat → Int32) (S0_kinds : Nat → Int32) (S0_now : Nat → Int32) (S0_before : Nat → Int32) (S0_images : Nat → Int32) (S0_tape : Nat → Int32) (S0_trace : Nat → Int32) (S0_readFirms : Nat → Int32) (S0_readKinds : Nat → Int32) (S0_readAt : Nat → Int32) (S0_rows : Nat → Int32) (S0_bests : Nat → Int32) (i1 : Int32) (i2 : Int32) : CT l G yX8_move cX8_move 3 (some .int) q_X8_move [.ref h, .int i1, .int i2] (wMS G h h_items h_lanes h_sizes h_firms h_kinds h_now h_before h_images h_tape h_trace h_readFirms h_readKinds h_readAt h_rows h_bests S0_status S0_points S0_home S0_men S0_hasTable S0_acts S0_imaged S0_length S0_fault S0_traced S0_spot S0_begins S0_token S0_number S0_readPoints S0_readHome S0_readMen S0_otherOne S0_otherKind S0_items S0_lanes S0_sizes S0_firms S0_kinds S0_now S0_before S0_images S0_tape S0_trace S0_readFirms S0_readKinds S0_readAt S0_rows S0_bests) (M_X8_move (S0_status, S0_points, S0_home, S0_men, S0_hasTable, S0_acts, S0_imaged, S0_length, S0_fault, S0_traced, S0_spot, S0_begins, S0_token, S0_number, S0_readPoints, S0_readHome, S0_readMen, S0_otherOne, S0_otherKind, S0_items, S0_lanes, S0_sizes, S0_firms, S0_kinds, S0_now, S0_before, S0_images, S0_tape, S0_trace, S0_readFirms, S0_readKinds, S0_readAt, S0_rows, S0_bests) i1 i2) (fun u => some (.int u.1)) (fun u => wMS G h h_items h_lanes h_sizes h_firms h_kinds h_now h_before h_images h_tape h_trace h_readFirms h_readKinds h_readAt h_rows h_bests u.2.1 u.2.2.1 u.2.2.2.1 u.2.2.2.2.1 u.2.2.2.2.2.1 u.2.2.2.2.2.2.1 u.2.2.2.2.2.2.2.1 u.2.2.2.2.2.2.2.2.1 u.2.2.2.2.2.2.2.2.2.1 u.2.2.2.2.2.2.2.2.2.2.1 u.2.2.2.2.2.2.2.2.2.2.2.1 u.2.2.2.2.2.2.2.2.2.2.2.2.1 u.2.2.2.2.2.2.2.2.2.2.2.2.2.1 u.2.2.2.2.2.2.2.2.2.2.2.2.2.2.1 u.2.2.2.2.2.2.2.2.2.2.2.2.2.2.2.1 u.2.2.2.2.2.2.2.2.2.2.2.2.2.2.2.2.1 u.2.2.2.2.2.2.2.2.2.2.2.2.2.2.2.2.2.1 u.2.2.2.2.2.2.2.2.2.2.2.2.2.2.2.2.2.2.1 u.2.2.2.2.2.2.2.2.2.2.2.2.2.2.2.2.2.2.2.1 u.2.2.2.2.2.2.2.2.2.2.2.2.2.2.2.2.2.2.2.2.1 u.2.2.2.2.2.2.2.2.2.2.2.2.2.2.2.2.2.2.2.2.2.1 u.2.2.2.2.2.2.2.2.2.2.2.2.2.2.2.2.2.2.2.2.2.2.1 u.2.2.2.2.2.2.2.2.2.2.2.2.2.2.2.2.2.2.2.2.2.2.2.1 u.2.2.2.2.2.2.2.2.2.2.2.2.2.2.2.2.2.2.2.2.2.2.2.2.1 u.2.2.2.2.2.2.2.2.2.2.2.2.2.2.2.2.2.2.2.2.2.2.2.2.2.1 u.2.2.2.2.2.2.2.2.2.2.2.2.2.2.2.2.2.2.2.2.2.2.2.2.2.2.1 u.2.2.2.2.2.2.2.2.2.2.2.2.2.2.2.2.2.2.2.2.2.2.2.2.2.2.2.1 u.2.2.2.2.2.2.2.2.2.2.2.2.2.2.2.2.2.2.2.2.2.2.2.2.2.2.2.2.1 u.2.2.2.2.2.2.2.2.2.2.2.2.2.2.2.2.2.2.2.2.2.2.2.2.2.2.2.2.2.1 u.2.2.2.2.2.2.2.2.2.2.2.2.2.2.2.2.2.2.2.2.2.2.2.2.2.2.2.2.2.2.1 u.2.2.2.2.2.2.2.2.2.2.2.2.2.2.2.2.2.2.2.2.2.2.2.2.2.2.2.2.2.2.2.1 u.2.2.2.2.2.2.2.2.2.2.2.2.2.2.2.2.2.2.2.2.2.2.2.2.2.2.2.2.2.2.2.2.1 u.2.2.2.2.2.2.2.2.2.2.2.2.2.2.2.2.2.2.2.2.2.2.2.2.2.2.2.2.2.2.2.2.2.1 u.2.2.2.2.2.2.2.2.2.2.2.2.2.2.2.2.2.2.2.2.2.2.2.2.2.2.2.2.2.2.2.2.2.2) := by
  refine CT.of (P := PX8_move) (by decide) dPX8_move (Nat.le_of_ble_eq_true rfl) ?_
  intro p e s m args below meth c A Q ls hne X RT Y hl
  have hl : lv_has ls 3 [(0, .ref h), (1, .int i1), (2, .int i2)] := hl
  generalize hM : M_X8_move (S0_status, S0_points, S0_home, S0_men, S0_hasTable, S0_acts, S0_imaged, S0_length, S0_fault, S0_traced, S0_spot, S0_begins, S0_token, S0_number, S0_readPoints, S0_readHome, S0_readMen, S0_otherOne, S0_otherKind, S0_items, S0_lanes, S0_sizes, S0_firms, S0_kinds, S0_now, S0_before, S0_images, S0_tape, S0_trace, S0_readFirms, S0_readKinds, S0_readAt, S0_rows, S0_bests) i1 i2 = MM at hne RT
  unfold M_X8_move at hM
  refine r_aload_n (pc' := 1) X hl 0 rfl rfl 0 rfl rfl ?_
  refine r_iload_n (pc' := 2) X hl 1 rfl rfl 1 rfl rfl ?_
  refine r_callV0 (pc' := 5) (As := [.int i1]) (rest := []) X Y 2 rfl rfl mRX8_240 (c_X8_isMan l G h h_items h_lanes h_sizes h_firms h_kinds h_now h_before h_images h_tape h_trace h_readFirms h_readKinds h_readAt h_rows h_bests S0_status S0_points S0_home S0_men S0_hasTable S0_acts S0_imaged S0_length S0_fault S0_traced S0_spot S0_begins S0_token S0_number S0_readPoints S0_readHome S0_readMen S0_otherOne S0_otherKind S0_items S0_lanes S0_sizes S0_firms S0_kinds S0_now S0_before S0_images S0_tape S0_trace S0_readFirms S0_readKinds S0_readAt S0_rows S0_bests i1) (mB hM hne) 0 rfl rfl [0, 1, 2, 3, 4, 5, 6, 7, 8, 9, 10, 11, 12, 13, 14, 15] rfl rfl rfl (Nat.le_of_ble_eq_true rfl) ⟨rfl, rfl⟩ ⟨Nat.le_of_ble_eq_true rfl, Nat.le_of_ble_eq_true rfl⟩ ⟨Nat.zero_le _, Nat.zero_le _⟩ hl.1 (st' := fun u1 => [.int u1]) (fun _ => rfl) (fun u1 H locs huu1 Y => ?_)
  replace hM := mS hM huu1
  refine r_if_eq (pc' := 8) X 15 3 rfl rfl (by decide) (fun c2 => ?_) (fun c2 => ?_)
  · replace hM := mI hM c2
    refine r_ldc (pc' := 17) X mw542 7 rfl rfl ?_
    exact RT ((-1000001 : Int32), (S0_status, S0_points, S0_home, S0_men, S0_hasTable, S0_acts, S0_imaged, S0_length, S0_fault, S0_traced, S0_spot, S0_begins, S0_token, S0_number, S0_readPoints, S0_readHome, S0_readMen, S0_otherOne, S0_otherKind, S0_items, S0_lanes, S0_sizes, S0_firms, S0_kinds, S0_now, S0_before, S0_images, S0_tape, S0_trace, S0_readFirms, S0_readKinds, S0_readAt, S0_rows, S0_bests)) _ _ _ _ _ hM (Or.inl ⟨rfl, rfl, _, rfl⟩) (X.d (k := 8) rfl) Y
  · replace hM := mE hM c2
    refine r_iload_n (pc' := 9) X hl 2 rfl rfl 4 rfl rfl ?_
    refine r_callS0 (pc' := 12) (As := [.int i2]) (rest := []) X Y 5 rfl rfl mRX8_225 (c_X8_isThrow l G i2) (mB hM hne) rfl [] rfl rfl rfl (Nat.le_of_ble_eq_true rfl) ⟨rfl, rfl⟩ ⟨Nat.le_of_ble_eq_true rfl, Nat.le_of_ble_eq_true rfl⟩ ⟨Nat.zero_le _, Nat.zero_le _⟩ hl.1 (st' := fun u3 => [.int u3]) (fun _ => rfl) (fun u3 H locs huu3 Y => ?_)
    replace hM := mS hM huu3
    refine r_if_ne (pc' := 15) X 18 6 rfl rfl (by decide) (fun c4 => ?_) (fun c4 => ?_)
    · replace hM := mE hM c4
      refine r_aload_n (pc' := 19) X hl 0 rfl rfl 9 rfl rfl ?_
      refine r_callV (pc' := 22) (As := []) (rest := []) (wr := ([] : va_W)) X Y 10 rfl rfl mRX8_228 (c_X8_wonNow l G h h_items h_lanes h_sizes h_firms h_kinds h_now h_before h_images h_tape h_trace h_readFirms h_readKinds h_readAt h_rows h_bests S0_status S0_points S0_home S0_men S0_hasTable S0_acts S0_imaged S0_length S0_fault S0_traced S0_spot S0_begins S0_token S0_number S0_readPoints S0_readHome S0_readMen S0_otherOne S0_otherKind S0_items S0_lanes S0_sizes S0_firms S0_kinds S0_now S0_before S0_images S0_tape S0_trace S0_readFirms S0_readKinds S0_readAt S0_rows S0_bests) (mB hM hne) 0 rfl rfl [0, 1, 2, 3, 4, 5, 6, 7, 8, 9, 10, 11, 12, 13, 14, 15] [] [0, 1, 2, 3, 4, 5, 6, 7, 8, 9, 10, 11, 12, 13, 14, 15] rfl rfl ⟨rfl, rfl, rfl⟩ rfl (w2 := fun u5 => wMS G h h_items h_lanes h_sizes h_firms h_kinds h_now h_before h_images h_tape h_trace h_readFirms h_readKinds h_readAt h_rows h_bests u5.2.1 u5.2.2.1 u5.2.2.2.1 u5.2.2.2.2.1 u5.2.2.2.2.2.1 u5.2.2.2.2.2.2.1 u5.2.2.2.2.2.2.2.1 u5.2.2.2.2.2.2.2.2.1 u5.2.2.2.2.2.2.2.2.2.1 u5.2.2.2.2.2.2.2.2.2.2.1 u5.2.2.2.2.2.2.2.2.2.2.2.1 u5.2.2.2.2.2.2.2.2.2.2.2.2.1 u5.2.2.2.2.2.2.2.2.2.2.2.2.2.1 u5.2.2.2.2.2.2.2.2.2.2.2.2.2.2.1 u5.2.2.2.2.2.2.2.2.2.2.2.2.2.2.2.1 u5.2.2.2.2.2.2.2.2.2.2.2.2.2.2.2.2.1 u5.2.2.2.2.2.2.2.2.2.2.2.2.2.2.2.2.2.1 u5.2.2.2.2.2.2.2.2.2.2.2.2.2.2.2.2.2.2.1 u5.2.2.2.2.2.2.2.2.2.2.2.2.2.2.2.2.2.2.2.1 u5.2.2.2.2.2.2.2.2.2.2.2.2.2.2.2.2.2.2.2.2.1 u5.2.2.2.2.2.2.2.2.2.2.2.2.2.2.2.2.2.2.2.2.2.1 u5.2.2.2.2.2.2.2.2.2.2.2.2.2.2.2.2.2.2.2.2.2.2.1 u5.2.2.2.2.2.2.2.2.2.2.2.2.2.2.2.2.2.2.2.2.2.2.2.1 u5.2.2.2.2.2.2.2.2.2.2.2.2.2.2.2.2.2.2.2.2.2.2.2.2.1 u5.2.2.2.2.2.2.2.2.2.2.2.2.2.2.2.2.2.2.2.2.2.2.2.2.2.1 u5.2.2.2.2.2.2.2.2.2.2.2.2.2.2.2.2.2.2.2.2.2.2.2.2.2.2.1 u5.2.2.2.2.2.2.2.2.2.2.2.2.2.2.2.2.2.2.2.2.2.2.2.2.2.2.2.1 u5.2.2.2.2.2.2.2.2.2.2.2.2.2.2.2.2.2.2.2.2.2.2.2.2.2.2.2.2.1 u5.2.2.2.2.2.2.2.2.2.2.2.2.2.2.2.2.2.2.2.2.2.2.2.2.2.2.2.2.2.1 u5.2.2.2.2.2.2.2.2.2.2.2.2.2.2.2.2.2.2.2.2.2.2.2.2.2.2.2.2.2.2.1 u5.2.2.2.2.2.2.2.2.2.2.2.2.2.2.2.2.2.2.2.2.2.2.2.2.2.2.2.2.2.2.2.1 u5.2.2.2.2.2.2.2.2.2.2.2.2.2.2.2.2.2.2.2.2.2.2.2.2.2.2.2.2.2.2.2.2.1 u5.2.2.2.2.2.2.2.2.2.2.2.2.2.2.2.2.2.2.2.2.2.2.2.2.2.2.2.2.2.2.2.2.2.1 u5.2.2.2.2.2.2.2.2.2.2.2.2.2.2.2.2.2.2.2.2.2.2.2.2.2.2.2.2.2.2.2.2.2.2) (fun _ => rfl) rfl (Nat.le_of_ble_eq_true rfl) ⟨rfl, rfl⟩ ⟨Nat.le_of_ble_eq_true rfl, Nat.le_of_ble_eq_true rfl⟩ ⟨Nat.zero_le _, Nat.zero_le _⟩ hl.1 (st' := fun u5 => [.int u5.1]) (fun _ => rfl) (fun u5 H locs huu5 Y => ?_)
      obtain ⟨u5_1, ⟨u5_2_status, u5_2_points, u5_2_home, u5_2_men, u5_2_hasTable, u5_2_acts, u5_2_imaged, u5_2_length, u5_2_fault, u5_2_traced, u5_2_spot, u5_2_begins, u5_2_token, u5_2_number, u5_2_readPoints, u5_2_readHome, u5_2_readMen, u5_2_otherOne, u5_2_otherKind, u5_2_items, u5_2_lanes, u5_2_sizes, u5_2_firms, u5_2_kinds, u5_2_now, u5_2_before, u5_2_images, u5_2_tape, u5_2_trace, u5_2_readFirms, u5_2_readKinds, u5_2_readAt, u5_2_rows, u5_2_bests⟩⟩ := u5
      replace Y : rY G A s (wMS G h h_items h_lanes h_sizes h_firms h_kinds h_now h_before h_images h_tape h_trace h_readFirms h_readKinds h_readAt h_rows h_bests u5_2_status u5_2_points u5_2_home u5_2_men u5_2_hasTable u5_2_acts u5_2_imaged u5_2_length u5_2_fault u5_2_traced u5_2_spot u5_2_begins u5_2_token u5_2_number u5_2_readPoints u5_2_readHome u5_2_readMen u5_2_otherOne u5_2_otherKind u5_2_items u5_2_lanes u5_2_sizes u5_2_firms u5_2_kinds u5_2_now u5_2_before u5_2_images u5_2_tape u5_2_trace u5_2_readFirms u5_2_readKinds u5_2_readAt u5_2_rows u5_2_bests) H locs := Y
      replace hM := mS hM huu5
      show W p l e q_X8_move s m args below meth c H locs 0 0 Q (F0 m 22 ls [.int u5_1])
      refine r_ldc (pc' := 24) X mw526 11 rfl rfl ?_
      refine r_icmp_ne (pc' := 27) X 53 12 rfl rfl (by decide) (fun c6 => ?_) (fun c6 => ?_)
      · replace hM := mE hM c6
        refine r_ldc (pc' := 55) X mw684 28 rfl rfl ?_
        exact RT ((-1000002 : Int32), (u5_2_status, u5_2_points, u5_2_home, u5_2_men, u5_2_hasTable, u5_2_acts, u5_2_imaged, u5_2_length, u5_2_fault, u5_2_traced, u5_2_spot, u5_2_begins, u5_2_token, u5_2_number, u5_2_readPoints, u5_2_readHome, u5_2_readMen, u5_2_otherOne, u5_2_otherKind, u5_2_items, u5_2_lanes, u5_2_sizes, u5_2_firms, u5_2_kinds, u5_2_now, u5_2_before, u5_2_images, u5_2_tape, u5_2_trace, u5_2_readFirms, u5_2_readKinds, u5_2_readAt, u5_2_rows, u5_2_bests)) _ _ _ _ _ hM (Or.inl ⟨rfl, rfl, _, rfl⟩) (X.d (k := 29) rfl) Y
      · replace hM := mI hM c6
        refine r_aload_n (pc' := 28) X hl 0 rfl rfl 13 rfl rfl ?_
        refine r_get (pc' := 31) (v := .ref h_firms) X Y 14 rfl rfl fRX8_19 0 rfl rfl ?_
        refine r_iload_n (pc' := 32) X hl 1 rfl rfl 15 rfl rfl ?_
        obtain ⟨g7, hM⟩ := mG hM hne
        refine r_iald (pc' := 33) X Y 16 rfl rfl 4 rfl (vin g7) ?_
        refine r_aload_n (pc' := 34) X hl 0 rfl rfl 17 rfl rfl ?_
        refine r_get (pc' := 37) (v := .ref h_now) X Y 18 rfl rfl fRX8_25 0 rfl rfl ?_
        refine r_bipush (pc' := 39) X (8 : Int32) 19 rfl rfl rfl ?_
        refine r_iald (pc' := 40) X Y 20 rfl rfl 6 rfl (vin rfl) ?_
        refine r_icmp_ne (pc' := 43) X 53 21 rfl rfl (by decide) (fun c8 => ?_) (fun c8 => ?_)
        · replace hM := mE hM c8
          refine r_ldc (pc' := 55) X mw684 28 rfl rfl ?_
          exact RT ((-1000002 : Int32), (u5_2_status, u5_2_points, u5_2_home, u5_2_men, u5_2_hasTable, u5_2_acts, u5_2_imaged, u5_2_length, u5_2_fault, u5_2_traced, u5_2_spot, u5_2_begins, u5_2_token, u5_2_number, u5_2_readPoints, u5_2_readHome, u5_2_readMen, u5_2_otherOne, u5_2_otherKind, u5_2_items, u5_2_lanes, u5_2_sizes, u5_2_firms, u5_2_kinds, u5_2_now, u5_2_before, u5_2_images, u5_2_tape, u5_2_trace, u5_2_readFirms, u5_2_readKinds, u5_2_readAt, u5_2_rows, u5_2_bests)) _ _ _ _ _ hM (Or.inl ⟨rfl, rfl, _, rfl⟩) (X.d (k := 29) rfl) Y
        · replace hM := mI hM c8
          refine r_aload_n (pc' := 44) X hl 0 rfl rfl 22 rfl rfl ?_
          refine r_iconst (pc' := 45) X (0 : Int32) 23 rfl rfl rfl ?_
          refine r_iload_n (pc' := 46) X hl 1 rfl rfl 24 rfl rfl ?_
          refine r_iload_n (pc' := 47) X hl 2 rfl rfl 25 rfl rfl ?_
          refine r_callV0 (pc' := 50) (As := [.int (0 : Int32), .int i1, .int i2]) (rest := []) X Y 26 rfl rfl mRX8_199 (c_X8_can l G h h_items h_lanes h_sizes h_firms h_kinds h_now h_before h_images h_tape h_trace h_readFirms h_readKinds h_readAt h_rows h_bests u5_2_status u5_2_points u5_2_home u5_2_men u5_2_hasTable u5_2_acts u5_2_imaged u5_2_length u5_2_fault u5_2_traced u5_2_spot u5_2_begins u5_2_token u5_2_number u5_2_readPoints u5_2_readHome u5_2_readMen u5_2_otherOne u5_2_otherKind u5_2_items u5_2_lanes u5_2_sizes u5_2_firms u5_2_kinds u5_2_now u5_2_before u5_2_images u5_2_tape u5_2_trace u5_2_readFirms u5_2_readKinds u5_2_readAt u5_2_rows u5_2_bests (0 : Int32) i1 i2) (mB hM hne) 0 rfl rfl [0, 1, 2, 3, 4, 5, 6, 7, 8, 9, 10, 11, 12, 13, 14, 15] rfl rfl rfl (Nat.le_of_ble_eq_true rfl) ⟨rfl, rfl⟩ ⟨Nat.le_of_ble_eq_true rfl, Nat.le_of_ble_eq_true rfl⟩ ⟨Nat.zero_le _, Nat.zero_le _⟩ hl.1 (st' := fun u9 => [.int u9]) (fun _ => rfl) (fun u9 H locs huu9 Y => ?_)
          replace hM := mS hM huu9
          refine r_if_ne (pc' := 53) X 56 27 rfl rfl (by decide) (fun c10 => ?_) (fun c10 => ?_)
          · replace hM := mE hM c10
            refine r_aload_n (pc' := 57) X hl 0 rfl rfl 30 rfl rfl ?_
            refine r_get (pc' := 60) (v := .ref h_now) X Y 31 rfl rfl fRX8_25 0 rfl rfl ?_
            refine r_bipush (pc' := 62) X (11 : Int32) 32 rfl rfl rfl ?_
            refine r_iald (pc' := 63) X Y 33 rfl rfl 6 rfl (vin rfl) ?_
            refine r_sipush (pc' := 66) X (999 : Int32) 34 rfl rfl rfl ?_
            refine r_icmp_ne (pc' := 69) X 72 35 rfl rfl (by decide) (fun c11 => ?_) (fun c11 => ?_)
            · replace hM := mE hM c11
              refine r_aload_n (pc' := 73) X hl 0 rfl rfl 38 rfl rfl ?_
              refine r_callV (pc' := 76) (As := []) (rest := []) (wr := ([] : va_W)) X Y 39 rfl rfl mRX8_231 (c_X8_note l G h h_items h_lanes h_sizes h_firms h_kinds h_now h_before h_images h_tape h_trace h_readFirms h_readKinds h_readAt h_rows h_bests u5_2_status u5_2_points u5_2_home u5_2_men u5_2_hasTable u5_2_acts u5_2_imaged u5_2_length u5_2_fault u5_2_traced u5_2_spot u5_2_begins u5_2_token u5_2_number u5_2_readPoints u5_2_readHome u5_2_readMen u5_2_otherOne u5_2_otherKind u5_2_items u5_2_lanes u5_2_sizes u5_2_firms u5_2_kinds u5_2_now u5_2_before u5_2_images u5_2_tape u5_2_trace u5_2_readFirms u5_2_readKinds u5_2_readAt u5_2_rows u5_2_bests) (mB hM hne) 0 rfl rfl [0, 1, 2, 3, 4, 5, 6, 7, 8, 9, 10, 11, 12, 13, 14, 15] [] [0, 1, 2, 3, 4, 5, 6, 7, 8, 9, 10, 11, 12, 13, 14, 15] rfl rfl ⟨rfl, rfl, rfl⟩ rfl (w2 := fun u12 => wMS G h h_items h_lanes h_sizes h_firms h_kinds h_now h_before h_images h_tape h_trace h_readFirms h_readKinds h_readAt h_rows h_bests u12.1 u12.2.1 u12.2.2.1 u12.2.2.2.1 u12.2.2.2.2.1 u12.2.2.2.2.2.1 u12.2.2.2.2.2.2.1 u12.2.2.2.2.2.2.2.1 u12.2.2.2.2.2.2.2.2.1 u12.2.2.2.2.2.2.2.2.2.1 u12.2.2.2.2.2.2.2.2.2.2.1 u12.2.2.2.2.2.2.2.2.2.2.2.1 u12.2.2.2.2.2.2.2.2.2.2.2.2.1 u12.2.2.2.2.2.2.2.2.2.2.2.2.2.1 u12.2.2.2.2.2.2.2.2.2.2.2.2.2.2.1 u12.2.2.2.2.2.2.2.2.2.2.2.2.2.2.2.1 u12.2.2.2.2.2.2.2.2.2.2.2.2.2.2.2.2.1 u12.2.2.2.2.2.2.2.2.2.2.2.2.2.2.2.2.2.1 u12.2.2.2.2.2.2.2.2.2.2.2.2.2.2.2.2.2.2.1 u12.2.2.2.2.2.2.2.2.2.2.2.2.2.2.2.2.2.2.2.1 u12.2.2.2.2.2.2.2.2.2.2.2.2.2.2.2.2.2.2.2.2.1 u12.2.2.2.2.2.2.2.2.2.2.2.2.2.2.2.2.2.2.2.2.2.1 u12.2.2.2.2.2.2.2.2.2.2.2.2.2.2.2.2.2.2.2.2.2.2.1 u12.2.2.2.2.2.2.2.2.2.2.2.2.2.2.2.2.2.2.2.2.2.2.2.1 u12.2.2.2.2.2.2.2.2.2.2.2.2.2.2.2.2.2.2.2.2.2.2.2.2.1 u12.2.2.2.2.2.2.2.2.2.2.2.2.2.2.2.2.2.2.2.2.2.2.2.2.2.1 u12.2.2.2.2.2.2.2.2.2.2.2.2.2.2.2.2.2.2.2.2.2.2.2.2.2.2.1 u12.2.2.2.2.2.2.2.2.2.2.2.2.2.2.2.2.2.2.2.2.2.2.2.2.2.2.2.1 u12.2.2.2.2.2.2.2.2.2.2.2.2.2.2.2.2.2.2.2.2.2.2.2.2.2.2.2.2.1 u12.2.2.2.2.2.2.2.2.2.2.2.2.2.2.2.2.2.2.2.2.2.2.2.2.2.2.2.2.2.1 u12.2.2.2.2.2.2.2.2.2.2.2.2.2.2.2.2.2.2.2.2.2.2.2.2.2.2.2.2.2.2.1 u12.2.2.2.2.2.2.2.2.2.2.2.2.2.2.2.2.2.2.2.2.2.2.2.2.2.2.2.2.2.2.2.1 u12.2.2.2.2.2.2.2.2.2.2.2.2.2.2.2.2.2.2.2.2.2.2.2.2.2.2.2.2.2.2.2.2.1 u12.2.2.2.2.2.2.2.2.2.2.2.2.2.2.2.2.2.2.2.2.2.2.2.2.2.2.2.2.2.2.2.2.2) (fun _ => rfl) rfl (Nat.le_of_ble_eq_true rfl) ⟨rfl, rfl⟩ ⟨Nat.le_of_ble_eq_true rfl, Nat.le_of_ble_eq_true rfl⟩ ⟨Nat.zero_le _, Nat.zero_le _⟩ hl.1 (st' := fun u12 => []) (fun _ => rfl) (fun u12 H locs huu12 Y => ?_)
              obtain ⟨u12_status, u12_points, u12_home, u12_men, u12_hasTable, u12_acts, u12_imaged, u12_length, u12_fault, u12_traced, u12_spot, u12_begins, u12_token, u12_number, u12_readPoints, u12_readHome, u12_readMen, u12_otherOne, u12_otherKind, u12_items, u12_lanes, u12_sizes, u12_firms, u12_kinds, u12_now, u12_before, u12_images, u12_tape, u12_trace, u12_readFirms, u12_readKinds, u12_readAt, u12_rows, u12_bests⟩ := u12
              replace Y : rY G A s (wMS G h h_items h_lanes h_sizes h_firms h_kinds h_now h_before h_images h_tape h_trace h_readFirms h_readKinds h_readAt h_rows h_bests u12_status u12_points u12_home u12_men u12_hasTable u12_acts u12_imaged u12_length u12_fault u12_traced u12_spot u12_begins u12_token u12_number u12_readPoints u12_readHome u12_readMen u12_otherOne u12_otherKind u12_items u12_lanes u12_sizes u12_firms u12_kinds u12_now u12_before u12_images u12_tape u12_trace u12_readFirms u12_readKinds u12_readAt u12_rows u12_bests) H locs := Y
              replace hM := mS hM huu12
              show W p l e q_X8_move s m args below meth c H locs 0 0 Q (F0 m 76 ls [])
              refine r_aload_n (pc' := 77) X hl 0 rfl rfl 40 rfl rfl ?_
              refine r_iconst (pc' := 78) X (0 : Int32) 41 rfl rfl rfl ?_
              refine r_iload_n (pc' := 79) X hl 1 rfl rfl 42 rfl rfl ?_
              refine r_iload_n (pc' := 80) X hl 2 rfl rfl 43 rfl rfl ?_
              refine r_callV (pc' := 83) (As := [.int (0 : Int32), .int i1, .int i2]) (rest := []) (wr := ([] : va_W)) X Y 44 rfl rfl mRX8_212 (c_X8_goMan l G h h_items h_lanes h_sizes h_firms h_kinds h_now h_before h_images h_tape h_trace h_readFirms h_readKinds h_readAt h_rows h_bests u12_status u12_points u12_home u12_men u12_hasTable u12_acts u12_imaged u12_length u12_fault u12_traced u12_spot u12_begins u12_token u12_number u12_readPoints u12_readHome u12_readMen u12_otherOne u12_otherKind u12_items u12_lanes u12_sizes u12_firms u12_kinds u12_now u12_before u12_images u12_tape u12_trace u12_readFirms u12_readKinds u12_readAt u12_rows u12_bests (0 : Int32) i1 i2) (mB hM hne) 0 rfl rfl [0, 1, 2, 3, 4, 5, 6, 7, 8, 9, 10, 11, 12, 13, 14, 15] [] [0, 1, 2, 3, 4, 5, 6, 7, 8, 9, 10, 11, 12, 13, 14, 15] rfl rfl ⟨rfl, rfl, rfl⟩ rfl (w2 := fun u13 => wMS G h h_items h_lanes h_sizes h_firms h_kinds h_now h_before h_images h_tape h_trace h_readFirms h_readKinds h_readAt h_rows h_bests u13.1 u13.2.1 u13.2.2.1 u13.2.2.2.1 u13.2.2.2.2.1 u13.2.2.2.2.2.1 u13.2.2.2.2.2.2.1 u13.2.2.2.2.2.2.2.1 u13.2.2.2.2.2.2.2.2.1 u13.2.2.2.2.2.2.2.2.2.1 u13.2.2.2.2.2.2.2.2.2.2.1 u13.2.2.2.2.2.2.2.2.2.2.2.1 u13.2.2.2.2.2.2.2.2.2.2.2.2.1 u13.2.2.2.2.2.2.2.2.2.2.2.2.2.1 u13.2.2.2.2.2.2.2.2.2.2.2.2.2.2.1 u13.2.2.2.2.2.2.2.2.2.2.2.2.2.2.2.1 u13.2.2.2.2.2.2.2.2.2.2.2.2.2.2.2.2.1 u13.2.2.2.2.2.2.2.2.2.2.2.2.2.2.2.2.2.1 u13.2.2.2.2.2.2.2.2.2.2.2.2.2.2.2.2.2.2.1 u13.2.2.2.2.2.2.2.2.2.2.2.2.2.2.2.2.2.2.2.1 u13.2.2.2.2.2.2.2.2.2.2.2.2.2.2.2.2.2.2.2.2.1 u13.2.2.2.2.2.2.2.2.2.2.2.2.2.2.2.2.2.2.2.2.2.1 u13.2.2.2.2.2.2.2.2.2.2.2.2.2.2.2.2.2.2.2.2.2.2.1 u13.2.2.2.2.2.2.2.2.2.2.2.2.2.2.2.2.2.2.2.2.2.2.2.1 u13.2.2.2.2.2.2.2.2.2.2.2.2.2.2.2.2.2.2.2.2.2.2.2.2.1 u13.2.2.2.2.2.2.2.2.2.2.2.2.2.2.2.2.2.2.2.2.2.2.2.2.2.1 u13.2.2.2.2.2.2.2.2.2.2.2.2.2.2.2.2.2.2.2.2.2.2.2.2.2.2.1 u13.2.2.2.2.2.2.2.2.2.2.2.2.2.2.2.2.2.2.2.2.2.2.2.2.2.2.2.1 u13.2.2.2.2.2.2.2.2.2.2.2.2.2.2.2.2.2.2.2.2.2.2.2.2.2.2.2.2.1 u13.2.2.2.2.2.2.2.2.2.2.2.2.2.2.2.2.2.2.2.2.2.2.2.2.2.2.2.2.2.1 u13.2.2.2.2.2.2.2.2.2.2.2.2.2.2.2.2.2.2.2.2.2.2.2.2.2.2.2.2.2.2.1 u13.2.2.2.2.2.2.2.2.2.2.2.2.2.2.2.2.2.2.2.2.2.2.2.2.2.2.2.2.2.2.2.1 u13.2.2.2.2.2.2.2.2.2.2.2.2.2.2.2.2.2.2.2.2.2.2.2.2.2.2.2.2.2.2.2.2.1 u13.2.2.2.2.2.2.2.2.2.2.2.2.2.2.2.2.2.2.2.2.2.2.2.2.2.2.2.2.2.2.2.2.2) (fun _ => rfl) rfl (Nat.le_of_ble_eq_true rfl) ⟨rfl, rfl⟩ ⟨Nat.le_of_ble_eq_true rfl, Nat.le_of_ble_eq_true rfl⟩ ⟨Nat.zero_le _, Nat.zero_le _⟩ hl.1 (st' := fun u13 => []) (fun _ => rfl) (fun u13 H locs huu13 Y => ?_)
              obtain ⟨u13_status, u13_points, u13_home, u13_men, u13_hasTable, u13_acts, u13_imaged, u13_length, u13_fault, u13_traced, u13_spot, u13_begins, u13_token, u13_number, u13_readPoints, u13_readHome, u13_readMen, u13_otherOne, u13_otherKind, u13_items, u13_lanes, u13_sizes, u13_firms, u13_kinds, u13_now, u13_before, u13_images, u13_tape, u13_trace, u13_readFirms, u13_readKinds, u13_readAt, u13_rows, u13_bests⟩ := u13
              replace Y : rY G A s (wMS G h h_items h_lanes h_sizes h_firms h_kinds h_now h_before h_images h_tape h_trace h_readFirms h_readKinds h_readAt h_rows h_bests u13_status u13_points u13_home u13_men u13_hasTable u13_acts u13_imaged u13_length u13_fault u13_traced u13_spot u13_begins u13_token u13_number u13_readPoints u13_readHome u13_readMen u13_otherOne u13_otherKind u13_items u13_lanes u13_sizes u13_firms u13_kinds u13_now u13_before u13_images u13_tape u13_trace u13_readFirms u13_readKinds u13_readAt u13_rows u13_bests) H locs := Y
              replace hM := mS hM huu13
              show W p l e q_X8_move s m args below meth c H locs 0 0 Q (F0 m 83 ls [])
              refine r_aload_n (pc' := 84) X hl 0 rfl rfl 45 rfl rfl ?_
              refine r_iconst (pc' := 85) X (0 : Int32) 46 rfl rfl rfl ?_
              refine r_callV (pc' := 88) (As := [.int (0 : Int32)]) (rest := []) (wr := ([] : va_W)) X Y 47 rfl rfl mRX8_216 (c_X8_goTurn l G h h_items h_lanes h_sizes h_firms h_kinds h_now h_before h_images h_tape h_trace h_readFirms h_readKinds h_readAt h_rows h_bests u13_status u13_points u13_home u13_men u13_hasTable u13_acts u13_imaged u13_length u13_fault u13_traced u13_spot u13_begins u13_token u13_number u13_readPoints u13_readHome u13_readMen u13_otherOne u13_otherKind u13_items u13_lanes u13_sizes u13_firms u13_kinds u13_now u13_before u13_images u13_tape u13_trace u13_readFirms u13_readKinds u13_readAt u13_rows u13_bests (0 : Int32)) (mB hM hne) 0 rfl rfl [0, 1, 2, 3, 4, 5, 6, 7, 8, 9, 10, 11, 12, 13, 14, 15] [] [0, 1, 2, 3, 4, 5, 6, 7, 8, 9, 10, 11, 12, 13, 14, 15] rfl rfl ⟨rfl, rfl, rfl⟩ rfl (w2 := fun u14 => wMS G h h_items h_lanes h_sizes h_firms h_kinds h_now h_before h_images h_tape h_trace h_readFirms h_readKinds h_readAt h_rows h_bests u14.1 u14.2.1 u14.2.2.1 u14.2.2.2.1 u14.2.2.2.2.1 u14.2.2.2.2.2.1 u14.2.2.2.2.2.2.1 u14.2.2.2.2.2.2.2.1 u14.2.2.2.2.2.2.2.2.1 u14.2.2.2.2.2.2.2.2.2.1 u14.2.2.2.2.2.2.2.2.2.2.1 u14.2.2.2.2.2.2.2.2.2.2.2.1 u14.2.2.2.2.2.2.2.2.2.2.2.2.1 u14.2.2.2.2.2.2.2.2.2.2.2.2.2.1 u14.2.2.2.2.2.2.2.2.2.2.2.2.2.2.1 u14.2.2.2.2.2.2.2.2.2.2.2.2.2.2.2.1 u14.2.2.2.2.2.2.2.2.2.2.2.2.2.2.2.2.1 u14.2.2.2.2.2.2.2.2.2.2.2.2.2.2.2.2.2.1 u14.2.2.2.2.2.2.2.2.2.2.2.2.2.2.2.2.2.2.1 u14.2.2.2.2.2.2.2.2.2.2.2.2.2.2.2.2.2.2.2.1 u14.2.2.2.2.2.2.2.2.2.2.2.2.2.2.2.2.2.2.2.2.1 u14.2.2.2.2.2.2.2.2.2.2.2.2.2.2.2.2.2.2.2.2.2.1 u14.2.2.2.2.2.2.2.2.2.2.2.2.2.2.2.2.2.2.2.2.2.2.1 u14.2.2.2.2.2.2.2.2.2.2.2.2.2.2.2.2.2.2.2.2.2.2.2.1 u14.2.2.2.2.2.2.2.2.2.2.2.2.2.2.2.2.2.2.2.2.2.2.2.2.1 u14.2.2.2.2.2.2.2.2.2.2.2.2.2.2.2.2.2.2.2.2.2.2.2.2.2.1 u14.2.2.2.2.2.2.2.2.2.2.2.2.2.2.2.2.2.2.2.2.2.2.2.2.2.2.1 u14.2.2.2.2.2.2.2.2.2.2.2.2.2.2.2.2.2.2.2.2.2.2.2.2.2.2.2.1 u14.2.2.2.2.2.2.2.2.2.2.2.2.2.2.2.2.2.2.2.2.2.2.2.2.2.2.2.2.1 u14.2.2.2.2.2.2.2.2.2.2.2.2.2.2.2.2.2.2.2.2.2.2.2.2.2.2.2.2.2.1 u14.2.2.2.2.2.2.2.2.2.2.2.2.2.2.2.2.2.2.2.2.2.2.2.2.2.2.2.2.2.2.1 u14.2.2.2.2.2.2.2.2.2.2.2.2.2.2.2.2.2.2.2.2.2.2.2.2.2.2.2.2.2.2.2.1 u14.2.2.2.2.2.2.2.2.2.2.2.2.2.2.2.2.2.2.2.2.2.2.2.2.2.2.2.2.2.2.2.2.1 u14.2.2.2.2.2.2.2.2.2.2.2.2.2.2.2.2.2.2.2.2.2.2.2.2.2.2.2.2.2.2.2.2.2) (fun _ => rfl) rfl (Nat.le_of_ble_eq_true rfl) ⟨rfl, rfl⟩ ⟨Nat.le_of_ble_eq_true rfl, Nat.le_of_ble_eq_true rfl⟩ ⟨Nat.zero_le _, Nat.zero_le _⟩ hl.1 (st' := fun u14 => []) (fun _ => rfl) (fun u14 H locs huu14 Y => ?_)
              obtain ⟨u14_status, u14_points, u14_home, u14_men, u14_hasTable, u14_acts, u14_imaged, u14_length, u14_fault, u14_traced, u14_spot, u14_begins, u14_token, u14_number, u14_readPoints, u14_readHome, u14_readMen, u14_otherOne, u14_otherKind, u14_items, u14_lanes, u14_sizes, u14_firms, u14_kinds, u14_now, u14_before, u14_images, u14_tape, u14_trace, u14_readFirms, u14_readKinds, u14_readAt, u14_rows, u14_bests⟩ := u14
              replace Y : rY G A s (wMS G h h_items h_lanes h_sizes h_firms h_kinds h_now h_before h_images h_tape h_trace h_readFirms h_readKinds h_readAt h_rows h_bests u14_status u14_points u14_home u14_men u14_hasTable u14_acts u14_imaged u14_length u14_fault u14_traced u14_spot u14_begins u14_token u14_number u14_readPoints u14_readHome u14_readMen u14_otherOne u14_otherKind u14_items u14_lanes u14_sizes u14_firms u14_kinds u14_now u14_before u14_images u14_tape u14_trace u14_readFirms u14_readKinds u14_readAt u14_rows u14_bests) H locs := Y
              replace hM := mS hM huu14
              show W p l e q_X8_move s m args below meth c H locs 0 0 Q (F0 m 88 ls [])
              refine r_aload_n (pc' := 89) X hl 0 rfl rfl 48 rfl rfl ?_
              refine r_callV (pc' := 92) (As := []) (rest := []) (wr := ([] : va_W)) X Y 49 rfl rfl mRX8_237 (c_X8_take l G h h_items h_lanes h_sizes h_firms h_kinds h_now h_before h_images h_tape h_trace h_readFirms h_readKinds h_readAt h_rows h_bests u14_status u14_points u14_home u14_men u14_hasTable u14_acts u14_imaged u14_length u14_fault u14_traced u14_spot u14_begins u14_token u14_number u14_readPoints u14_readHome u14_readMen u14_otherOne u14_otherKind u14_items u14_lanes u14_sizes u14_firms u14_kinds u14_now u14_before u14_images u14_tape u14_trace u14_readFirms u14_readKinds u14_readAt u14_rows u14_bests) (mB hM hne) 0 rfl rfl [0, 1, 2, 3, 4, 5, 6, 7, 8, 9, 10, 11, 12, 13, 14, 15] [] [0, 1, 2, 3, 4, 5, 6, 7, 8, 9, 10, 11, 12, 13, 14, 15] rfl rfl ⟨rfl, rfl, rfl⟩ rfl (w2 := fun u15 => wMS G h h_items h_lanes h_sizes h_firms h_kinds h_now h_before h_images h_tape h_trace h_readFirms h_readKinds h_readAt h_rows h_bests u15.1 u15.2.1 u15.2.2.1 u15.2.2.2.1 u15.2.2.2.2.1 u15.2.2.2.2.2.1 u15.2.2.2.2.2.2.1 u15.2.2.2.2.2.2.2.1 u15.2.2.2.2.2.2.2.2.1 u15.2.2.2.2.2.2.2.2.2.1 u15.2.2.2.2.2.2.2.2.2.2.1 u15.2.2.2.2.2.2.2.2.2.2.2.1 u15.2.2.2.2.2.2.2.2.2.2.2.2.1 u15.2.2.2.2.2.2.2.2.2.2.2.2.2.1 u15.2.2.2.2.2.2.2.2.2.2.2.2.2.2.1 u15.2.2.2.2.2.2.2.2.2.2.2.2.2.2.2.1 u15.2.2.2.2.2.2.2.2.2.2.2.2.2.2.2.2.1 u15.2.2.2.2.2.2.2.2.2.2.2.2.2.2.2.2.2.1 u15.2.2.2.2.2.2.2.2.2.2.2.2.2.2.2.2.2.2.1 u15.2.2.2.2.2.2.2.2.2.2.2.2.2.2.2.2.2.2.2.1 u15.2.2.2.2.2.2.2.2.2.2.2.2.2.2.2.2.2.2.2.2.1 u15.2.2.2.2.2.2.2.2.2.2.2.2.2.2.2.2.2.2.2.2.2.1 u15.2.2.2.2.2.2.2.2.2.2.2.2.2.2.2.2.2.2.2.2.2.2.1 u15.2.2.2.2.2.2.2.2.2.2.2.2.2.2.2.2.2.2.2.2.2.2.2.1 u15.2.2.2.2.2.2.2.2.2.2.2.2.2.2.2.2.2.2.2.2.2.2.2.2.1 u15.2.2.2.2.2.2.2.2.2.2.2.2.2.2.2.2.2.2.2.2.2.2.2.2.2.1 u15.2.2.2.2.2.2.2.2.2.2.2.2.2.2.2.2.2.2.2.2.2.2.2.2.2.2.1 u15.2.2.2.2.2.2.2.2.2.2.2.2.2.2.2.2.2.2.2.2.2.2.2.2.2.2.2.1 u15.2.2.2.2.2.2.2.2.2.2.2.2.2.2.2.2.2.2.2.2.2.2.2.2.2.2.2.2.1 u15.2.2.2.2.2.2.2.2.2.2.2.2.2.2.2.2.2.2.2.2.2.2.2.2.2.2.2.2.2.1 u15.2.2.2.2.2.2.2.2.2.2.2.2.2.2.2.2.2.2.2.2.2.2.2.2.2.2.2.2.2.2.1 u15.2.2.2.2.2.2.2.2.2.2.2.2.2.2.2.2.2.2.2.2.2.2.2.2.2.2.2.2.2.2.2.1 u15.2.2.2.2.2.2.2.2.2.2.2.2.2.2.2.2.2.2.2.2.2.2.2.2.2.2.2.2.2.2.2.2.1 u15.2.2.2.2.2.2.2.2.2.2.2.2.2.2.2.2.2.2.2.2.2.2.2.2.2.2.2.2.2.2.2.2.2) (fun _ => rfl) rfl (Nat.le_of_ble_eq_true rfl) ⟨rfl, rfl⟩ ⟨Nat.le_of_ble_eq_true rfl, Nat.le_of_ble_eq_true rfl⟩ ⟨Nat.zero_le _, Nat.zero_le _⟩ hl.1 (st' := fun u15 => []) (fun _ => rfl) (fun u15 H locs huu15 Y => ?_)
              obtain ⟨u15_status, u15_points, u15_home, u15_men, u15_hasTable, u15_acts, u15_imaged, u15_length, u15_fault, u15_traced, u15_spot, u15_begins, u15_token, u15_number, u15_readPoints, u15_readHome, u15_readMen, u15_otherOne, u15_otherKind, u15_items, u15_lanes, u15_sizes, u15_firms, u15_kinds, u15_now, u15_before, u15_images, u15_tape, u15_trace, u15_readFirms, u15_readKinds, u15_readAt, u15_rows, u15_bests⟩ := u15
              replace Y : rY G A s (wMS G h h_items h_lanes h_sizes h_firms h_kinds h_now h_before h_images h_tape h_trace h_readFirms h_readKinds h_readAt h_rows h_bests u15_status u15_points u15_home u15_men u15_hasTable u15_acts u15_imaged u15_length u15_fault u15_traced u15_spot u15_begins u15_token u15_number u15_readPoints u15_readHome u15_readMen u15_otherOne u15_otherKind u15_items u15_lanes u15_sizes u15_firms u15_kinds u15_now u15_before u15_images u15_tape u15_trace u15_readFirms u15_readKinds u15_readAt u15_rows u15_bests) H locs := Y
              replace hM := mS hM huu15
              show W p l e q_X8_move s m args below meth c H locs 0 0 Q (F0 m 92 ls [])
              refine r_aload_n (pc' := 93) X hl 0 rfl rfl 50 rfl rfl ?_
              refine r_get (pc' := 96) (v := .ref h_now) X Y 51 rfl rfl fRX8_25 0 rfl rfl ?_
              refine r_iload_n (pc' := 97) X hl 1 rfl rfl 52 rfl rfl ?_
              obtain ⟨g16, hM⟩ := mG hM hne
              refine r_iald (pc' := 98) X Y 53 rfl rfl 6 rfl (vin g16) ?_
              refine r_bipush (pc' := 100) X (99 : Int32) 54 rfl rfl rfl ?_
              refine r_icmp_ne (pc' := 103) X 110 55 rfl rfl (by decide) (fun c17 => ?_) (fun c17 => ?_)
              · replace hM := mE hM c17
                refine r_aload_n (pc' := 111) X hl 0 rfl rfl 59 rfl rfl ?_
                refine r_get (pc' := 114) (v := .ref h_now) X Y 60 rfl rfl fRX8_25 0 rfl rfl ?_
                refine r_iload_n (pc' := 115) X hl 1 rfl rfl 61 rfl rfl ?_
                refine r_iald (pc' := 116) X Y 62 rfl rfl 6 rfl (vin g16) ?_
                exact RT ((u15_now (i1).toNatClampNeg), (u15_status, u15_points, u15_home, u15_men, u15_hasTable, u15_acts, u15_imaged, u15_length, u15_fault, u15_traced, u15_spot, u15_begins, u15_token, u15_number, u15_readPoints, u15_readHome, u15_readMen, u15_otherOne, u15_otherKind, u15_items, u15_lanes, u15_sizes, u15_firms, u15_kinds, u15_now, u15_before, u15_images, u15_tape, u15_trace, u15_readFirms, u15_readKinds, u15_readAt, u15_rows, u15_bests)) _ _ _ _ _ hM (Or.inl ⟨rfl, rfl, _, rfl⟩) (X.d (k := 63) rfl) Y
              · replace hM := mI hM c17
                refine r_aload_n (pc' := 104) X hl 0 rfl rfl 56 rfl rfl ?_
                refine r_get (pc' := 107) (v := .int u15_points) X Y 57 rfl rfl fRX8_153 0 rfl rfl ?_
                refine r_goto X 116 58 rfl (by decide) ?_
                exact RT (u15_points, (u15_status, u15_points, u15_home, u15_men, u15_hasTable, u15_acts, u15_imaged, u15_length, u15_fault, u15_traced, u15_spot, u15_begins, u15_token, u15_number, u15_readPoints, u15_readHome, u15_readMen, u15_otherOne, u15_otherKind, u15_items, u15_lanes, u15_sizes, u15_firms, u15_kinds, u15_now, u15_before, u15_images, u15_tape, u15_trace, u15_readFirms, u15_readKinds, u15_readAt, u15_rows, u15_bests)) _ _ _ _ _ hM (Or.inl ⟨rfl, rfl, _, rfl⟩) (X.d (k := 63) rfl) Y
            · replace hM := mI hM c11
              refine r_ldc (pc' := 71) X mw561 36 rfl rfl ?_
              exact RT ((-1000003 : Int32), (u5_2_status, u5_2_points, u5_2_home, u5_2_men, u5_2_hasTable, u5_2_acts, u5_2_imaged, u5_2_length, u5_2_fault, u5_2_traced, u5_2_spot, u5_2_begins, u5_2_token, u5_2_number, u5_2_readPoints, u5_2_readHome, u5_2_readMen, u5_2_otherOne, u5_2_otherKind, u5_2_items, u5_2_lanes, u5_2_sizes, u5_2_firms, u5_2_kinds, u5_2_now, u5_2_before, u5_2_images, u5_2_tape, u5_2_trace, u5_2_readFirms, u5_2_readKinds, u5_2_readAt, u5_2_rows, u5_2_bests)) _ _ _ _ _ hM (Or.inl ⟨rfl, rfl, _, rfl⟩) (X.d (k := 37) rfl) Y
          · replace hM := mI hM c10
            refine r_ldc (pc' := 55) X mw684 28 rfl rfl ?_
            exact RT ((-1000002 : Int32), (u5_2_status, u5_2_points, u5_2_home, u5_2_men, u5_2_hasTable, u5_2_acts, u5_2_imaged, u5_2_length, u5_2_fault, u5_2_traced, u5_2_spot, u5_2_begins, u5_2_token, u5_2_number, u5_2_readPoints, u5_2_readHome, u5_2_readMen, u5_2_otherOne, u5_2_otherKind, u5_2_items, u5_2_lanes, u5_2_sizes, u5_2_firms, u5_2_kinds, u5_2_now, u5_2_before, u5_2_images, u5_2_tape, u5_2_trace, u5_2_readFirms, u5_2_readKinds, u5_2_readAt, u5_2_rows, u5_2_bests)) _ _ _ _ _ hM (Or.inl ⟨rfl, rfl, _, rfl⟩) (X.d (k := 29) rfl) Y
    · replace hM := mI hM c4
      refine r_ldc (pc' := 17) X mw542 7 rfl rfl ?_
      exact RT ((-1000001 : Int32), (S0_status, S0_points, S0_home, S0_men, S0_hasTable, S0_acts, S0_imaged, S0_length, S0_fault, S0_traced, S0_spot, S0_begins, S0_token, S0_number, S0_readPoints, S0_readHome, S0_readMen, S0_otherOne, S0_otherKind, S0_items, S0_lanes, S0_sizes, S0_firms, S0_kinds, S0_now, S0_before, S0_images, S0_tape, S0_trace, S0_readFirms, S0_readKinds, S0_readAt, S0_rows, S0_bests)) _ _ _ _ _ hM (Or.inl ⟨rfl, rfl, _, rfl⟩) (X.d (k := 8) rfl) Y

def M_X8_twice (S0 : MS) : Option (Int32 × MS) :=
  (if (ms_hasTable S0) = 0 then (some ((-1000002 : Int32), S0)) else ((M_X8_wonNow S0).bind (fun u2 => (if u2.1 = (-1000000 : Int32) then (if ((ms_now u2.2) ((10 : Int32)).toNatClampNeg) = ((1 : Int32) - ((ms_now u2.2) ((8 : Int32)).toNatClampNeg)) then (some ((-1000002 : Int32), u2.2)) else (if ((ms_now u2.2) ((9 : Int32)).toNatClampNeg) = (64 : Int32) then (some ((-1000002 : Int32), u2.2)) else ((M_X8_note u2.2).bind (fun u6 => (some (((upd (upd (ms_now u6) ((9 : Int32)).toNatClampNeg (((ms_now u6) ((9 : Int32)).toNatClampNeg) * (2 : Int32))) ((10 : Int32)).toNatClampNeg ((1 : Int32) - ((upd (ms_now u6) ((9 : Int32)).toNatClampNeg (((ms_now u6) ((9 : Int32)).toNatClampNeg) * (2 : Int32))) ((8 : Int32)).toNatClampNeg))) ((9 : Int32)).toNatClampNeg), (ms_s_now u6 (upd (upd (ms_now u6) ((9 : Int32)).toNatClampNeg (((ms_now u6) ((9 : Int32)).toNatClampNeg) * (2 : Int32))) ((10 : Int32)).toNatClampNeg ((1 : Int32) - ((upd (ms_now u6) ((9 : Int32)).toNatClampNeg (((ms_now u6) ((9 : Int32)).toNatClampNeg) * (2 : Int32))) ((8 : Int32)).toNatClampNeg)))))))))) else (some ((-1000002 : Int32), u2.2))))))
def q_X8_twice : Room := { frames := 4, cells := 0, slots := 0, locals := 128 }
set_option maxHeartbeats 4000000 in
set_option maxRecDepth 100000 in
theorem c_X8_twice (l : Launch) (G : gT) (h h_items h_lanes h_sizes h_firms h_kinds h_now h_before h_images h_tape h_trace h_readFirms h_readKinds h_readAt h_rows h_bests : Nat) (S0_status : Int32) (S0_points : Int32) (S0_home : Int32) (S0_men : Int32) (S0_hasTable : Int32) (S0_acts : Int32) (S0_imaged : Int32) (S0_length : Int32) (S0_fault : Int32) (S0_traced : Int32) (S0_spot : Int32) (S0_begins : Int32) (S0_token : Int32) (S0_number : Int32) (S0_readPoints : Int32) (S0_readHome : Int32) (S0_readMen : Int32) (S0_otherOne : Int32) (S0_otherKind : Int32) (S0_items : Nat → Int32) (S0_lanes : Nat → Int32) (S0_sizes : Nat → Int32) (S0_firms : Nat → Int32) (S0_kinds : Nat → Int32) (S0_now : Nat → Int32) (S0_before : Nat → Int32) (S0_images : Nat → Int32) (S0_tape : Nat → Int32) (S0_trace : Nat → Int32) (S0_readFirms : Nat → Int32) (S0_readKinds : Nat → Int32) (S0_readAt : Nat → Int32) (S0_rows : Nat → Int32) (S0_bests : Nat → Int32) : CT l G yX8_twice cX8_twice 1 (some .int) q_X8_twice [.ref h] (wMS G h h_items h_lanes h_sizes h_firms h_kinds h_now h_before h_images h_tape h_trace h_readFirms h_readKinds h_readAt h_rows h_bests S0_status S0_points S0_home S0_men S0_hasTable S0_acts S0_imaged S0_length S0_fault S0_traced S0_spot S0_begins S0_token S0_number S0_readPoints S0_readHome S0_readMen S0_otherOne S0_otherKind S0_items S0_lanes S0_sizes S0_firms S0_kinds S0_now S0_before S0_images S0_tape S0_trace S0_readFirms S0_readKinds S0_readAt S0_rows S0_bests) (M_X8_twice (S0_status, S0_points, S0_home, S0_men, S0_hasTable, S0_acts, S0_imaged, S0_length, S0_fault, S0_traced, S0_spot, S0_begins, S0_token, S0_number, S0_readPoints, S0_readHome, S0_readMen, S0_otherOne, S0_otherKind, S0_items, S0_lanes, S0_sizes, S0_firms, S0_kinds, S0_now, S0_before, S0_images, S0_tape, S0_trace, S0_readFirms, S0_readKinds, S0_readAt, S0_rows, S0_bests)) (fun u => some (.int u.1)) (fun u => wMS G h h_items h_lanes h_sizes h_firms h_kinds h_now h_before h_images h_tape h_trace h_readFirms h_readKinds h_readAt h_rows h_bests u.2.1 u.2.2.1 u.2.2.2.1 u.2.2.2.2.1 u.2.2.2.2.2.1 u.2.2.2.2.2.2.1 u.2.2.2.2.2.2.2.1 u.2.2.2.2.2.2.2.2.1 u.2.2.2.2.2.2.2.2.2.1 u.2.2.2.2.2.2.2.2.2.2.1 u.2.2.2.2.2.2.2.2.2.2.2.1 u.2.2.2.2.2.2.2.2.2.2.2.2.1 u.2.2.2.2.2.2.2.2.2.2.2.2.2.1 u.2.2.2.2.2.2.2.2.2.2.2.2.2.2.1 u.2.2.2.2.2.2.2.2.2.2.2.2.2.2.2.1 u.2.2.2.2.2.2.2.2.2.2.2.2.2.2.2.2.1 u.2.2.2.2.2.2.2.2.2.2.2.2.2.2.2.2.2.1 u.2.2.2.2.2.2.2.2.2.2.2.2.2.2.2.2.2.2.1 u.2.2.2.2.2.2.2.2.2.2.2.2.2.2.2.2.2.2.2.1 u.2.2.2.2.2.2.2.2.2.2.2.2.2.2.2.2.2.2.2.2.1 u.2.2.2.2.2.2.2.2.2.2.2.2.2.2.2.2.2.2.2.2.2.1 u.2.2.2.2.2.2.2.2.2.2.2.2.2.2.2.2.2.2.2.2.2.2.1 u.2.2.2.2.2.2.2.2.2.2.2.2.2.2.2.2.2.2.2.2.2.2.2.1 u.2.2.2.2.2.2.2.2.2.2.2.2.2.2.2.2.2.2.2.2.2.2.2.2.1 u.2.2.2.2.2.2.2.2.2.2.2.2.2.2.2.2.2.2.2.2.2.2.2.2.2.1 u.2.2.2.2.2.2.2.2.2.2.2.2.2.2.2.2.2.2.2.2.2.2.2.2.2.2.1 u.2.2.2.2.2.2.2.2.2.2.2.2.2.2.2.2.2.2.2.2.2.2.2.2.2.2.2.1 u.2.2.2.2.2.2.2.2.2.2.2.2.2.2.2.2.2.2.2.2.2.2.2.2.2.2.2.2.1 u.2.2.2.2.2.2.2.2.2.2.2.2.2.2.2.2.2.2.2.2.2.2.2.2.2.2.2.2.2.1 u.2.2.2.2.2.2.2.2.2.2.2.2.2.2.2.2.2.2.2.2.2.2.2.2.2.2.2.2.2.2.1 u.2.2.2.2.2.2.2.2.2.2.2.2.2.2.2.2.2.2.2.2.2.2.2.2.2.2.2.2.2.2.2.1 u.2.2.2.2.2.2.2.2.2.2.2.2.2.2.2.2.2.2.2.2.2.2.2.2.2.2.2.2.2.2.2.2.1 u.2.2.2.2.2.2.2.2.2.2.2.2.2.2.2.2.2.2.2.2.2.2.2.2.2.2.2.2.2.2.2.2.2.1 u.2.2.2.2.2.2.2.2.2.2.2.2.2.2.2.2.2.2.2.2.2.2.2.2.2.2.2.2.2.2.2.2.2.2) := by
  refine CT.of (P := PX8_twice) (by decide) dPX8_twice (Nat.le_of_ble_eq_true rfl) ?_
  intro p e s m args below meth c A Q ls hne X RT Y hl
  have hl : lv_has ls 1 [(0, .ref h)] := hl
  generalize hM : M_X8_twice (S0_status, S0_points, S0_home, S0_men, S0_hasTable, S0_acts, S0_imaged, S0_length, S0_fault, S0_traced, S0_spot, S0_begins, S0_token, S0_number, S0_readPoints, S0_readHome, S0_readMen, S0_otherOne, S0_otherKind, S0_items, S0_lanes, S0_sizes, S0_firms, S0_kinds, S0_now, S0_before, S0_images, S0_tape, S0_trace, S0_readFirms, S0_readKinds, S0_readAt, S0_rows, S0_bests) = MM at hne RT
  unfold M_X8_twice at hM
  refine r_aload_n (pc' := 1) X hl 0 rfl rfl 0 rfl rfl ?_
  refine r_get (pc' := 4) (v := .int S0_hasTable) X Y 1 rfl rfl fRX8_162 0 rfl rfl ?_
  refine r_if_eq (pc' := 7) X 47 2 rfl rfl (by decide) (fun c1 => ?_) (fun c1 => ?_)
  · replace hM := mI hM c1
    refine r_ldc (pc' := 49) X mw684 24 rfl rfl ?_
    exact RT ((-1000002 : Int32), (S0_status, S0_points, S0_home, S0_men, S0_hasTable, S0_acts, S0_imaged, S0_length, S0_fault, S0_traced, S0_spot, S0_begins, S0_token, S0_number, S0_readPoints, S0_readHome, S0_readMen, S0_otherOne, S0_otherKind, S0_items, S0_lanes, S0_sizes, S0_firms, S0_kinds, S0_now, S0_before, S0_images, S0_tape, S0_trace, S0_readFirms, S0_readKinds, S0_readAt, S0_rows, S0_bests)) _ _ _ _ _ hM (Or.inl ⟨rfl, rfl, _, rfl⟩) (X.d (k := 25) rfl) Y
  · replace hM := mE hM c1
    refine r_aload_n (pc' := 8) X hl 0 rfl rfl 3 rfl rfl ?_
    refine r_callV (pc' := 11) (As := []) (rest := []) (wr := ([] : va_W)) X Y 4 rfl rfl mRX8_228 (c_X8_wonNow l G h h_items h_lanes h_sizes h_firms h_kinds h_now h_before h_images h_tape h_trace h_readFirms h_readKinds h_readAt h_rows h_bests S0_status S0_points S0_home S0_men S0_hasTable S0_acts S0_imaged S0_length S0_fault S0_traced S0_spot S0_begins S0_token S0_number S0_readPoints S0_readHome S0_readMen S0_otherOne S0_otherKind S0_items S0_lanes S0_sizes S0_firms S0_kinds S0_now S0_before S0_images S0_tape S0_trace S0_readFirms S0_readKinds S0_readAt S0_rows S0_bests) (mB hM hne) 0 rfl rfl [0, 1, 2, 3, 4, 5, 6, 7, 8, 9, 10, 11, 12, 13, 14, 15] [] [0, 1, 2, 3, 4, 5, 6, 7, 8, 9, 10, 11, 12, 13, 14, 15] rfl rfl ⟨rfl, rfl, rfl⟩ rfl (w2 := fun u2 => wMS G h h_items h_lanes h_sizes h_firms h_kinds h_now h_before h_images h_tape h_trace h_readFirms h_readKinds h_readAt h_rows h_bests u2.2.1 u2.2.2.1 u2.2.2.2.1 u2.2.2.2.2.1 u2.2.2.2.2.2.1 u2.2.2.2.2.2.2.1 u2.2.2.2.2.2.2.2.1 u2.2.2.2.2.2.2.2.2.1 u2.2.2.2.2.2.2.2.2.2.1 u2.2.2.2.2.2.2.2.2.2.2.1 u2.2.2.2.2.2.2.2.2.2.2.2.1 u2.2.2.2.2.2.2.2.2.2.2.2.2.1 u2.2.2.2.2.2.2.2.2.2.2.2.2.2.1 u2.2.2.2.2.2.2.2.2.2.2.2.2.2.2.1 u2.2.2.2.2.2.2.2.2.2.2.2.2.2.2.2.1 u2.2.2.2.2.2.2.2.2.2.2.2.2.2.2.2.2.1 u2.2.2.2.2.2.2.2.2.2.2.2.2.2.2.2.2.2.1 u2.2.2.2.2.2.2.2.2.2.2.2.2.2.2.2.2.2.2.1 u2.2.2.2.2.2.2.2.2.2.2.2.2.2.2.2.2.2.2.2.1 u2.2.2.2.2.2.2.2.2.2.2.2.2.2.2.2.2.2.2.2.2.1 u2.2.2.2.2.2.2.2.2.2.2.2.2.2.2.2.2.2.2.2.2.2.1 u2.2.2.2.2.2.2.2.2.2.2.2.2.2.2.2.2.2.2.2.2.2.2.1 u2.2.2.2.2.2.2.2.2.2.2.2.2.2.2.2.2.2.2.2.2.2.2.2.1 u2.2.2.2.2.2.2.2.2.2.2.2.2.2.2.2.2.2.2.2.2.2.2.2.2.1 u2.2.2.2.2.2.2.2.2.2.2.2.2.2.2.2.2.2.2.2.2.2.2.2.2.2.1 u2.2.2.2.2.2.2.2.2.2.2.2.2.2.2.2.2.2.2.2.2.2.2.2.2.2.2.1 u2.2.2.2.2.2.2.2.2.2.2.2.2.2.2.2.2.2.2.2.2.2.2.2.2.2.2.2.1 u2.2.2.2.2.2.2.2.2.2.2.2.2.2.2.2.2.2.2.2.2.2.2.2.2.2.2.2.2.1 u2.2.2.2.2.2.2.2.2.2.2.2.2.2.2.2.2.2.2.2.2.2.2.2.2.2.2.2.2.2.1 u2.2.2.2.2.2.2.2.2.2.2.2.2.2.2.2.2.2.2.2.2.2.2.2.2.2.2.2.2.2.2.1 u2.2.2.2.2.2.2.2.2.2.2.2.2.2.2.2.2.2.2.2.2.2.2.2.2.2.2.2.2.2.2.2.1 u2.2.2.2.2.2.2.2.2.2.2.2.2.2.2.2.2.2.2.2.2.2.2.2.2.2.2.2.2.2.2.2.2.1 u2.2.2.2.2.2.2.2.2.2.2.2.2.2.2.2.2.2.2.2.2.2.2.2.2.2.2.2.2.2.2.2.2.2.1 u2.2.2.2.2.2.2.2.2.2.2.2.2.2.2.2.2.2.2.2.2.2.2.2.2.2.2.2.2.2.2.2.2.2.2) (fun _ => rfl) rfl (Nat.le_of_ble_eq_true rfl) ⟨rfl, rfl⟩ ⟨Nat.le_of_ble_eq_true rfl, Nat.le_of_ble_eq_true rfl⟩ ⟨Nat.zero_le _, Nat.zero_le _⟩ hl.1 (st' := fun u2 => [.int u2.1]) (fun _ => rfl) (fun u2 H locs huu2 Y => ?_)
    obtain ⟨u2_1, ⟨u2_2_status, u2_2_points, u2_2_home, u2_2_men, u2_2_hasTable, u2_2_acts, u2_2_imaged, u2_2_length, u2_2_fault, u2_2_traced, u2_2_spot, u2_2_begins, u2_2_token, u2_2_number, u2_2_readPoints, u2_2_readHome, u2_2_readMen, u2_2_otherOne, u2_2_otherKind, u2_2_items, u2_2_lanes, u2_2_sizes, u2_2_firms, u2_2_kinds, u2_2_now, u2_2_before, u2_2_images, u2_2_tape, u2_2_trace, u2_2_readFirms, u2_2_readKinds, u2_2_readAt, u2_2_rows, u2_2_bests⟩⟩ := u2
    replace Y : rY G A s (wMS G h h_items h_lanes h_sizes h_firms h_kinds h_now h_before h_images h_tape h_trace h_readFirms h_readKinds h_readAt h_rows h_bests u2_2_status u2_2_points u2_2_home u2_2_men u2_2_hasTable u2_2_acts u2_2_imaged u2_2_length u2_2_fault u2_2_traced u2_2_spot u2_2_begins u2_2_token u2_2_number u2_2_readPoints u2_2_readHome u2_2_readMen u2_2_otherOne u2_2_otherKind u2_2_items u2_2_lanes u2_2_sizes u2_2_firms u2_2_kinds u2_2_now u2_2_before u2_2_images u2_2_tape u2_2_trace u2_2_readFirms u2_2_readKinds u2_2_readAt u2_2_rows u2_2_bests) H locs := Y
    replace hM := mS hM huu2
    show W p l e q_X8_twice s m args below meth c H locs 0 0 Q (F0 m 11 ls [.int u2_1])
    refine r_ldc (pc' := 13) X mw526 5 rfl rfl ?_
    refine r_icmp_ne (pc' := 16) X 47 6 rfl rfl (by decide) (fun c3 => ?_) (fun c3 => ?_)
    · replace hM := mE hM c3
      refine r_ldc (pc' := 49) X mw684 24 rfl rfl ?_
      exact RT ((-1000002 : Int32), (u2_2_status, u2_2_points, u2_2_home, u2_2_men, u2_2_hasTable, u2_2_acts, u2_2_imaged, u2_2_length, u2_2_fault, u2_2_traced, u2_2_spot, u2_2_begins, u2_2_token, u2_2_number, u2_2_readPoints, u2_2_readHome, u2_2_readMen, u2_2_otherOne, u2_2_otherKind, u2_2_items, u2_2_lanes, u2_2_sizes, u2_2_firms, u2_2_kinds, u2_2_now, u2_2_before, u2_2_images, u2_2_tape, u2_2_trace, u2_2_readFirms, u2_2_readKinds, u2_2_readAt, u2_2_rows, u2_2_bests)) _ _ _ _ _ hM (Or.inl ⟨rfl, rfl, _, rfl⟩) (X.d (k := 25) rfl) Y
    · replace hM := mI hM c3
      refine r_aload_n (pc' := 17) X hl 0 rfl rfl 7 rfl rfl ?_
      refine r_get (pc' := 20) (v := .ref h_now) X Y 8 rfl rfl fRX8_25 0 rfl rfl ?_
      refine r_bipush (pc' := 22) X (10 : Int32) 9 rfl rfl rfl ?_
      refine r_iald (pc' := 23) X Y 10 rfl rfl 6 rfl (vin rfl) ?_
      refine r_iconst (pc' := 24) X (1 : Int32) 11 rfl rfl rfl ?_
      refine r_aload_n (pc' := 25) X hl 0 rfl rfl 12 rfl rfl ?_
      refine r_get (pc' := 28) (v := .ref h_now) X Y 13 rfl rfl fRX8_25 0 rfl rfl ?_
      refine r_bipush (pc' := 30) X (8 : Int32) 14 rfl rfl rfl ?_
      refine r_iald (pc' := 31) X Y 15 rfl rfl 6 rfl (vin rfl) ?_
      refine r_isub (pc' := 32) X 16 rfl rfl ?_
      refine r_icmp_eq (pc' := 35) X 47 17 rfl rfl (by decide) (fun c4 => ?_) (fun c4 => ?_)
      · replace hM := mI hM c4
        refine r_ldc (pc' := 49) X mw684 24 rfl rfl ?_
        exact RT ((-1000002 : Int32), (u2_2_status, u2_2_points, u2_2_home, u2_2_men, u2_2_hasTable, u2_2_acts, u2_2_imaged, u2_2_length, u2_2_fault, u2_2_traced, u2_2_spot, u2_2_begins, u2_2_token, u2_2_number, u2_2_readPoints, u2_2_readHome, u2_2_readMen, u2_2_otherOne, u2_2_otherKind, u2_2_items, u2_2_lanes, u2_2_sizes, u2_2_firms, u2_2_kinds, u2_2_now, u2_2_before, u2_2_images, u2_2_tape, u2_2_trace, u2_2_readFirms, u2_2_readKinds, u2_2_readAt, u2_2_rows, u2_2_bests)) _ _ _ _ _ hM (Or.inl ⟨rfl, rfl, _, rfl⟩) (X.d (k := 25) rfl) Y
      · replace hM := mE hM c4
        refine r_aload_n (pc' := 36) X hl 0 rfl rfl 18 rfl rfl ?_
        refine r_get (pc' := 39) (v := .ref h_now) X Y 19 rfl rfl fRX8_25 0 rfl rfl ?_
        refine r_bipush (pc' := 41) X (9 : Int32) 20 rfl rfl rfl ?_
        refine r_iald (pc' := 42) X Y 21 rfl rfl 6 rfl (vin rfl) ?_
        refine r_bipush (pc' := 44) X (64 : Int32) 22 rfl rfl rfl ?_
        refine r_icmp_ne (pc' := 47) X 50 23 rfl rfl (by decide) (fun c5 => ?_) (fun c5 => ?_)
        · replace hM := mE hM c5
          refine r_aload_n (pc' := 51) X hl 0 rfl rfl 26 rfl rfl ?_
          refine r_callV (pc' := 54) (As := []) (rest := []) (wr := ([] : va_W)) X Y 27 rfl rfl mRX8_231 (c_X8_note l G h h_items h_lanes h_sizes h_firms h_kinds h_now h_before h_images h_tape h_trace h_readFirms h_readKinds h_readAt h_rows h_bests u2_2_status u2_2_points u2_2_home u2_2_men u2_2_hasTable u2_2_acts u2_2_imaged u2_2_length u2_2_fault u2_2_traced u2_2_spot u2_2_begins u2_2_token u2_2_number u2_2_readPoints u2_2_readHome u2_2_readMen u2_2_otherOne u2_2_otherKind u2_2_items u2_2_lanes u2_2_sizes u2_2_firms u2_2_kinds u2_2_now u2_2_before u2_2_images u2_2_tape u2_2_trace u2_2_readFirms u2_2_readKinds u2_2_readAt u2_2_rows u2_2_bests) (mB hM hne) 0 rfl rfl [0, 1, 2, 3, 4, 5, 6, 7, 8, 9, 10, 11, 12, 13, 14, 15] [] [0, 1, 2, 3, 4, 5, 6, 7, 8, 9, 10, 11, 12, 13, 14, 15] rfl rfl ⟨rfl, rfl, rfl⟩ rfl (w2 := fun u6 => wMS G h h_items h_lanes h_sizes h_firms h_kinds h_now h_before h_images h_tape h_trace h_readFirms h_readKinds h_readAt h_rows h_bests u6.1 u6.2.1 u6.2.2.1 u6.2.2.2.1 u6.2.2.2.2.1 u6.2.2.2.2.2.1 u6.2.2.2.2.2.2.1 u6.2.2.2.2.2.2.2.1 u6.2.2.2.2.2.2.2.2.1 u6.2.2.2.2.2.2.2.2.2.1 u6.2.2.2.2.2.2.2.2.2.2.1 u6.2.2.2.2.2.2.2.2.2.2.2.1 u6.2.2.2.2.2.2.2.2.2.2.2.2.1 u6.2.2.2.2.2.2.2.2.2.2.2.2.2.1 u6.2.2.2.2.2.2.2.2.2.2.2.2.2.2.1 u6.2.2.2.2.2.2.2.2.2.2.2.2.2.2.2.1 u6.2.2.2.2.2.2.2.2.2.2.2.2.2.2.2.2.1 u6.2.2.2.2.2.2.2.2.2.2.2.2.2.2.2.2.2.1 u6.2.2.2.2.2.2.2.2.2.2.2.2.2.2.2.2.2.2.1 u6.2.2.2.2.2.2.2.2.2.2.2.2.2.2.2.2.2.2.2.1 u6.2.2.2.2.2.2.2.2.2.2.2.2.2.2.2.2.2.2.2.2.1 u6.2.2.2.2.2.2.2.2.2.2.2.2.2.2.2.2.2.2.2.2.2.1 u6.2.2.2.2.2.2.2.2.2.2.2.2.2.2.2.2.2.2.2.2.2.2.1 u6.2.2.2.2.2.2.2.2.2.2.2.2.2.2.2.2.2.2.2.2.2.2.2.1 u6.2.2.2.2.2.2.2.2.2.2.2.2.2.2.2.2.2.2.2.2.2.2.2.2.1 u6.2.2.2.2.2.2.2.2.2.2.2.2.2.2.2.2.2.2.2.2.2.2.2.2.2.1 u6.2.2.2.2.2.2.2.2.2.2.2.2.2.2.2.2.2.2.2.2.2.2.2.2.2.2.1 u6.2.2.2.2.2.2.2.2.2.2.2.2.2.2.2.2.2.2.2.2.2.2.2.2.2.2.2.1 u6.2.2.2.2.2.2.2.2.2.2.2.2.2.2.2.2.2.2.2.2.2.2.2.2.2.2.2.2.1 u6.2.2.2.2.2.2.2.2.2.2.2.2.2.2.2.2.2.2.2.2.2.2.2.2.2.2.2.2.2.1 u6.2.2.2.2.2.2.2.2.2.2.2.2.2.2.2.2.2.2.2.2.2.2.2.2.2.2.2.2.2.2.1 u6.2.2.2.2.2.2.2.2.2.2.2.2.2.2.2.2.2.2.2.2.2.2.2.2.2.2.2.2.2.2.2.1 u6.2.2.2.2.2.2.2.2.2.2.2.2.2.2.2.2.2.2.2.2.2.2.2.2.2.2.2.2.2.2.2.2.1 u6.2.2.2.2.2.2.2.2.2.2.2.2.2.2.2.2.2.2.2.2.2.2.2.2.2.2.2.2.2.2.2.2.2) (fun _ => rfl) rfl (Nat.le_of_ble_eq_true rfl) ⟨rfl, rfl⟩ ⟨Nat.le_of_ble_eq_true rfl, Nat.le_of_ble_eq_true rfl⟩ ⟨Nat.zero_le _, Nat.zero_le _⟩ hl.1 (st' := fun u6 => []) (fun _ => rfl) (fun u6 H locs huu6 Y => ?_)
          obtain ⟨u6_status, u6_points, u6_home, u6_men, u6_hasTable, u6_acts, u6_imaged, u6_length, u6_fault, u6_traced, u6_spot, u6_begins, u6_token, u6_number, u6_readPoints, u6_readHome, u6_readMen, u6_otherOne, u6_otherKind, u6_items, u6_lanes, u6_sizes, u6_firms, u6_kinds, u6_now, u6_before, u6_images, u6_tape, u6_trace, u6_readFirms, u6_readKinds, u6_readAt, u6_rows, u6_bests⟩ := u6
          replace Y : rY G A s (wMS G h h_items h_lanes h_sizes h_firms h_kinds h_now h_before h_images h_tape h_trace h_readFirms h_readKinds h_readAt h_rows h_bests u6_status u6_points u6_home u6_men u6_hasTable u6_acts u6_imaged u6_length u6_fault u6_traced u6_spot u6_begins u6_token u6_number u6_readPoints u6_readHome u6_readMen u6_otherOne u6_otherKind u6_items u6_lanes u6_sizes u6_firms u6_kinds u6_now u6_before u6_images u6_tape u6_trace u6_readFirms u6_readKinds u6_readAt u6_rows u6_bests) H locs := Y
          replace hM := mS hM huu6
          show W p l e q_X8_twice s m args below meth c H locs 0 0 Q (F0 m 54 ls [])
          refine r_aload_n (pc' := 55) X hl 0 rfl rfl 28 rfl rfl ?_
          refine r_get (pc' := 58) (v := .ref h_now) X Y 29 rfl rfl fRX8_25 0 rfl rfl ?_
          refine r_bipush (pc' := 60) X (9 : Int32) 30 rfl rfl rfl ?_
          refine r_dup2 (pc' := 61) X 31 rfl rfl rfl rfl ?_
          refine r_iald (pc' := 62) X Y 32 rfl rfl 6 rfl (vin rfl) ?_
          refine r_iconst (pc' := 63) X (2 : Int32) 33 rfl rfl rfl ?_
          refine r_imul (pc' := 64) X 34 rfl rfl ?_
          refine r_iast (pc' := 65) (ws' := wMS G h h_items h_lanes h_sizes h_firms h_kinds h_now h_before h_images h_tape h_trace h_readFirms h_readKinds h_readAt h_rows h_bests u6_status u6_points u6_home u6_men u6_hasTable u6_acts u6_imaged u6_length u6_fault u6_traced u6_spot u6_begins u6_token u6_number u6_readPoints u6_readHome u6_readMen u6_otherOne u6_otherKind u6_items u6_lanes u6_sizes u6_firms u6_kinds (upd u6_now ((9 : Int32)).toNatClampNeg ((u6_now ((9 : Int32)).toNatClampNeg) * (2 : Int32))) u6_before u6_images u6_tape u6_trace u6_readFirms u6_readKinds u6_readAt u6_rows u6_bests) X Y 35 rfl rfl 6 rfl (vin rfl) rfl (fun H locs Y => ?_)
          refine r_aload_n (pc' := 66) X hl 0 rfl rfl 36 rfl rfl ?_
          refine r_get (pc' := 69) (v := .ref h_now) X Y 37 rfl rfl fRX8_25 0 rfl rfl ?_
          refine r_bipush (pc' := 71) X (10 : Int32) 38 rfl rfl rfl ?_
          refine r_iconst (pc' := 72) X (1 : Int32) 39 rfl rfl rfl ?_
          refine r_aload_n (pc' := 73) X hl 0 rfl rfl 40 rfl rfl ?_
          refine r_get (pc' := 76) (v := .ref h_now) X Y 41 rfl rfl fRX8_25 0 rfl rfl ?_
          refine r_bipush (pc' := 78) X (8 : Int32) 42 rfl rfl rfl ?_
          refine r_iald (pc' := 79) X Y 43 rfl rfl 6 rfl (vin rfl) ?_
          refine r_isub (pc' := 80) X 44 rfl rfl ?_
          refine r_iast (pc' := 81) (ws' := wMS G h h_items h_lanes h_sizes h_firms h_kinds h_now h_before h_images h_tape h_trace h_readFirms h_readKinds h_readAt h_rows h_bests u6_status u6_points u6_home u6_men u6_hasTable u6_acts u6_imaged u6_length u6_fault u6_traced u6_spot u6_begins u6_token u6_number u6_readPoints u6_readHome u6_readMen u6_otherOne u6_otherKind u6_items u6_lanes u6_sizes u6_firms u6_kinds (upd (upd u6_now ((9 : Int32)).toNatClampNeg ((u6_now ((9 : Int32)).toNatClampNeg) * (2 : Int32))) ((10 : Int32)).toNatClampNeg ((1 : Int32) - ((upd u6_now ((9 : Int32)).toNatClampNeg ((u6_now ((9 : Int32)).toNatClampNeg) * (2 : Int32))) ((8 : Int32)).toNatClampNeg))) u6_before u6_images u6_tape u6_trace u6_readFirms u6_readKinds u6_readAt u6_rows u6_bests) X Y 45 rfl rfl 6 rfl (vin rfl) rfl (fun H locs Y => ?_)
          refine r_aload_n (pc' := 82) X hl 0 rfl rfl 46 rfl rfl ?_
          refine r_get (pc' := 85) (v := .ref h_now) X Y 47 rfl rfl fRX8_25 0 rfl rfl ?_
          refine r_bipush (pc' := 87) X (9 : Int32) 48 rfl rfl rfl ?_
          refine r_iald (pc' := 88) X Y 49 rfl rfl 6 rfl (vin rfl) ?_
          exact RT (((upd (upd u6_now ((9 : Int32)).toNatClampNeg ((u6_now ((9 : Int32)).toNatClampNeg) * (2 : Int32))) ((10 : Int32)).toNatClampNeg ((1 : Int32) - ((upd u6_now ((9 : Int32)).toNatClampNeg ((u6_now ((9 : Int32)).toNatClampNeg) * (2 : Int32))) ((8 : Int32)).toNatClampNeg))) ((9 : Int32)).toNatClampNeg), (u6_status, u6_points, u6_home, u6_men, u6_hasTable, u6_acts, u6_imaged, u6_length, u6_fault, u6_traced, u6_spot, u6_begins, u6_token, u6_number, u6_readPoints, u6_readHome, u6_readMen, u6_otherOne, u6_otherKind, u6_items, u6_lanes, u6_sizes, u6_firms, u6_kinds, (upd (upd u6_now ((9 : Int32)).toNatClampNeg ((u6_now ((9 : Int32)).toNatClampNeg) * (2 : Int32))) ((10 : Int32)).toNatClampNeg ((1 : Int32) - ((upd u6_now ((9 : Int32)).toNatClampNeg ((u6_now ((9 : Int32)).toNatClampNeg) * (2 : Int32))) ((8 : Int32)).toNatClampNeg))), u6_before, u6_images, u6_tape, u6_trace, u6_readFirms, u6_readKinds, u6_readAt, u6_rows, u6_bests)) _ _ _ _ _ hM (Or.inl ⟨rfl, rfl, _, rfl⟩) (X.d (k := 50) rfl) Y
        · replace hM := mI hM c5
          refine r_ldc (pc' := 49) X mw684 24 rfl rfl ?_
          exact RT ((-1000002 : Int32), (u2_2_status, u2_2_points, u2_2_home, u2_2_men, u2_2_hasTable, u2_2_acts, u2_2_imaged, u2_2_length, u2_2_fault, u2_2_traced, u2_2_spot, u2_2_begins, u2_2_token, u2_2_number, u2_2_readPoints, u2_2_readHome, u2_2_readMen, u2_2_otherOne, u2_2_otherKind, u2_2_items, u2_2_lanes, u2_2_sizes, u2_2_firms, u2_2_kinds, u2_2_now, u2_2_before, u2_2_images, u2_2_tape, u2_2_trace, u2_2_readFirms, u2_2_readKinds, u2_2_readAt, u2_2_rows, u2_2_bests)) _ _ _ _ _ hM (Or.inl ⟨rfl, rfl, _, rfl⟩) (X.d (k := 25) rfl) Y

def M_X8_lay (S0 : MS) (i1 : Int32) (i2 : Int32) : Option (Int32 × MS) :=
  ((M_X8_isMan S0 i1).bind (fun u1 => (if u1 = 0 then (some ((-1000001 : Int32), S0)) else ((M_X8_in ((i2).toInt64) (0 : Int64) (((ms_points S0)).toInt64)).bind (fun u3 => (if u3 = 0 then (some ((-1000001 : Int32), S0)) else (if inb i1 12 = true then (if ((ms_now S0) (i1).toNatClampNeg) = i2 then (some ((-1000002 : Int32), S0)) else ((M_X8_note S0).bind (fun u7 => (if ((ms_now u7) (i1).toNatClampNeg) = (99 : Int32) then (some (((ms_points u7) + (1 : Int32)), (ms_s_now u7 (upd (ms_now u7) (i1).toNatClampNeg i2)))) else (some (((ms_now u7) (i1).toNatClampNeg), (ms_s_now u7 (upd (ms_now u7) (i1).toNatClampNeg i2)))))))) else none)))))))
def q_X8_lay : Room := { frames := 3, cells := 0, slots := 0, locals := 106 }
set_option maxHeartbeats 4000000 in
set_option maxRecDepth 100000 in
theorem c_X8_lay (l : Launch) (G : gT) (h h_items h_lanes h_sizes h_firms h_kinds h_now h_before h_images h_tape h_trace h_readFirms h_readKinds h_readAt h_rows h_bests : Nat) (S0_status : Int32) (S0_points : Int32) (S0_home : Int32) (S0_men : Int32) (S0_hasTable : Int32) (S0_acts : Int32) (S0_imaged : Int32) (S0_length : Int32) (S0_fault : Int32) (S0_traced : Int32) (S0_spot : Int32) (S0_begins : Int32) (S0_token : Int32) (S0_number : Int32) (S0_readPoints : Int32) (S0_readHome : Int32) (S0_readMen : Int32) (S0_otherOne : Int32) (S0_otherKind : Int32) (S0_items : Nat → Int32) (S0_lanes : Nat → Int32) (S0_sizes : Nat → Int32) (S0_firms : Nat → Int32) (S0_kinds : Nat → Int32) (S0_now : Nat → Int32) (S0_before : Nat → Int32) (S0_images : Nat → Int32) (S0_tape : Nat → Int32) (S0_trace : Nat → Int32) (S0_readFirms : Nat → Int32) (S0_readKinds : Nat → Int32) (S0_readAt : Nat → Int32) (S0_rows : Nat → Int32) (S0_bests : Nat → Int32) (i1 : Int32) (i2 : Int32) : CT l G yX8_lay cX8_lay 4 (some .int) q_X8_lay [.ref h, .int i1, .int i2] (wMS G h h_items h_lanes h_sizes h_firms h_kinds h_now h_before h_images h_tape h_trace h_readFirms h_readKinds h_readAt h_rows h_bests S0_status S0_points S0_home S0_men S0_hasTable S0_acts S0_imaged S0_length S0_fault S0_traced S0_spot S0_begins S0_token S0_number S0_readPoints S0_readHome S0_readMen S0_otherOne S0_otherKind S0_items S0_lanes S0_sizes S0_firms S0_kinds S0_now S0_before S0_images S0_tape S0_trace S0_readFirms S0_readKinds S0_readAt S0_rows S0_bests) (M_X8_lay (S0_status, S0_points, S0_home, S0_men, S0_hasTable, S0_acts, S0_imaged, S0_length, S0_fault, S0_traced, S0_spot, S0_begins, S0_token, S0_number, S0_readPoints, S0_readHome, S0_readMen, S0_otherOne, S0_otherKind, S0_items, S0_lanes, S0_sizes, S0_firms, S0_kinds, S0_now, S0_before, S0_images, S0_tape, S0_trace, S0_readFirms, S0_readKinds, S0_readAt, S0_rows, S0_bests) i1 i2) (fun u => some (.int u.1)) (fun u => wMS G h h_items h_lanes h_sizes h_firms h_kinds h_now h_before h_images h_tape h_trace h_readFirms h_readKinds h_readAt h_rows h_bests u.2.1 u.2.2.1 u.2.2.2.1 u.2.2.2.2.1 u.2.2.2.2.2.1 u.2.2.2.2.2.2.1 u.2.2.2.2.2.2.2.1 u.2.2.2.2.2.2.2.2.1 u.2.2.2.2.2.2.2.2.2.1 u.2.2.2.2.2.2.2.2.2.2.1 u.2.2.2.2.2.2.2.2.2.2.2.1 u.2.2.2.2.2.2.2.2.2.2.2.2.1 u.2.2.2.2.2.2.2.2.2.2.2.2.2.1 u.2.2.2.2.2.2.2.2.2.2.2.2.2.2.1 u.2.2.2.2.2.2.2.2.2.2.2.2.2.2.2.1 u.2.2.2.2.2.2.2.2.2.2.2.2.2.2.2.2.1 u.2.2.2.2.2.2.2.2.2.2.2.2.2.2.2.2.2.1 u.2.2.2.2.2.2.2.2.2.2.2.2.2.2.2.2.2.2.1 u.2.2.2.2.2.2.2.2.2.2.2.2.2.2.2.2.2.2.2.1 u.2.2.2.2.2.2.2.2.2.2.2.2.2.2.2.2.2.2.2.2.1 u.2.2.2.2.2.2.2.2.2.2.2.2.2.2.2.2.2.2.2.2.2.1 u.2.2.2.2.2.2.2.2.2.2.2.2.2.2.2.2.2.2.2.2.2.2.1 u.2.2.2.2.2.2.2.2.2.2.2.2.2.2.2.2.2.2.2.2.2.2.2.1 u.2.2.2.2.2.2.2.2.2.2.2.2.2.2.2.2.2.2.2.2.2.2.2.2.1 u.2.2.2.2.2.2.2.2.2.2.2.2.2.2.2.2.2.2.2.2.2.2.2.2.2.1 u.2.2.2.2.2.2.2.2.2.2.2.2.2.2.2.2.2.2.2.2.2.2.2.2.2.2.1 u.2.2.2.2.2.2.2.2.2.2.2.2.2.2.2.2.2.2.2.2.2.2.2.2.2.2.2.1 u.2.2.2.2.2.2.2.2.2.2.2.2.2.2.2.2.2.2.2.2.2.2.2.2.2.2.2.2.1 u.2.2.2.2.2.2.2.2.2.2.2.2.2.2.2.2.2.2.2.2.2.2.2.2.2.2.2.2.2.1 u.2.2.2.2.2.2.2.2.2.2.2.2.2.2.2.2.2.2.2.2.2.2.2.2.2.2.2.2.2.2.1 u.2.2.2.2.2.2.2.2.2.2.2.2.2.2.2.2.2.2.2.2.2.2.2.2.2.2.2.2.2.2.2.1 u.2.2.2.2.2.2.2.2.2.2.2.2.2.2.2.2.2.2.2.2.2.2.2.2.2.2.2.2.2.2.2.2.1 u.2.2.2.2.2.2.2.2.2.2.2.2.2.2.2.2.2.2.2.2.2.2.2.2.2.2.2.2.2.2.2.2.2.1 u.2.2.2.2.2.2.2.2.2.2.2.2.2.2.2.2.2.2.2.2.2.2.2.2.2.2.2.2.2.2.2.2.2.2) := by
  refine CT.of (P := PX8_lay) (by decide) dPX8_lay (Nat.le_of_ble_eq_true rfl) ?_
  intro p e s m args below meth c A Q ls hne X RT Y hl
  have hl : lv_has ls 4 [(0, .ref h), (1, .int i1), (2, .int i2)] := hl
  generalize hM : M_X8_lay (S0_status, S0_points, S0_home, S0_men, S0_hasTable, S0_acts, S0_imaged, S0_length, S0_fault, S0_traced, S0_spot, S0_begins, S0_token, S0_number, S0_readPoints, S0_readHome, S0_readMen, S0_otherOne, S0_otherKind, S0_items, S0_lanes, S0_sizes, S0_firms, S0_kinds, S0_now, S0_before, S0_images, S0_tape, S0_trace, S0_readFirms, S0_readKinds, S0_readAt, S0_rows, S0_bests) i1 i2 = MM at hne RT
  unfold M_X8_lay at hM
  refine r_aload_n (pc' := 1) X hl 0 rfl rfl 0 rfl rfl ?_
  refine r_iload_n (pc' := 2) X hl 1 rfl rfl 1 rfl rfl ?_
  refine r_callV0 (pc' := 5) (As := [.int i1]) (rest := []) X Y 2 rfl rfl mRX8_240 (c_X8_isMan l G h h_items h_lanes h_sizes h_firms h_kinds h_now h_before h_images h_tape h_trace h_readFirms h_readKinds h_readAt h_rows h_bests S0_status S0_points S0_home S0_men S0_hasTable S0_acts S0_imaged S0_length S0_fault S0_traced S0_spot S0_begins S0_token S0_number S0_readPoints S0_readHome S0_readMen S0_otherOne S0_otherKind S0_items S0_lanes S0_sizes S0_firms S0_kinds S0_now S0_before S0_images S0_tape S0_trace S0_readFirms S0_readKinds S0_readAt S0_rows S0_bests i1) (mB hM hne) 0 rfl rfl [0, 1, 2, 3, 4, 5, 6, 7, 8, 9, 10, 11, 12, 13, 14, 15] rfl rfl rfl (Nat.le_of_ble_eq_true rfl) ⟨rfl, rfl⟩ ⟨Nat.le_of_ble_eq_true rfl, Nat.le_of_ble_eq_true rfl⟩ ⟨Nat.zero_le _, Nat.zero_le _⟩ hl.1 (st' := fun u1 => [.int u1]) (fun _ => rfl) (fun u1 H locs huu1 Y => ?_)
  replace hM := mS hM huu1
  refine r_if_eq (pc' := 8) X 22 3 rfl rfl (by decide) (fun c2 => ?_) (fun c2 => ?_)
  · replace hM := mI hM c2
    refine r_ldc (pc' := 24) X mw542 12 rfl rfl ?_
    exact RT ((-1000001 : Int32), (S0_status, S0_points, S0_home, S0_men, S0_hasTable, S0_acts, S0_imaged, S0_length, S0_fault, S0_traced, S0_spot, S0_begins, S0_token, S0_number, S0_readPoints, S0_readHome, S0_readMen, S0_otherOne, S0_otherKind, S0_items, S0_lanes, S0_sizes, S0_firms, S0_kinds, S0_now, S0_before, S0_images, S0_tape, S0_trace, S0_readFirms, S0_readKinds, S0_readAt, S0_rows, S0_bests)) _ _ _ _ _ hM (Or.inl ⟨rfl, rfl, _, rfl⟩) (X.d (k := 13) rfl) Y
  · replace hM := mE hM c2
    refine r_iload_n (pc' := 9) X hl 2 rfl rfl 4 rfl rfl ?_
    refine r_i2l (pc' := 10) X 5 rfl rfl ?_
    refine r_lconst (pc' := 11) X (0 : Int64) 6 rfl rfl rfl ?_
    refine r_aload_n (pc' := 12) X hl 0 rfl rfl 7 rfl rfl ?_
    refine r_get (pc' := 15) (v := .int S0_points) X Y 8 rfl rfl fRX8_153 0 rfl rfl ?_
    refine r_i2l (pc' := 16) X 9 rfl rfl ?_
    refine r_callS0 (pc' := 19) (As := [.long (i2).toInt64, .long (0 : Int64), .long (S0_points).toInt64]) (rest := []) X Y 10 rfl rfl mRX8_66 (c_X8_in l G ((i2).toInt64) (0 : Int64) ((S0_points).toInt64)) (mB hM hne) rfl [] rfl rfl rfl (Nat.le_of_ble_eq_true rfl) ⟨rfl, rfl⟩ ⟨Nat.le_of_ble_eq_true rfl, Nat.le_of_ble_eq_true rfl⟩ ⟨Nat.zero_le _, Nat.zero_le _⟩ hl.1 (st' := fun u3 => [.int u3]) (fun _ => rfl) (fun u3 H locs huu3 Y => ?_)
    replace hM := mS hM huu3
    refine r_if_ne (pc' := 22) X 25 11 rfl rfl (by decide) (fun c4 => ?_) (fun c4 => ?_)
    · replace hM := mE hM c4
      refine r_aload_n (pc' := 26) X hl 0 rfl rfl 14 rfl rfl ?_
      refine r_get (pc' := 29) (v := .ref h_now) X Y 15 rfl rfl fRX8_25 0 rfl rfl ?_
      refine r_iload_n (pc' := 30) X hl 1 rfl rfl 16 rfl rfl ?_
      obtain ⟨g5, hM⟩ := mG hM hne
      refine r_iald (pc' := 31) X Y 17 rfl rfl 6 rfl (vin g5) ?_
      refine r_iload_n (pc' := 32) X hl 2 rfl rfl 18 rfl rfl ?_
      refine r_icmp_ne (pc' := 35) X 38 19 rfl rfl (by decide) (fun c6 => ?_) (fun c6 => ?_)
      · replace hM := mE hM c6
        refine r_aload_n (pc' := 39) X hl 0 rfl rfl 22 rfl rfl ?_
        refine r_callV (pc' := 42) (As := []) (rest := []) (wr := ([] : va_W)) X Y 23 rfl rfl mRX8_231 (c_X8_note l G h h_items h_lanes h_sizes h_firms h_kinds h_now h_before h_images h_tape h_trace h_readFirms h_readKinds h_readAt h_rows h_bests S0_status S0_points S0_home S0_men S0_hasTable S0_acts S0_imaged S0_length S0_fault S0_traced S0_spot S0_begins S0_token S0_number S0_readPoints S0_readHome S0_readMen S0_otherOne S0_otherKind S0_items S0_lanes S0_sizes S0_firms S0_kinds S0_now S0_before S0_images S0_tape S0_trace S0_readFirms S0_readKinds S0_readAt S0_rows S0_bests) (mB hM hne) 0 rfl rfl [0, 1, 2, 3, 4, 5, 6, 7, 8, 9, 10, 11, 12, 13, 14, 15] [] [0, 1, 2, 3, 4, 5, 6, 7, 8, 9, 10, 11, 12, 13, 14, 15] rfl rfl ⟨rfl, rfl, rfl⟩ rfl (w2 := fun u7 => wMS G h h_items h_lanes h_sizes h_firms h_kinds h_now h_before h_images h_tape h_trace h_readFirms h_readKinds h_readAt h_rows h_bests u7.1 u7.2.1 u7.2.2.1 u7.2.2.2.1 u7.2.2.2.2.1 u7.2.2.2.2.2.1 u7.2.2.2.2.2.2.1 u7.2.2.2.2.2.2.2.1 u7.2.2.2.2.2.2.2.2.1 u7.2.2.2.2.2.2.2.2.2.1 u7.2.2.2.2.2.2.2.2.2.2.1 u7.2.2.2.2.2.2.2.2.2.2.2.1 u7.2.2.2.2.2.2.2.2.2.2.2.2.1 u7.2.2.2.2.2.2.2.2.2.2.2.2.2.1 u7.2.2.2.2.2.2.2.2.2.2.2.2.2.2.1 u7.2.2.2.2.2.2.2.2.2.2.2.2.2.2.2.1 u7.2.2.2.2.2.2.2.2.2.2.2.2.2.2.2.2.1 u7.2.2.2.2.2.2.2.2.2.2.2.2.2.2.2.2.2.1 u7.2.2.2.2.2.2.2.2.2.2.2.2.2.2.2.2.2.2.1 u7.2.2.2.2.2.2.2.2.2.2.2.2.2.2.2.2.2.2.2.1 u7.2.2.2.2.2.2.2.2.2.2.2.2.2.2.2.2.2.2.2.2.1 u7.2.2.2.2.2.2.2.2.2.2.2.2.2.2.2.2.2.2.2.2.2.1 u7.2.2.2.2.2.2.2.2.2.2.2.2.2.2.2.2.2.2.2.2.2.2.1 u7.2.2.2.2.2.2.2.2.2.2.2.2.2.2.2.2.2.2.2.2.2.2.2.1 u7.2.2.2.2.2.2.2.2.2.2.2.2.2.2.2.2.2.2.2.2.2.2.2.2.1 u7.2.2.2.2.2.2.2.2.2.2.2.2.2.2.2.2.2.2.2.2.2.2.2.2.2.1 u7.2.2.2.2.2.2.2.2.2.2.2.2.2.2.2.2.2.2.2.2.2.2.2.2.2.2.1 u7.2.2.2.2.2.2.2.2.2.2.2.2.2.2.2.2.2.2.2.2.2.2.2.2.2.2.2.1 u7.2.2.2.2.2.2.2.2.2.2.2.2.2.2.2.2.2.2.2.2.2.2.2.2.2.2.2.2.1 u7.2.2.2.2.2.2.2.2.2.2.2.2.2.2.2.2.2.2.2.2.2.2.2.2.2.2.2.2.2.1 u7.2.2.2.2.2.2.2.2.2.2.2.2.2.2.2.2.2.2.2.2.2.2.2.2.2.2.2.2.2.2.1 u7.2.2.2.2.2.2.2.2.2.2.2.2.2.2.2.2.2.2.2.2.2.2.2.2.2.2.2.2.2.2.2.1 u7.2.2.2.2.2.2.2.2.2.2.2.2.2.2.2.2.2.2.2.2.2.2.2.2.2.2.2.2.2.2.2.2.1 u7.2.2.2.2.2.2.2.2.2.2.2.2.2.2.2.2.2.2.2.2.2.2.2.2.2.2.2.2.2.2.2.2.2) (fun _ => rfl) rfl (Nat.le_of_ble_eq_true rfl) ⟨rfl, rfl⟩ ⟨Nat.le_of_ble_eq_true rfl, Nat.le_of_ble_eq_true rfl⟩ ⟨Nat.zero_le _, Nat.zero_le _⟩ hl.1 (st' := fun u7 => []) (fun _ => rfl) (fun u7 H locs huu7 Y => ?_)
        obtain ⟨u7_status, u7_points, u7_home, u7_men, u7_hasTable, u7_acts, u7_imaged, u7_length, u7_fault, u7_traced, u7_spot, u7_begins, u7_token, u7_number, u7_readPoints, u7_readHome, u7_readMen, u7_otherOne, u7_otherKind, u7_items, u7_lanes, u7_sizes, u7_firms, u7_kinds, u7_now, u7_before, u7_images, u7_tape, u7_trace, u7_readFirms, u7_readKinds, u7_readAt, u7_rows, u7_bests⟩ := u7
        replace Y : rY G A s (wMS G h h_items h_lanes h_sizes h_firms h_kinds h_now h_before h_images h_tape h_trace h_readFirms h_readKinds h_readAt h_rows h_bests u7_status u7_points u7_home u7_men u7_hasTable u7_acts u7_imaged u7_length u7_fault u7_traced u7_spot u7_begins u7_token u7_number u7_readPoints u7_readHome u7_readMen u7_otherOne u7_otherKind u7_items u7_lanes u7_sizes u7_firms u7_kinds u7_now u7_before u7_images u7_tape u7_trace u7_readFirms u7_readKinds u7_readAt u7_rows u7_bests) H locs := Y
        replace hM := mS hM huu7
        show W p l e q_X8_lay s m args below meth c H locs 0 0 Q (F0 m 42 ls [])
        refine r_aload_n (pc' := 43) X hl 0 rfl rfl 24 rfl rfl ?_
        refine r_get (pc' := 46) (v := .ref h_now) X Y 25 rfl rfl fRX8_25 0 rfl rfl ?_
        refine r_iload_n (pc' := 47) X hl 1 rfl rfl 26 rfl rfl ?_
        refine r_iald (pc' := 48) X Y 27 rfl rfl 6 rfl (vin g5) ?_
        refine r_istore_n (pc' := 49) (L' := [(3, .int (u7_now (i1).toNatClampNeg)), (0, .ref h), (1, .int i1), (2, .int i2)]) X hl rfl 28 rfl rfl (by decide) rfl (fun ls hl => ?_)
        refine r_aload_n (pc' := 50) X hl 1 rfl rfl 29 rfl rfl ?_
        refine r_get (pc' := 53) (v := .ref h_now) X Y 30 rfl rfl fRX8_25 0 rfl rfl ?_
        refine r_iload_n (pc' := 54) X hl 2 rfl rfl 31 rfl rfl ?_
        refine r_iload_n (pc' := 55) X hl 3 rfl rfl 32 rfl rfl ?_
        refine r_iast (pc' := 56) (ws' := wMS G h h_items h_lanes h_sizes h_firms h_kinds h_now h_before h_images h_tape h_trace h_readFirms h_readKinds h_readAt h_rows h_bests u7_status u7_points u7_home u7_men u7_hasTable u7_acts u7_imaged u7_length u7_fault u7_traced u7_spot u7_begins u7_token u7_number u7_readPoints u7_readHome u7_readMen u7_otherOne u7_otherKind u7_items u7_lanes u7_sizes u7_firms u7_kinds (upd u7_now (i1).toNatClampNeg i2) u7_before u7_images u7_tape u7_trace u7_readFirms u7_readKinds u7_readAt u7_rows u7_bests) X Y 33 rfl rfl 6 rfl (vin g5) rfl (fun H locs Y => ?_)
        refine r_iload_n (pc' := 57) X hl 0 rfl rfl 34 rfl rfl ?_
        refine r_bipush (pc' := 59) X (99 : Int32) 35 rfl rfl rfl ?_
        refine r_icmp_ne (pc' := 62) X 71 36 rfl rfl (by decide) (fun c8 => ?_) (fun c8 => ?_)
        · replace hM := mE hM c8
          refine r_iload_n (pc' := 72) X hl 0 rfl rfl 42 rfl rfl ?_
          exact RT ((u7_now (i1).toNatClampNeg), (u7_status, u7_points, u7_home, u7_men, u7_hasTable, u7_acts, u7_imaged, u7_length, u7_fault, u7_traced, u7_spot, u7_begins, u7_token, u7_number, u7_readPoints, u7_readHome, u7_readMen, u7_otherOne, u7_otherKind, u7_items, u7_lanes, u7_sizes, u7_firms, u7_kinds, (upd u7_now (i1).toNatClampNeg i2), u7_before, u7_images, u7_tape, u7_trace, u7_readFirms, u7_readKinds, u7_readAt, u7_rows, u7_bests)) _ _ _ _ _ hM (Or.inl ⟨rfl, rfl, _, rfl⟩) (X.d (k := 43) rfl) Y
        · replace hM := mI hM c8
          refine r_aload_n (pc' := 63) X hl 1 rfl rfl 37 rfl rfl ?_
          refine r_get (pc' := 66) (v := .int u7_points) X Y 38 rfl rfl fRX8_153 0 rfl rfl ?_
          refine r_iconst (pc' := 67) X (1 : Int32) 39 rfl rfl rfl ?_
          refine r_iadd (pc' := 68) X 40 rfl rfl ?_
          refine r_goto X 72 41 rfl (by decide) ?_
          exact RT ((u7_points + (1 : Int32)), (u7_status, u7_points, u7_home, u7_men, u7_hasTable, u7_acts, u7_imaged, u7_length, u7_fault, u7_traced, u7_spot, u7_begins, u7_token, u7_number, u7_readPoints, u7_readHome, u7_readMen, u7_otherOne, u7_otherKind, u7_items, u7_lanes, u7_sizes, u7_firms, u7_kinds, (upd u7_now (i1).toNatClampNeg i2), u7_before, u7_images, u7_tape, u7_trace, u7_readFirms, u7_readKinds, u7_readAt, u7_rows, u7_bests)) _ _ _ _ _ hM (Or.inl ⟨rfl, rfl, _, rfl⟩) (X.d (k := 43) rfl) Y
      · replace hM := mI hM c6
        refine r_ldc (pc' := 37) X mw684 20 rfl rfl ?_
        exact RT ((-1000002 : Int32), (S0_status, S0_points, S0_home, S0_men, S0_hasTable, S0_acts, S0_imaged, S0_length, S0_fault, S0_traced, S0_spot, S0_begins, S0_token, S0_number, S0_readPoints, S0_readHome, S0_readMen, S0_otherOne, S0_otherKind, S0_items, S0_lanes, S0_sizes, S0_firms, S0_kinds, S0_now, S0_before, S0_images, S0_tape, S0_trace, S0_readFirms, S0_readKinds, S0_readAt, S0_rows, S0_bests)) _ _ _ _ _ hM (Or.inl ⟨rfl, rfl, _, rfl⟩) (X.d (k := 21) rfl) Y
    · replace hM := mI hM c4
      refine r_ldc (pc' := 24) X mw542 12 rfl rfl ?_
      exact RT ((-1000001 : Int32), (S0_status, S0_points, S0_home, S0_men, S0_hasTable, S0_acts, S0_imaged, S0_length, S0_fault, S0_traced, S0_spot, S0_begins, S0_token, S0_number, S0_readPoints, S0_readHome, S0_readMen, S0_otherOne, S0_otherKind, S0_items, S0_lanes, S0_sizes, S0_firms, S0_kinds, S0_now, S0_before, S0_images, S0_tape, S0_trace, S0_readFirms, S0_readKinds, S0_readAt, S0_rows, S0_bests)) _ _ _ _ _ hM (Or.inl ⟨rfl, rfl, _, rfl⟩) (X.d (k := 13) rfl) Y

def M_X8_man (S0 : MS) (i1 : Int32) (i2 : Int32) : Option (Int32) :=
  ((M_X8_isMan S0 i1).bind (fun u1 => (if u1 = 0 then (some (-1000001 : Int32)) else ((M_X8_in ((i2).toInt64) (0 : Int64) (3 : Int64)).bind (fun u3 => (if u3 = 0 then (some (-1000001 : Int32)) else (if inb i1 8 = true then (if inb i1 12 = true then ((M_X8_pipsAt S0 (((ms_firms S0) (i1).toNatClampNeg)) (((ms_now S0) (i1).toNatClampNeg))).bind (fun u7 => (if i2 = 0 then (some ((ms_firms S0) (i1).toNatClampNeg)) else (if i2 = (1 : Int32) then (if ((ms_now S0) (i1).toNatClampNeg) = (99 : Int32) then (some (-1000000 : Int32)) else (some ((ms_now S0) (i1).toNatClampNeg))) else (if i2 = (2 : Int32) then (some u7) else (if (ms_home S0) < u7 then (some (0 : Int32)) else (some (1 : Int32)))))))) else none) else none)))))))
def q_X8_man : Room := { frames := 3, cells := 0, slots := 0, locals := 106 }
set_option maxHeartbeats 4000000 in
set_option maxRecDepth 100000 in
theorem c_X8_man (l : Launch) (G : gT) (h h_items h_lanes h_sizes h_firms h_kinds h_now h_before h_images h_tape h_trace h_readFirms h_readKinds h_readAt h_rows h_bests : Nat) (S0_status : Int32) (S0_points : Int32) (S0_home : Int32) (S0_men : Int32) (S0_hasTable : Int32) (S0_acts : Int32) (S0_imaged : Int32) (S0_length : Int32) (S0_fault : Int32) (S0_traced : Int32) (S0_spot : Int32) (S0_begins : Int32) (S0_token : Int32) (S0_number : Int32) (S0_readPoints : Int32) (S0_readHome : Int32) (S0_readMen : Int32) (S0_otherOne : Int32) (S0_otherKind : Int32) (S0_items : Nat → Int32) (S0_lanes : Nat → Int32) (S0_sizes : Nat → Int32) (S0_firms : Nat → Int32) (S0_kinds : Nat → Int32) (S0_now : Nat → Int32) (S0_before : Nat → Int32) (S0_images : Nat → Int32) (S0_tape : Nat → Int32) (S0_trace : Nat → Int32) (S0_readFirms : Nat → Int32) (S0_readKinds : Nat → Int32) (S0_readAt : Nat → Int32) (S0_rows : Nat → Int32) (S0_bests : Nat → Int32) (i1 : Int32) (i2 : Int32) : CT l G yX8_man cX8_man 4 (some .int) q_X8_man [.ref h, .int i1, .int i2] (wMS G h h_items h_lanes h_sizes h_firms h_kinds h_now h_before h_images h_tape h_trace h_readFirms h_readKinds h_readAt h_rows h_bests S0_status S0_points S0_home S0_men S0_hasTable S0_acts S0_imaged S0_length S0_fault S0_traced S0_spot S0_begins S0_token S0_number S0_readPoints S0_readHome S0_readMen S0_otherOne S0_otherKind S0_items S0_lanes S0_sizes S0_firms S0_kinds S0_now S0_before S0_images S0_tape S0_trace S0_readFirms S0_readKinds S0_readAt S0_rows S0_bests) (M_X8_man (S0_status, S0_points, S0_home, S0_men, S0_hasTable, S0_acts, S0_imaged, S0_length, S0_fault, S0_traced, S0_spot, S0_begins, S0_token, S0_number, S0_readPoints, S0_readHome, S0_readMen, S0_otherOne, S0_otherKind, S0_items, S0_lanes, S0_sizes, S0_firms, S0_kinds, S0_now, S0_before, S0_images, S0_tape, S0_trace, S0_readFirms, S0_readKinds, S0_readAt, S0_rows, S0_bests) i1 i2) (fun u => some (.int u)) (fun u => wMS G h h_items h_lanes h_sizes h_firms h_kinds h_now h_before h_images h_tape h_trace h_readFirms h_readKinds h_readAt h_rows h_bests S0_status S0_points S0_home S0_men S0_hasTable S0_acts S0_imaged S0_length S0_fault S0_traced S0_spot S0_begins S0_token S0_number S0_readPoints S0_readHome S0_readMen S0_otherOne S0_otherKind S0_items S0_lanes S0_sizes S0_firms S0_kinds S0_now S0_before S0_images S0_tape S0_trace S0_readFirms S0_readKinds S0_readAt S0_rows S0_bests) := by
  refine CT.of (P := PX8_man) (by decide) dPX8_man (Nat.le_of_ble_eq_true rfl) ?_
  intro p e s m args below meth c A Q ls hne X RT Y hl
  have hl : lv_has ls 4 [(0, .ref h), (1, .int i1), (2, .int i2)] := hl
  generalize hM : M_X8_man (S0_status, S0_points, S0_home, S0_men, S0_hasTable, S0_acts, S0_imaged, S0_length, S0_fault, S0_traced, S0_spot, S0_begins, S0_token, S0_number, S0_readPoints, S0_readHome, S0_readMen, S0_otherOne, S0_otherKind, S0_items, S0_lanes, S0_sizes, S0_firms, S0_kinds, S0_now, S0_before, S0_images, S0_tape, S0_trace, S0_readFirms, S0_readKinds, S0_readAt, S0_rows, S0_bests) i1 i2 = MM at hne RT
  unfold M_X8_man at hM
  refine r_aload_n (pc' := 1) X hl 0 rfl rfl 0 rfl rfl ?_
  refine r_iload_n (pc' := 2) X hl 1 rfl rfl 1 rfl rfl ?_
  refine r_callV0 (pc' := 5) (As := [.int i1]) (rest := []) X Y 2 rfl rfl mRX8_240 (c_X8_isMan l G h h_items h_lanes h_sizes h_firms h_kinds h_now h_before h_images h_tape h_trace h_readFirms h_readKinds h_readAt h_rows h_bests S0_status S0_points S0_home S0_men S0_hasTable S0_acts S0_imaged S0_length S0_fault S0_traced S0_spot S0_begins S0_token S0_number S0_readPoints S0_readHome S0_readMen S0_otherOne S0_otherKind S0_items S0_lanes S0_sizes S0_firms S0_kinds S0_now S0_before S0_images S0_tape S0_trace S0_readFirms S0_readKinds S0_readAt S0_rows S0_bests i1) (mB hM hne) 0 rfl rfl [0, 1, 2, 3, 4, 5, 6, 7, 8, 9, 10, 11, 12, 13, 14, 15] rfl rfl rfl (Nat.le_of_ble_eq_true rfl) ⟨rfl, rfl⟩ ⟨Nat.le_of_ble_eq_true rfl, Nat.le_of_ble_eq_true rfl⟩ ⟨Nat.zero_le _, Nat.zero_le _⟩ hl.1 (st' := fun u1 => [.int u1]) (fun _ => rfl) (fun u1 H locs huu1 Y => ?_)
  replace hM := mS hM huu1
  refine r_if_eq (pc' := 8) X 20 3 rfl rfl (by decide) (fun c2 => ?_) (fun c2 => ?_)
  · replace hM := mI hM c2
    refine r_ldc (pc' := 22) X mw542 10 rfl rfl ?_
    exact RT (-1000001 : Int32) _ _ _ _ _ hM (Or.inl ⟨rfl, rfl, _, rfl⟩) (X.d (k := 11) rfl) Y
  · replace hM := mE hM c2
    refine r_iload_n (pc' := 9) X hl 2 rfl rfl 4 rfl rfl ?_
    refine r_i2l (pc' := 10) X 5 rfl rfl ?_
    refine r_lconst (pc' := 11) X (0 : Int64) 6 rfl rfl rfl ?_
    refine r_ldc2 (pc' := 14) X mw707 7 rfl rfl ?_
    refine r_callS0 (pc' := 17) (As := [.long (i2).toInt64, .long (0 : Int64), .long (3 : Int64)]) (rest := []) X Y 8 rfl rfl mRX8_66 (c_X8_in l G ((i2).toInt64) (0 : Int64) (3 : Int64)) (mB hM hne) rfl [] rfl rfl rfl (Nat.le_of_ble_eq_true rfl) ⟨rfl, rfl⟩ ⟨Nat.le_of_ble_eq_true rfl, Nat.le_of_ble_eq_true rfl⟩ ⟨Nat.zero_le _, Nat.zero_le _⟩ hl.1 (st' := fun u3 => [.int u3]) (fun _ => rfl) (fun u3 H locs huu3 Y => ?_)
    replace hM := mS hM huu3
    refine r_if_ne (pc' := 20) X 23 9 rfl rfl (by decide) (fun c4 => ?_) (fun c4 => ?_)
    · replace hM := mE hM c4
      refine r_aload_n (pc' := 24) X hl 0 rfl rfl 12 rfl rfl ?_
      refine r_aload_n (pc' := 25) X hl 0 rfl rfl 13 rfl rfl ?_
      refine r_get (pc' := 28) (v := .ref h_firms) X Y 14 rfl rfl fRX8_19 0 rfl rfl ?_
      refine r_iload_n (pc' := 29) X hl 1 rfl rfl 15 rfl rfl ?_
      obtain ⟨g5, hM⟩ := mG hM hne
      refine r_iald (pc' := 30) X Y 16 rfl rfl 4 rfl (vin g5) ?_
      refine r_aload_n (pc' := 31) X hl 0 rfl rfl 17 rfl rfl ?_
      refine r_get (pc' := 34) (v := .ref h_now) X Y 18 rfl rfl fRX8_25 0 rfl rfl ?_
      refine r_iload_n (pc' := 35) X hl 1 rfl rfl 19 rfl rfl ?_
      obtain ⟨g6, hM⟩ := mG hM hne
      refine r_iald (pc' := 36) X Y 20 rfl rfl 6 rfl (vin g6) ?_
      refine r_callV0 (pc' := 39) (As := [.int (S0_firms (i1).toNatClampNeg), .int (S0_now (i1).toNatClampNeg)]) (rest := []) X Y 21 rfl rfl mRX8_172 (c_X8_pipsAt l G h h_items h_lanes h_sizes h_firms h_kinds h_now h_before h_images h_tape h_trace h_readFirms h_readKinds h_readAt h_rows h_bests S0_status S0_points S0_home S0_men S0_hasTable S0_acts S0_imaged S0_length S0_fault S0_traced S0_spot S0_begins S0_token S0_number S0_readPoints S0_readHome S0_readMen S0_otherOne S0_otherKind S0_items S0_lanes S0_sizes S0_firms S0_kinds S0_now S0_before S0_images S0_tape S0_trace S0_readFirms S0_readKinds S0_readAt S0_rows S0_bests ((S0_firms (i1).toNatClampNeg)) ((S0_now (i1).toNatClampNeg))) (mB hM hne) 0 rfl rfl [0, 1, 2, 3, 4, 5, 6, 7, 8, 9, 10, 11, 12, 13, 14, 15] rfl rfl rfl (Nat.le_of_ble_eq_true rfl) ⟨rfl, rfl⟩ ⟨Nat.le_of_ble_eq_true rfl, Nat.le_of_ble_eq_true rfl⟩ ⟨Nat.zero_le _, Nat.zero_le _⟩ hl.1 (st' := fun u7 => [.int u7]) (fun _ => rfl) (fun u7 H locs huu7 Y => ?_)
      replace hM := mS hM huu7
      refine r_istore_n (pc' := 40) (L' := [(3, .int u7), (0, .ref h), (1, .int i1), (2, .int i2)]) X hl rfl 22 rfl rfl (by decide) rfl (fun ls hl => ?_)
      refine r_iload_n (pc' := 41) X hl 3 rfl rfl 23 rfl rfl ?_
      refine r_if_ne (pc' := 44) X 53 24 rfl rfl (by decide) (fun c8 => ?_) (fun c8 => ?_)
      · replace hM := mE hM c8
        refine r_iload_n (pc' := 54) X hl 3 rfl rfl 30 rfl rfl ?_
        refine r_iconst (pc' := 55) X (1 : Int32) 31 rfl rfl rfl ?_
        refine r_icmp_ne (pc' := 58) X 83 32 rfl rfl (by decide) (fun c9 => ?_) (fun c9 => ?_)
        · replace hM := mE hM c9
          refine r_iload_n (pc' := 84) X hl 3 rfl rfl 46 rfl rfl ?_
          refine r_iconst (pc' := 85) X (2 : Int32) 47 rfl rfl rfl ?_
          refine r_icmp_ne (pc' := 88) X 92 48 rfl rfl (by decide) (fun c10 => ?_) (fun c10 => ?_)
          · replace hM := mE hM c10
            refine r_iload_n (pc' := 93) X hl 0 rfl rfl 51 rfl rfl ?_
            refine r_aload_n (pc' := 94) X hl 1 rfl rfl 52 rfl rfl ?_
            refine r_get (pc' := 97) (v := .int S0_home) X Y 53 rfl rfl fRX8_156 0 rfl rfl ?_
            refine r_icmp_gt (pc' := 100) X 104 54 rfl rfl (by decide) (fun c11 => ?_) (fun c11 => ?_)
            · replace hM := mI hM c11
              refine r_iconst (pc' := 105) X (0 : Int32) 57 rfl rfl rfl ?_
              exact RT (0 : Int32) _ _ _ _ _ hM (Or.inl ⟨rfl, rfl, _, rfl⟩) (X.d (k := 58) rfl) Y
            · replace hM := mE hM c11
              refine r_iconst (pc' := 101) X (1 : Int32) 55 rfl rfl rfl ?_
              refine r_goto X 105 56 rfl (by decide) ?_
              exact RT (1 : Int32) _ _ _ _ _ hM (Or.inl ⟨rfl, rfl, _, rfl⟩) (X.d (k := 58) rfl) Y
          · replace hM := mI hM c10
            refine r_iload_n (pc' := 89) X hl 0 rfl rfl 49 rfl rfl ?_
            refine r_goto X 105 50 rfl (by decide) ?_
            exact RT u7 _ _ _ _ _ hM (Or.inl ⟨rfl, rfl, _, rfl⟩) (X.d (k := 58) rfl) Y
        · replace hM := mI hM c9
          refine r_aload_n (pc' := 59) X hl 1 rfl rfl 33 rfl rfl ?_
          refine r_get (pc' := 62) (v := .ref h_now) X Y 34 rfl rfl fRX8_25 0 rfl rfl ?_
          refine r_iload_n (pc' := 63) X hl 2 rfl rfl 35 rfl rfl ?_
          refine r_iald (pc' := 64) X Y 36 rfl rfl 6 rfl (vin g6) ?_
          refine r_bipush (pc' := 66) X (99 : Int32) 37 rfl rfl rfl ?_
          refine r_icmp_ne (pc' := 69) X 74 38 rfl rfl (by decide) (fun c12 => ?_) (fun c12 => ?_)
          · replace hM := mE hM c12
            refine r_aload_n (pc' := 75) X hl 1 rfl rfl 41 rfl rfl ?_
            refine r_get (pc' := 78) (v := .ref h_now) X Y 42 rfl rfl fRX8_25 0 rfl rfl ?_
            refine r_iload_n (pc' := 79) X hl 2 rfl rfl 43 rfl rfl ?_
            refine r_iald (pc' := 80) X Y 44 rfl rfl 6 rfl (vin g6) ?_
            refine r_goto X 105 45 rfl (by decide) ?_
            exact RT (S0_now (i1).toNatClampNeg) _ _ _ _ _ hM (Or.inl ⟨rfl, rfl, _, rfl⟩) (X.d (k := 58) rfl) Y
          · replace hM := mI hM c12
            refine r_ldc (pc' := 71) X mw526 39 rfl rfl ?_
            refine r_goto X 105 40 rfl (by decide) ?_
            exact RT (-1000000 : Int32) _ _ _ _ _ hM (Or.inl ⟨rfl, rfl, _, rfl⟩) (X.d (k := 58) rfl) Y
      · replace hM := mI hM c8
        refine r_aload_n (pc' := 45) X hl 1 rfl rfl 25 rfl rfl ?_
        refine r_get (pc' := 48) (v := .ref h_firms) X Y 26 rfl rfl fRX8_19 0 rfl rfl ?_
        refine r_iload_n (pc' := 49) X hl 2 rfl rfl 27 rfl rfl ?_
        refine r_iald (pc' := 50) X Y 28 rfl rfl 4 rfl (vin g5) ?_
        refine r_goto X 105 29 rfl (by decide) ?_
        exact RT (S0_firms (i1).toNatClampNeg) _ _ _ _ _ hM (Or.inl ⟨rfl, rfl, _, rfl⟩) (X.d (k := 58) rfl) Y
    · replace hM := mI hM c4
      refine r_ldc (pc' := 22) X mw542 10 rfl rfl ?_
      exact RT (-1000001 : Int32) _ _ _ _ _ hM (Or.inl ⟨rfl, rfl, _, rfl⟩) (X.d (k := 11) rfl) Y

def M_X8_on (S0 : MS) (i1 : Int32) (i2 : Int32) : Option (Int32) :=
  (if (ms_hasTable S0) = 0 then (some (-1000001 : Int32)) else ((M_X8_isFirm i1).bind (fun u2 => (if u2 = 0 then (some (-1000001 : Int32)) else ((M_X8_in ((i2).toInt64) (0 : Int64) ((((ms_points S0) + (1 : Int32))).toInt64)).bind (fun u4 => (if u4 = 0 then (some (-1000001 : Int32)) else ((lp (σ := Int32 × Int32) (β := Int32) (fun rec6 st6 => (if (ms_men S0) ≤ st6.2 then (some st6.1) else (jn (σ := Int32) (fun v8 => (if inb st6.2 8 = true then (if ((ms_firms S0) (st6.2).toNatClampNeg) = i1 then (if v8 = 0 then (rec6 ((st6.1 ||| (0 : Int32)), (st6.2 + (1 : Int32)))) else (rec6 ((st6.1 ||| ((1 : Int32) <<< (st6.2 &&& 31))), (st6.2 + (1 : Int32))))) else (rec6 ((st6.1 ||| (0 : Int32)), (st6.2 + (1 : Int32))))) else none)) (fun J8 => (if i2 ≤ (ms_points S0) then (if inb st6.2 12 = true then (if ((ms_now S0) (st6.2).toNatClampNeg) = i2 then (J8 (1 : Int32)) else (J8 (0 : Int32))) else none) else (if inb st6.2 12 = true then (if ((ms_now S0) (st6.2).toNatClampNeg) = (99 : Int32) then (J8 (1 : Int32)) else (J8 (0 : Int32))) else none)))))) 1000000 ((0 : Int32), (0 : Int32))).bind (fun b6 => (some b6))))))))))
def q_X8_on : Room := { frames := 3, cells := 0, slots := 0, locals := 105 }
set_option maxHeartbeats 4000000 in
set_option maxRecDepth 100000 in
theorem c_X8_on (l : Launch) (G : gT) (h h_items h_lanes h_sizes h_firms h_kinds h_now h_before h_images h_tape h_trace h_readFirms h_readKinds h_readAt h_rows h_bests : Nat) (S0_status : Int32) (S0_points : Int32) (S0_home : Int32) (S0_men : Int32) (S0_hasTable : Int32) (S0_acts : Int32) (S0_imaged : Int32) (S0_length : Int32) (S0_fault : Int32) (S0_traced : Int32) (S0_spot : Int32) (S0_begins : Int32) (S0_token : Int32) (S0_number : Int32) (S0_readPoints : Int32) (S0_readHome : Int32) (S0_readMen : Int32) (S0_otherOne : Int32) (S0_otherKind : Int32) (S0_items : Nat → Int32) (S0_lanes : Nat → Int32) (S0_sizes : Nat → Int32) (S0_firms : Nat → Int32) (S0_kinds : Nat → Int32) (S0_now : Nat → Int32) (S0_before : Nat → Int32) (S0_images : Nat → Int32) (S0_tape : Nat → Int32) (S0_trace : Nat → Int32) (S0_readFirms : Nat → Int32) (S0_readKinds : Nat → Int32) (S0_readAt : Nat → Int32) (S0_rows : Nat → Int32) (S0_bests : Nat → Int32) (i1 : Int32) (i2 : Int32) : CT l G yX8_on cX8_on 6 (some .int) q_X8_on [.ref h, .int i1, .int i2] (wMS G h h_items h_lanes h_sizes h_firms h_kinds h_now h_before h_images h_tape h_trace h_readFirms h_readKinds h_readAt h_rows h_bests S0_status S0_points S0_home S0_men S0_hasTable S0_acts S0_imaged S0_length S0_fault S0_traced S0_spot S0_begins S0_token S0_number S0_readPoints S0_readHome S0_readMen S0_otherOne S0_otherKind S0_items S0_lanes S0_sizes S0_firms S0_kinds S0_now S0_before S0_images S0_tape S0_trace S0_readFirms S0_readKinds S0_readAt S0_rows S0_bests) (M_X8_on (S0_status, S0_points, S0_home, S0_men, S0_hasTable, S0_acts, S0_imaged, S0_length, S0_fault, S0_traced, S0_spot, S0_begins, S0_token, S0_number, S0_readPoints, S0_readHome, S0_readMen, S0_otherOne, S0_otherKind, S0_items, S0_lanes, S0_sizes, S0_firms, S0_kinds, S0_now, S0_before, S0_images, S0_tape, S0_trace, S0_readFirms, S0_readKinds, S0_readAt, S0_rows, S0_bests) i1 i2) (fun u => some (.int u)) (fun u => wMS G h h_items h_lanes h_sizes h_firms h_kinds h_now h_before h_images h_tape h_trace h_readFirms h_readKinds h_readAt h_rows h_bests S0_status S0_points S0_home S0_men S0_hasTable S0_acts S0_imaged S0_length S0_fault S0_traced S0_spot S0_begins S0_token S0_number S0_readPoints S0_readHome S0_readMen S0_otherOne S0_otherKind S0_items S0_lanes S0_sizes S0_firms S0_kinds S0_now S0_before S0_images S0_tape S0_trace S0_readFirms S0_readKinds S0_readAt S0_rows S0_bests) := by
  refine CT.of (P := PX8_on) (by decide) dPX8_on (Nat.le_of_ble_eq_true rfl) ?_
  intro p e s m args below meth c A Q ls hne X RT Y hl
  have hl : lv_has ls 6 [(0, .ref h), (1, .int i1), (2, .int i2)] := hl
  generalize hM : M_X8_on (S0_status, S0_points, S0_home, S0_men, S0_hasTable, S0_acts, S0_imaged, S0_length, S0_fault, S0_traced, S0_spot, S0_begins, S0_token, S0_number, S0_readPoints, S0_readHome, S0_readMen, S0_otherOne, S0_otherKind, S0_items, S0_lanes, S0_sizes, S0_firms, S0_kinds, S0_now, S0_before, S0_images, S0_tape, S0_trace, S0_readFirms, S0_readKinds, S0_readAt, S0_rows, S0_bests) i1 i2 = MM at hne RT
  unfold M_X8_on at hM
  refine r_aload_n (pc' := 1) X hl 0 rfl rfl 0 rfl rfl ?_
  refine r_get (pc' := 4) (v := .int S0_hasTable) X Y 1 rfl rfl fRX8_162 0 rfl rfl ?_
  refine r_if_eq (pc' := 7) X 30 2 rfl rfl (by decide) (fun c1 => ?_) (fun c1 => ?_)
  · replace hM := mI hM c1
    refine r_ldc (pc' := 32) X mw542 16 rfl rfl ?_
    exact RT (-1000001 : Int32) _ _ _ _ _ hM (Or.inl ⟨rfl, rfl, _, rfl⟩) (X.d (k := 17) rfl) Y
  · replace hM := mE hM c1
    refine r_iload_n (pc' := 8) X hl 1 rfl rfl 3 rfl rfl ?_
    refine r_callS0 (pc' := 11) (As := [.int i1]) (rest := []) X Y 4 rfl rfl mRX8_245 (c_X8_isFirm l G i1) (mB hM hne) rfl [] rfl rfl rfl (Nat.le_of_ble_eq_true rfl) ⟨rfl, rfl⟩ ⟨Nat.le_of_ble_eq_true rfl, Nat.le_of_ble_eq_true rfl⟩ ⟨Nat.zero_le _, Nat.zero_le _⟩ hl.1 (st' := fun u2 => [.int u2]) (fun _ => rfl) (fun u2 H locs huu2 Y => ?_)
    replace hM := mS hM huu2
    refine r_if_eq (pc' := 14) X 30 5 rfl rfl (by decide) (fun c3 => ?_) (fun c3 => ?_)
    · replace hM := mI hM c3
      refine r_ldc (pc' := 32) X mw542 16 rfl rfl ?_
      exact RT (-1000001 : Int32) _ _ _ _ _ hM (Or.inl ⟨rfl, rfl, _, rfl⟩) (X.d (k := 17) rfl) Y
    · replace hM := mE hM c3
      refine r_iload_n (pc' := 15) X hl 2 rfl rfl 6 rfl rfl ?_
      refine r_i2l (pc' := 16) X 7 rfl rfl ?_
      refine r_lconst (pc' := 17) X (0 : Int64) 8 rfl rfl rfl ?_
      refine r_aload_n (pc' := 18) X hl 0 rfl rfl 9 rfl rfl ?_
      refine r_get (pc' := 21) (v := .int S0_points) X Y 10 rfl rfl fRX8_153 0 rfl rfl ?_
      refine r_iconst (pc' := 22) X (1 : Int32) 11 rfl rfl rfl ?_
      refine r_iadd (pc' := 23) X 12 rfl rfl ?_
      refine r_i2l (pc' := 24) X 13 rfl rfl ?_
      refine r_callS0 (pc' := 27) (As := [.long (i2).toInt64, .long (0 : Int64), .long ((S0_points + (1 : Int32))).toInt64]) (rest := []) X Y 14 rfl rfl mRX8_66 (c_X8_in l G ((i2).toInt64) (0 : Int64) (((S0_points + (1 : Int32))).toInt64)) (mB hM hne) rfl [] rfl rfl rfl (Nat.le_of_ble_eq_true rfl) ⟨rfl, rfl⟩ ⟨Nat.le_of_ble_eq_true rfl, Nat.le_of_ble_eq_true rfl⟩ ⟨Nat.zero_le _, Nat.zero_le _⟩ hl.1 (st' := fun u4 => [.int u4]) (fun _ => rfl) (fun u4 H locs huu4 Y => ?_)
      replace hM := mS hM huu4
      refine r_if_ne (pc' := 30) X 33 15 rfl rfl (by decide) (fun c5 => ?_) (fun c5 => ?_)
      · replace hM := mE hM c5
        refine r_iconst (pc' := 34) X (0 : Int32) 18 rfl rfl rfl ?_
        refine r_istore_n (pc' := 35) (L' := [(3, .int (0 : Int32)), (0, .ref h), (1, .int i1), (2, .int i2)]) X hl rfl 19 rfl rfl (by decide) rfl (fun ls hl => ?_)
        refine r_iconst (pc' := 36) X (0 : Int32) 20 rfl rfl rfl ?_
        refine r_istore (pc' := 38) (L' := [(4, .int (0 : Int32)), (3, .int (0 : Int32)), (0, .ref h), (1, .int i1), (2, .int i2)]) X hl 21 rfl rfl (by decide) rfl (fun ls hl => ?_)
        obtain ⟨LL6, hL6, hne6, hX6⟩ := mL hM hne
        have KX6 : ∀ (b6 : Int32) (H : Heap) (locs : List Loc) (ls : Array Slot), some b6 = LL6 → rY G A s (wMS G h h_items h_lanes h_sizes h_firms h_kinds h_now h_before h_images h_tape h_trace h_readFirms h_readKinds h_readAt h_rows h_bests S0_status S0_points S0_home S0_men S0_hasTable S0_acts S0_imaged S0_length S0_fault S0_traced S0_spot S0_begins S0_token S0_number S0_readPoints S0_readHome S0_readMen S0_otherOne S0_otherKind S0_items S0_lanes S0_sizes S0_firms S0_kinds S0_now S0_before S0_images S0_tape S0_trace S0_readFirms S0_readKinds S0_readAt S0_rows S0_bests) H locs → lv_has ls 6 [(3, .int b6)] → W p l e q_X8_on s m args below meth c H locs 0 0 Q (F0 m 126 ls []) := by
          intro b6 H locs ls hM Y hl
          replace hM := hX6 _ hM
          refine r_iload_n (pc' := 127) X hl 0 rfl rfl 68 rfl rfl ?_
          exact RT b6 _ _ _ _ _ hM (Or.inl ⟨rfl, rfl, _, rfl⟩) (X.d (k := 69) rfl) Y
        refine lp_rule (I := fun (st6 : Int32 × Int32) => ∀ (H : Heap) (locs : List Loc) (ls : Array Slot), rY G A s (wMS G h h_items h_lanes h_sizes h_firms h_kinds h_now h_before h_images h_tape h_trace h_readFirms h_readKinds h_readAt h_rows h_bests S0_status S0_points S0_home S0_men S0_hasTable S0_acts S0_imaged S0_length S0_fault S0_traced S0_spot S0_begins S0_token S0_number S0_readPoints S0_readHome S0_readMen S0_otherOne S0_otherKind S0_items S0_lanes S0_sizes S0_firms S0_kinds S0_now S0_before S0_images S0_tape S0_trace S0_readFirms S0_readKinds S0_readAt S0_rows S0_bests) H locs → lv_has ls 6 [(0, .ref h), (1, .int i1), (2, .int i2), (3, .int st6.1), (4, .int st6.2)] → W p l e q_X8_on s m args below meth c H locs 0 0 Q (F0 m 38 ls [])) hne6 (fun rec6 st6 IH6 hM => ?_) _ _ hL6 _ _ _ Y (lv_sub hl [2, 3, 4, 1, 0] rfl)
        intro H locs ls Y hl
        obtain ⟨st6_1, st6_2⟩ := st6
        replace Y : rY G A s (wMS G h h_items h_lanes h_sizes h_firms h_kinds h_now h_before h_images h_tape h_trace h_readFirms h_readKinds h_readAt h_rows h_bests S0_status S0_points S0_home S0_men S0_hasTable S0_acts S0_imaged S0_length S0_fault S0_traced S0_spot S0_begins S0_token S0_number S0_readPoints S0_readHome S0_readMen S0_otherOne S0_otherKind S0_items S0_lanes S0_sizes S0_firms S0_kinds S0_now S0_before S0_images S0_tape S0_trace S0_readFirms S0_readKinds S0_readAt S0_rows S0_bests) H locs := Y
        replace hl : lv_has ls 6 [(0, .ref h), (1, .int i1), (2, .int i2), (3, .int st6_1), (4, .int st6_2)] := hl
        refine r_iload (pc' := 40) X hl 4 rfl 22 rfl rfl ?_
        refine r_aload_n (pc' := 41) X hl 0 rfl rfl 23 rfl rfl ?_
        refine r_get (pc' := 44) (v := .int S0_men) X Y 24 rfl rfl fRX8_159 0 rfl rfl ?_
        refine r_icmp_ge (pc' := 47) X 126 25 rfl rfl (by decide) (fun c7 => ?_) (fun c7 => ?_)
        · replace hM := mI hM c7
          exact KX6 st6_1 _ _ _ hM Y (lv_sub hl [3] rfl)
        · replace hM := mE hM c7
          refine r_iload_n (pc' := 48) X hl 2 rfl rfl 26 rfl rfl ?_
          refine r_aload_n (pc' := 49) X hl 0 rfl rfl 27 rfl rfl ?_
          refine r_get (pc' := 52) (v := .int S0_points) X Y 28 rfl rfl fRX8_153 0 rfl rfl ?_
          obtain ⟨J8, hJ8, hM⟩ := mJ hM
          have KJ8 : ∀ (v8 : Int32) (H : Heap) (locs : List Loc) (ls : Array Slot), J8 v8 = LL6 → rY G A s (wMS G h h_items h_lanes h_sizes h_firms h_kinds h_now h_before h_images h_tape h_trace h_readFirms h_readKinds h_readAt h_rows h_bests S0_status S0_points S0_home S0_men S0_hasTable S0_acts S0_imaged S0_length S0_fault S0_traced S0_spot S0_begins S0_token S0_number S0_readPoints S0_readHome S0_readMen S0_otherOne S0_otherKind S0_items S0_lanes S0_sizes S0_firms S0_kinds S0_now S0_before S0_images S0_tape S0_trace S0_readFirms S0_readKinds S0_readAt S0_rows S0_bests) H locs → lv_has ls 6 [(0, .ref h), (1, .int i1), (2, .int i2), (3, .int st6_1), (4, .int st6_2)] → W p l e q_X8_on s m args below meth c H locs 0 0 Q (F0 m 91 ls [.int v8]) := by
            intro v8 H locs ls hM Y hl
            replace hM := (hJ8 _).symm.trans hM
            refine r_istore (pc' := 93) (L' := [(5, .int v8), (0, .ref h), (1, .int i1), (2, .int i2), (3, .int st6_1), (4, .int st6_2)]) X hl 49 rfl rfl (by decide) rfl (fun ls hl => ?_)
            refine r_iload_n (pc' := 94) X hl 4 rfl rfl 50 rfl rfl ?_
            refine r_aload_n (pc' := 95) X hl 1 rfl rfl 51 rfl rfl ?_
            refine r_get (pc' := 98) (v := .ref h_firms) X Y 52 rfl rfl fRX8_19 0 rfl rfl ?_
            refine r_iload (pc' := 100) X hl 5 rfl 53 rfl rfl ?_
            obtain ⟨g9, hM⟩ := mG hM hne6
            refine r_iald (pc' := 101) X Y 54 rfl rfl 4 rfl (vin g9) ?_
            refine r_iload_n (pc' := 102) X hl 2 rfl rfl 55 rfl rfl ?_
            refine r_icmp_ne (pc' := 105) X 117 56 rfl rfl (by decide) (fun c10 => ?_) (fun c10 => ?_)
            · replace hM := mE hM c10
              refine r_iconst (pc' := 118) X (0 : Int32) 63 rfl rfl rfl ?_
              refine r_ior (pc' := 119) X 64 rfl rfl ?_
              refine r_istore_n (pc' := 120) (L' := [(3, .int (st6_1 ||| (0 : Int32))), (5, .int v8), (0, .ref h), (1, .int i1), (2, .int i2), (4, .int st6_2)]) X hl rfl 65 rfl rfl (by decide) rfl (fun ls hl => ?_)
              refine r_iinc (pc' := 123) (L' := [(4, .int (st6_2 + (1 : Int32))), (3, .int (st6_1 ||| (0 : Int32))), (5, .int v8), (0, .ref h), (1, .int i1), (2, .int i2)]) X (st6_2 + (1 : Int32)) hl 5 rfl rfl 66 rfl rfl (by decide) rfl (fun ls hl => ?_)
              refine r_goto X 38 67 rfl (by decide) ?_
              exact IH6 _ hM _ _ _ Y (lv_sub hl [3, 4, 5, 1, 0] rfl)
            · replace hM := mI hM c10
              refine r_iload (pc' := 107) X hl 0 rfl 57 rfl rfl ?_
              refine r_if_eq (pc' := 110) X 117 58 rfl rfl (by decide) (fun c11 => ?_) (fun c11 => ?_)
              · replace hM := mI hM c11
                refine r_iconst (pc' := 118) X (0 : Int32) 63 rfl rfl rfl ?_
                refine r_ior (pc' := 119) X 64 rfl rfl ?_
                refine r_istore_n (pc' := 120) (L' := [(3, .int (st6_1 ||| (0 : Int32))), (5, .int v8), (0, .ref h), (1, .int i1), (2, .int i2), (4, .int st6_2)]) X hl rfl 65 rfl rfl (by decide) rfl (fun ls hl => ?_)
                refine r_iinc (pc' := 123) (L' := [(4, .int (st6_2 + (1 : Int32))), (3, .int (st6_1 ||| (0 : Int32))), (5, .int v8), (0, .ref h), (1, .int i1), (2, .int i2)]) X (st6_2 + (1 : Int32)) hl 5 rfl rfl 66 rfl rfl (by decide) rfl (fun ls hl => ?_)
                refine r_goto X 38 67 rfl (by decide) ?_
                exact IH6 _ hM _ _ _ Y (lv_sub hl [3, 4, 5, 1, 0] rfl)
              · replace hM := mE hM c11
                refine r_iconst (pc' := 111) X (1 : Int32) 59 rfl rfl rfl ?_
                refine r_iload (pc' := 113) X hl 5 rfl 60 rfl rfl ?_
                refine r_ishl (pc' := 114) X 61 rfl rfl ?_
                refine r_goto X 118 62 rfl (by decide) ?_
                refine r_ior (pc' := 119) X 64 rfl rfl ?_
                refine r_istore_n (pc' := 120) (L' := [(3, .int (st6_1 ||| ((1 : Int32) <<< (st6_2 &&& 31)))), (5, .int v8), (0, .ref h), (1, .int i1), (2, .int i2), (4, .int st6_2)]) X hl rfl 65 rfl rfl (by decide) rfl (fun ls hl => ?_)
                refine r_iinc (pc' := 123) (L' := [(4, .int (st6_2 + (1 : Int32))), (3, .int (st6_1 ||| ((1 : Int32) <<< (st6_2 &&& 31)))), (5, .int v8), (0, .ref h), (1, .int i1), (2, .int i2)]) X (st6_2 + (1 : Int32)) hl 5 rfl rfl 66 rfl rfl (by decide) rfl (fun ls hl => ?_)
                refine r_goto X 38 67 rfl (by decide) ?_
                exact IH6 _ hM _ _ _ Y (lv_sub hl [3, 4, 5, 1, 0] rfl)
          refine r_icmp_le (pc' := 55) X 75 29 rfl rfl (by decide) (fun c12 => ?_) (fun c12 => ?_)
          · replace hM := mI hM c12
            refine r_aload_n (pc' := 76) X hl 0 rfl rfl 40 rfl rfl ?_
            refine r_get (pc' := 79) (v := .ref h_now) X Y 41 rfl rfl fRX8_25 0 rfl rfl ?_
            refine r_iload (pc' := 81) X hl 4 rfl 42 rfl rfl ?_
            obtain ⟨g13, hM⟩ := mG hM hne6
            refine r_iald (pc' := 82) X Y 43 rfl rfl 6 rfl (vin g13) ?_
            refine r_iload_n (pc' := 83) X hl 2 rfl rfl 44 rfl rfl ?_
            refine r_icmp_ne (pc' := 86) X 90 45 rfl rfl (by decide) (fun c14 => ?_) (fun c14 => ?_)
            · replace hM := mE hM c14
              refine r_iconst (pc' := 91) X (0 : Int32) 48 rfl rfl rfl ?_
              exact KJ8 (0 : Int32) _ _ _ hM Y (lv_sub hl [0, 1, 2, 3, 4] rfl)
            · replace hM := mI hM c14
              refine r_iconst (pc' := 87) X (1 : Int32) 46 rfl rfl rfl ?_
              refine r_goto X 91 47 rfl (by decide) ?_
              exact KJ8 (1 : Int32) _ _ _ hM Y (lv_sub hl [0, 1, 2, 3, 4] rfl)
          · replace hM := mE hM c12
            refine r_aload_n (pc' := 56) X hl 0 rfl rfl 30 rfl rfl ?_
            refine r_get (pc' := 59) (v := .ref h_now) X Y 31 rfl rfl fRX8_25 0 rfl rfl ?_
            refine r_iload (pc' := 61) X hl 4 rfl 32 rfl rfl ?_
            obtain ⟨g15, hM⟩ := mG hM hne6
            refine r_iald (pc' := 62) X Y 33 rfl rfl 6 rfl (vin g15) ?_
            refine r_bipush (pc' := 64) X (99 : Int32) 34 rfl rfl rfl ?_
            refine r_icmp_ne (pc' := 67) X 71 35 rfl rfl (by decide) (fun c16 => ?_) (fun c16 => ?_)
            · replace hM := mE hM c16
              refine r_iconst (pc' := 72) X (0 : Int32) 38 rfl rfl rfl ?_
              refine r_goto X 91 39 rfl (by decide) ?_
              exact KJ8 (0 : Int32) _ _ _ hM Y (lv_sub hl [0, 1, 2, 3, 4] rfl)
            · replace hM := mI hM c16
              refine r_iconst (pc' := 68) X (1 : Int32) 36 rfl rfl rfl ?_
              refine r_goto X 91 37 rfl (by decide) ?_
              exact KJ8 (1 : Int32) _ _ _ hM Y (lv_sub hl [0, 1, 2, 3, 4] rfl)
      · replace hM := mI hM c5
        refine r_ldc (pc' := 32) X mw542 16 rfl rfl ?_
        exact RT (-1000001 : Int32) _ _ _ _ _ hM (Or.inl ⟨rfl, rfl, _, rfl⟩) (X.d (k := 17) rfl) Y

def M_X8_stand (S0 : MS) (i1 : Int32) : Option (Int32 × MS) :=
  (if (ms_hasTable S0) = 0 then (some ((-1000002 : Int32), S0)) else (if i1 = 0 then (some (((ms_now S0) ((8 : Int32)).toNatClampNeg), S0)) else (if i1 = 1 then (some (((ms_now S0) ((9 : Int32)).toNatClampNeg), S0)) else (if i1 = 2 then (some (((ms_now S0) ((10 : Int32)).toNatClampNeg), S0)) else (if i1 = 3 then ((M_X8_wonNow S0).bind (fun u3 => (some (u3.1, u3.2)))) else (if i1 = 4 then (some ((ms_points S0), S0)) else (if i1 = 5 then (some ((ms_home S0), S0)) else (some ((-1000001 : Int32), S0)))))))))
def q_X8_stand : Room := { frames := 4, cells := 0, slots := 0, locals := 128 }
set_option maxHeartbeats 4000000 in
set_option maxRecDepth 100000 in
theorem c_X8_stand (l : Launch) (G : gT) (h h_items h_lanes h_sizes h_firms h_kinds h_now h_before h_images h_tape h_trace h_readFirms h_readKinds h_readAt h_rows h_bests : Nat) (S0_status : Int32) (S0_points : Int32) (S0_home : Int32) (S0_men : Int32) (S0_hasTable : Int32) (S0_acts : Int32) (S0_imaged : Int32) (S0_length : Int32) (S0_fault : Int32) (S0_traced : Int32) (S0_spot : Int32) (S0_begins : Int32) (S0_token : Int32) (S0_number : Int32) (S0_readPoints : Int32) (S0_readHome : Int32) (S0_readMen : Int32) (S0_otherOne : Int32) (S0_otherKind : Int32) (S0_items : Nat → Int32) (S0_lanes : Nat → Int32) (S0_sizes : Nat → Int32) (S0_firms : Nat → Int32) (S0_kinds : Nat → Int32) (S0_now : Nat → Int32) (S0_before : Nat → Int32) (S0_images : Nat → Int32) (S0_tape : Nat → Int32) (S0_trace : Nat → Int32) (S0_readFirms : Nat → Int32) (S0_readKinds : Nat → Int32) (S0_readAt : Nat → Int32) (S0_rows : Nat → Int32) (S0_bests : Nat → Int32) (i1 : Int32) : CT l G yX8_stand cX8_stand 2 (some .int) q_X8_stand [.ref h, .int i1] (wMS G h h_items h_lanes h_sizes h_firms h_kinds h_now h_before h_images h_tape h_trace h_readFirms h_readKinds h_readAt h_rows h_bests S0_status S0_points S0_home S0_men S0_hasTable S0_acts S0_imaged S0_length S0_fault S0_traced S0_spot S0_begins S0_token S0_number S0_readPoints S0_readHome S0_readMen S0_otherOne S0_otherKind S0_items S0_lanes S0_sizes S0_firms S0_kinds S0_now S0_before S0_images S0_tape S0_trace S0_readFirms S0_readKinds S0_readAt S0_rows S0_bests) (M_X8_stand (S0_status, S0_points, S0_home, S0_men, S0_hasTable, S0_acts, S0_imaged, S0_length, S0_fault, S0_traced, S0_spot, S0_begins, S0_token, S0_number, S0_readPoints, S0_readHome, S0_readMen, S0_otherOne, S0_otherKind, S0_items, S0_lanes, S0_sizes, S0_firms, S0_kinds, S0_now, S0_before, S0_images, S0_tape, S0_trace, S0_readFirms, S0_readKinds, S0_readAt, S0_rows, S0_bests) i1) (fun u => some (.int u.1)) (fun u => wMS G h h_items h_lanes h_sizes h_firms h_kinds h_now h_before h_images h_tape h_trace h_readFirms h_readKinds h_readAt h_rows h_bests u.2.1 u.2.2.1 u.2.2.2.1 u.2.2.2.2.1 u.2.2.2.2.2.1 u.2.2.2.2.2.2.1 u.2.2.2.2.2.2.2.1 u.2.2.2.2.2.2.2.2.1 u.2.2.2.2.2.2.2.2.2.1 u.2.2.2.2.2.2.2.2.2.2.1 u.2.2.2.2.2.2.2.2.2.2.2.1 u.2.2.2.2.2.2.2.2.2.2.2.2.1 u.2.2.2.2.2.2.2.2.2.2.2.2.2.1 u.2.2.2.2.2.2.2.2.2.2.2.2.2.2.1 u.2.2.2.2.2.2.2.2.2.2.2.2.2.2.2.1 u.2.2.2.2.2.2.2.2.2.2.2.2.2.2.2.2.1 u.2.2.2.2.2.2.2.2.2.2.2.2.2.2.2.2.2.1 u.2.2.2.2.2.2.2.2.2.2.2.2.2.2.2.2.2.2.1 u.2.2.2.2.2.2.2.2.2.2.2.2.2.2.2.2.2.2.2.1 u.2.2.2.2.2.2.2.2.2.2.2.2.2.2.2.2.2.2.2.2.1 u.2.2.2.2.2.2.2.2.2.2.2.2.2.2.2.2.2.2.2.2.2.1 u.2.2.2.2.2.2.2.2.2.2.2.2.2.2.2.2.2.2.2.2.2.2.1 u.2.2.2.2.2.2.2.2.2.2.2.2.2.2.2.2.2.2.2.2.2.2.2.1 u.2.2.2.2.2.2.2.2.2.2.2.2.2.2.2.2.2.2.2.2.2.2.2.2.1 u.2.2.2.2.2.2.2.2.2.2.2.2.2.2.2.2.2.2.2.2.2.2.2.2.2.1 u.2.2.2.2.2.2.2.2.2.2.2.2.2.2.2.2.2.2.2.2.2.2.2.2.2.2.1 u.2.2.2.2.2.2.2.2.2.2.2.2.2.2.2.2.2.2.2.2.2.2.2.2.2.2.2.1 u.2.2.2.2.2.2.2.2.2.2.2.2.2.2.2.2.2.2.2.2.2.2.2.2.2.2.2.2.1 u.2.2.2.2.2.2.2.2.2.2.2.2.2.2.2.2.2.2.2.2.2.2.2.2.2.2.2.2.2.1 u.2.2.2.2.2.2.2.2.2.2.2.2.2.2.2.2.2.2.2.2.2.2.2.2.2.2.2.2.2.2.1 u.2.2.2.2.2.2.2.2.2.2.2.2.2.2.2.2.2.2.2.2.2.2.2.2.2.2.2.2.2.2.2.1 u.2.2.2.2.2.2.2.2.2.2.2.2.2.2.2.2.2.2.2.2.2.2.2.2.2.2.2.2.2.2.2.2.1 u.2.2.2.2.2.2.2.2.2.2.2.2.2.2.2.2.2.2.2.2.2.2.2.2.2.2.2.2.2.2.2.2.2.1 u.2.2.2.2.2.2.2.2.2.2.2.2.2.2.2.2.2.2.2.2.2.2.2.2.2.2.2.2.2.2.2.2.2.2) := by
  refine CT.of (P := PX8_stand) (by decide) dPX8_stand (Nat.le_of_ble_eq_true rfl) ?_
  intro p e s m args below meth c A Q ls hne X RT Y hl
  have hl : lv_has ls 2 [(0, .ref h), (1, .int i1)] := hl
  generalize hM : M_X8_stand (S0_status, S0_points, S0_home, S0_men, S0_hasTable, S0_acts, S0_imaged, S0_length, S0_fault, S0_traced, S0_spot, S0_begins, S0_token, S0_number, S0_readPoints, S0_readHome, S0_readMen, S0_otherOne, S0_otherKind, S0_items, S0_lanes, S0_sizes, S0_firms, S0_kinds, S0_now, S0_before, S0_images, S0_tape, S0_trace, S0_readFirms, S0_readKinds, S0_readAt, S0_rows, S0_bests) i1 = MM at hne RT
  unfold M_X8_stand at hM
  refine r_aload_n (pc' := 1) X hl 0 rfl rfl 0 rfl rfl ?_
  refine r_get (pc' := 4) (v := .int S0_hasTable) X Y 1 rfl rfl fRX8_162 0 rfl rfl ?_
  refine r_if_ne (pc' := 7) X 10 2 rfl rfl (by decide) (fun c1 => ?_) (fun c1 => ?_)
  · replace hM := mE hM c1
    refine r_iload_n (pc' := 11) X hl 1 rfl rfl 5 rfl rfl ?_
    by_cases h2_0 : i1 = 0
    · replace hM := mI hM h2_0
      refine r_tabIn X 48 6 rfl (0 : Int32) h2_0 (by decide) rfl (by decide) ?_
      refine r_aload_n (pc' := 49) X hl 0 rfl rfl 7 rfl rfl ?_
      refine r_get (pc' := 52) (v := .ref h_now) X Y 8 rfl rfl fRX8_25 0 rfl rfl ?_
      refine r_bipush (pc' := 54) X (8 : Int32) 9 rfl rfl rfl ?_
      refine r_iald (pc' := 55) X Y 10 rfl rfl 6 rfl (vin rfl) ?_
      exact RT ((S0_now ((8 : Int32)).toNatClampNeg), (S0_status, S0_points, S0_home, S0_men, S0_hasTable, S0_acts, S0_imaged, S0_length, S0_fault, S0_traced, S0_spot, S0_begins, S0_token, S0_number, S0_readPoints, S0_readHome, S0_readMen, S0_otherOne, S0_otherKind, S0_items, S0_lanes, S0_sizes, S0_firms, S0_kinds, S0_now, S0_before, S0_images, S0_tape, S0_trace, S0_readFirms, S0_readKinds, S0_readAt, S0_rows, S0_bests)) _ _ _ _ _ hM (Or.inl ⟨rfl, rfl, _, rfl⟩) (X.d (k := 11) rfl) Y
    replace hM := mE hM h2_0
    by_cases h2_1 : i1 = 1
    · replace hM := mI hM h2_1
      refine r_tabIn X 56 6 rfl (1 : Int32) h2_1 (by decide) rfl (by decide) ?_
      refine r_aload_n (pc' := 57) X hl 0 rfl rfl 12 rfl rfl ?_
      refine r_get (pc' := 60) (v := .ref h_now) X Y 13 rfl rfl fRX8_25 0 rfl rfl ?_
      refine r_bipush (pc' := 62) X (9 : Int32) 14 rfl rfl rfl ?_
      refine r_iald (pc' := 63) X Y 15 rfl rfl 6 rfl (vin rfl) ?_
      exact RT ((S0_now ((9 : Int32)).toNatClampNeg), (S0_status, S0_points, S0_home, S0_men, S0_hasTable, S0_acts, S0_imaged, S0_length, S0_fault, S0_traced, S0_spot, S0_begins, S0_token, S0_number, S0_readPoints, S0_readHome, S0_readMen, S0_otherOne, S0_otherKind, S0_items, S0_lanes, S0_sizes, S0_firms, S0_kinds, S0_now, S0_before, S0_images, S0_tape, S0_trace, S0_readFirms, S0_readKinds, S0_readAt, S0_rows, S0_bests)) _ _ _ _ _ hM (Or.inl ⟨rfl, rfl, _, rfl⟩) (X.d (k := 16) rfl) Y
    replace hM := mE hM h2_1
    by_cases h2_2 : i1 = 2
    · replace hM := mI hM h2_2
      refine r_tabIn X 64 6 rfl (2 : Int32) h2_2 (by decide) rfl (by decide) ?_
      refine r_aload_n (pc' := 65) X hl 0 rfl rfl 17 rfl rfl ?_
      refine r_get (pc' := 68) (v := .ref h_now) X Y 18 rfl rfl fRX8_25 0 rfl rfl ?_
      refine r_bipush (pc' := 70) X (10 : Int32) 19 rfl rfl rfl ?_
      refine r_iald (pc' := 71) X Y 20 rfl rfl 6 rfl (vin rfl) ?_
      exact RT ((S0_now ((10 : Int32)).toNatClampNeg), (S0_status, S0_points, S0_home, S0_men, S0_hasTable, S0_acts, S0_imaged, S0_length, S0_fault, S0_traced, S0_spot, S0_begins, S0_token, S0_number, S0_readPoints, S0_readHome, S0_readMen, S0_otherOne, S0_otherKind, S0_items, S0_lanes, S0_sizes, S0_firms, S0_kinds, S0_now, S0_before, S0_images, S0_tape, S0_trace, S0_readFirms, S0_readKinds, S0_readAt, S0_rows, S0_bests)) _ _ _ _ _ hM (Or.inl ⟨rfl, rfl, _, rfl⟩) (X.d (k := 21) rfl) Y
    replace hM := mE hM h2_2
    by_cases h2_3 : i1 = 3
    · replace hM := mI hM h2_3
      refine r_tabIn X 72 6 rfl (3 : Int32) h2_3 (by decide) rfl (by decide) ?_
      refine r_aload_n (pc' := 73) X hl 0 rfl rfl 22 rfl rfl ?_
      refine r_callV (pc' := 76) (As := []) (rest := []) (wr := ([] : va_W)) X Y 23 rfl rfl mRX8_228 (c_X8_wonNow l G h h_items h_lanes h_sizes h_firms h_kinds h_now h_before h_images h_tape h_trace h_readFirms h_readKinds h_readAt h_rows h_bests S0_status S0_points S0_home S0_men S0_hasTable S0_acts S0_imaged S0_length S0_fault S0_traced S0_spot S0_begins S0_token S0_number S0_readPoints S0_readHome S0_readMen S0_otherOne S0_otherKind S0_items S0_lanes S0_sizes S0_firms S0_kinds S0_now S0_before S0_images S0_tape S0_trace S0_readFirms S0_readKinds S0_readAt S0_rows S0_bests) (mB hM hne) 0 rfl rfl [0, 1, 2, 3, 4, 5, 6, 7, 8, 9, 10, 11, 12, 13, 14, 15] [] [0, 1, 2, 3, 4, 5, 6, 7, 8, 9, 10, 11, 12, 13, 14, 15] rfl rfl ⟨rfl, rfl, rfl⟩ rfl (w2 := fun u3 => wMS G h h_items h_lanes h_sizes h_firms h_kinds h_now h_before h_images h_tape h_trace h_readFirms h_readKinds h_readAt h_rows h_bests u3.2.1 u3.2.2.1 u3.2.2.2.1 u3.2.2.2.2.1 u3.2.2.2.2.2.1 u3.2.2.2.2.2.2.1 u3.2.2.2.2.2.2.2.1 u3.2.2.2.2.2.2.2.2.1 u3.2.2.2.2.2.2.2.2.2.1 u3.2.2.2.2.2.2.2.2.2.2.1 u3.2.2.2.2.2.2.2.2.2.2.2.1 u3.2.2.2.2.2.2.2.2.2.2.2.2.1 u3.2.2.2.2.2.2.2.2.2.2.2.2.2.1 u3.2.2.2.2.2.2.2.2.2.2.2.2.2.2.1 u3.2.2.2.2.2.2.2.2.2.2.2.2.2.2.2.1 u3.2.2.2.2.2.2.2.2.2.2.2.2.2.2.2.2.1 u3.2.2.2.2.2.2.2.2.2.2.2.2.2.2.2.2.2.1 u3.2.2.2.2.2.2.2.2.2.2.2.2.2.2.2.2.2.2.1 u3.2.2.2.2.2.2.2.2.2.2.2.2.2.2.2.2.2.2.2.1 u3.2.2.2.2.2.2.2.2.2.2.2.2.2.2.2.2.2.2.2.2.1 u3.2.2.2.2.2.2.2.2.2.2.2.2.2.2.2.2.2.2.2.2.2.1 u3.2.2.2.2.2.2.2.2.2.2.2.2.2.2.2.2.2.2.2.2.2.2.1 u3.2.2.2.2.2.2.2.2.2.2.2.2.2.2.2.2.2.2.2.2.2.2.2.1 u3.2.2.2.2.2.2.2.2.2.2.2.2.2.2.2.2.2.2.2.2.2.2.2.2.1 u3.2.2.2.2.2.2.2.2.2.2.2.2.2.2.2.2.2.2.2.2.2.2.2.2.2.1 u3.2.2.2.2.2.2.2.2.2.2.2.2.2.2.2.2.2.2.2.2.2.2.2.2.2.2.1 u3.2.2.2.2.2.2.2.2.2.2.2.2.2.2.2.2.2.2.2.2.2.2.2.2.2.2.2.1 u3.2.2.2.2.2.2.2.2.2.2.2.2.2.2.2.2.2.2.2.2.2.2.2.2.2.2.2.2.1 u3.2.2.2.2.2.2.2.2.2.2.2.2.2.2.2.2.2.2.2.2.2.2.2.2.2.2.2.2.2.1 u3.2.2.2.2.2.2.2.2.2.2.2.2.2.2.2.2.2.2.2.2.2.2.2.2.2.2.2.2.2.2.1 u3.2.2.2.2.2.2.2.2.2.2.2.2.2.2.2.2.2.2.2.2.2.2.2.2.2.2.2.2.2.2.2.1 u3.2.2.2.2.2.2.2.2.2.2.2.2.2.2.2.2.2.2.2.2.2.2.2.2.2.2.2.2.2.2.2.2.1 u3.2.2.2.2.2.2.2.2.2.2.2.2.2.2.2.2.2.2.2.2.2.2.2.2.2.2.2.2.2.2.2.2.2.1 u3.2.2.2.2.2.2.2.2.2.2.2.2.2.2.2.2.2.2.2.2.2.2.2.2.2.2.2.2.2.2.2.2.2.2) (fun _ => rfl) rfl (Nat.le_of_ble_eq_true rfl) ⟨rfl, rfl⟩ ⟨Nat.le_of_ble_eq_true rfl, Nat.le_of_ble_eq_true rfl⟩ ⟨Nat.zero_le _, Nat.zero_le _⟩ hl.1 (st' := fun u3 => [.int u3.1]) (fun _ => rfl) (fun u3 H locs huu3 Y => ?_)
      obtain ⟨u3_1, ⟨u3_2_status, u3_2_points, u3_2_home, u3_2_men, u3_2_hasTable, u3_2_acts, u3_2_imaged, u3_2_length, u3_2_fault, u3_2_traced, u3_2_spot, u3_2_begins, u3_2_token, u3_2_number, u3_2_readPoints, u3_2_readHome, u3_2_readMen, u3_2_otherOne, u3_2_otherKind, u3_2_items, u3_2_lanes, u3_2_sizes, u3_2_firms, u3_2_kinds, u3_2_now, u3_2_before, u3_2_images, u3_2_tape, u3_2_trace, u3_2_readFirms, u3_2_readKinds, u3_2_readAt, u3_2_rows, u3_2_bests⟩⟩ := u3
      replace Y : rY G A s (wMS G h h_items h_lanes h_sizes h_firms h_kinds h_now h_before h_images h_tape h_trace h_readFirms h_readKinds h_readAt h_rows h_bests u3_2_status u3_2_points u3_2_home u3_2_men u3_2_hasTable u3_2_acts u3_2_imaged u3_2_length u3_2_fault u3_2_traced u3_2_spot u3_2_begins u3_2_token u3_2_number u3_2_readPoints u3_2_readHome u3_2_readMen u3_2_otherOne u3_2_otherKind u3_2_items u3_2_lanes u3_2_sizes u3_2_firms u3_2_kinds u3_2_now u3_2_before u3_2_images u3_2_tape u3_2_trace u3_2_readFirms u3_2_readKinds u3_2_readAt u3_2_rows u3_2_bests) H locs := Y
      replace hM := mS hM huu3
      show W p l e q_X8_stand s m args below meth c H locs 0 0 Q (F0 m 76 ls [.int u3_1])
      exact RT (u3_1, (u3_2_status, u3_2_points, u3_2_home, u3_2_men, u3_2_hasTable, u3_2_acts, u3_2_imaged, u3_2_length, u3_2_fault, u3_2_traced, u3_2_spot, u3_2_begins, u3_2_token, u3_2_number, u3_2_readPoints, u3_2_readHome, u3_2_readMen, u3_2_otherOne, u3_2_otherKind, u3_2_items, u3_2_lanes, u3_2_sizes, u3_2_firms, u3_2_kinds, u3_2_now, u3_2_before, u3_2_images, u3_2_tape, u3_2_trace, u3_2_readFirms, u3_2_readKinds, u3_2_readAt, u3_2_rows, u3_2_bests)) _ _ _ _ _ hM (Or.inl ⟨rfl, rfl, _, rfl⟩) (X.d (k := 24) rfl) Y
    replace hM := mE hM h2_3
    by_cases h2_4 : i1 = 4
    · replace hM := mI hM h2_4
      refine r_tabIn X 77 6 rfl (4 : Int32) h2_4 (by decide) rfl (by decide) ?_
      refine r_aload_n (pc' := 78) X hl 0 rfl rfl 25 rfl rfl ?_
      refine r_get (pc' := 81) (v := .int S0_points) X Y 26 rfl rfl fRX8_153 0 rfl rfl ?_
      exact RT (S0_points, (S0_status, S0_points, S0_home, S0_men, S0_hasTable, S0_acts, S0_imaged, S0_length, S0_fault, S0_traced, S0_spot, S0_begins, S0_token, S0_number, S0_readPoints, S0_readHome, S0_readMen, S0_otherOne, S0_otherKind, S0_items, S0_lanes, S0_sizes, S0_firms, S0_kinds, S0_now, S0_before, S0_images, S0_tape, S0_trace, S0_readFirms, S0_readKinds, S0_readAt, S0_rows, S0_bests)) _ _ _ _ _ hM (Or.inl ⟨rfl, rfl, _, rfl⟩) (X.d (k := 27) rfl) Y
    replace hM := mE hM h2_4
    by_cases h2_5 : i1 = 5
    · replace hM := mI hM h2_5
      refine r_tabIn X 82 6 rfl (5 : Int32) h2_5 (by decide) rfl (by decide) ?_
      refine r_aload_n (pc' := 83) X hl 0 rfl rfl 28 rfl rfl ?_
      refine r_get (pc' := 86) (v := .int S0_home) X Y 29 rfl rfl fRX8_156 0 rfl rfl ?_
      exact RT (S0_home, (S0_status, S0_points, S0_home, S0_men, S0_hasTable, S0_acts, S0_imaged, S0_length, S0_fault, S0_traced, S0_spot, S0_begins, S0_token, S0_number, S0_readPoints, S0_readHome, S0_readMen, S0_otherOne, S0_otherKind, S0_items, S0_lanes, S0_sizes, S0_firms, S0_kinds, S0_now, S0_before, S0_images, S0_tape, S0_trace, S0_readFirms, S0_readKinds, S0_readAt, S0_rows, S0_bests)) _ _ _ _ _ hM (Or.inl ⟨rfl, rfl, _, rfl⟩) (X.d (k := 30) rfl) Y
    replace hM := mE hM h2_5
    refine r_tabOut X 87 6 rfl ((tsw (x := i1) 0 6 (fun k hk => match k, hk with | 0, _ => h2_0 | 1, _ => h2_1 | 2, _ => h2_2 | 3, _ => h2_3 | 4, _ => h2_4 | 5, _ => h2_5) (by decide)).imp id (fun z => Int.lt_of_lt_of_le (by decide) z)) (by decide) ?_
    refine r_ldc (pc' := 89) X mw542 31 rfl rfl ?_
    exact RT ((-1000001 : Int32), (S0_status, S0_points, S0_home, S0_men, S0_hasTable, S0_acts, S0_imaged, S0_length, S0_fault, S0_traced, S0_spot, S0_begins, S0_token, S0_number, S0_readPoints, S0_readHome, S0_readMen, S0_otherOne, S0_otherKind, S0_items, S0_lanes, S0_sizes, S0_firms, S0_kinds, S0_now, S0_before, S0_images, S0_tape, S0_trace, S0_readFirms, S0_readKinds, S0_readAt, S0_rows, S0_bests)) _ _ _ _ _ hM (Or.inl ⟨rfl, rfl, _, rfl⟩) (X.d (k := 32) rfl) Y
  · replace hM := mI hM c1
    refine r_ldc (pc' := 9) X mw684 3 rfl rfl ?_
    exact RT ((-1000002 : Int32), (S0_status, S0_points, S0_home, S0_men, S0_hasTable, S0_acts, S0_imaged, S0_length, S0_fault, S0_traced, S0_spot, S0_begins, S0_token, S0_number, S0_readPoints, S0_readHome, S0_readMen, S0_otherOne, S0_otherKind, S0_items, S0_lanes, S0_sizes, S0_firms, S0_kinds, S0_now, S0_before, S0_images, S0_tape, S0_trace, S0_readFirms, S0_readKinds, S0_readAt, S0_rows, S0_bests)) _ _ _ _ _ hM (Or.inl ⟨rfl, rfl, _, rfl⟩) (X.d (k := 4) rfl) Y

def M_X8_may (S0 : MS) (i1 : Int32) : Option (Int32 × MS) :=
  (if (ms_hasTable S0) = 0 then (some ((-1000002 : Int32), S0)) else ((M_X8_isThrow i1).bind (fun u2 => (if u2 = 0 then (some ((-1000001 : Int32), S0)) else ((M_X8_aside S0 (0 : Int32)).bind (fun u4 => ((lp (σ := Int32 × Int32) (β := Int32) (fun rec5 st5 => (if (ms_men u4) ≤ st5.2 then (some st5.1) else (if inb st5.2 8 = true then (if ((ms_firms u4) (st5.2).toNatClampNeg) = ((ms_now u4) ((8 : Int32)).toNatClampNeg) then ((M_X8_can u4 (0 : Int32) st5.2 i1).bind (fun u9 => (if u9 = 0 then (rec5 ((st5.1 ||| (0 : Int32)), (st5.2 + (1 : Int32)))) else (rec5 ((st5.1 ||| ((1 : Int32) <<< (st5.2 &&& 31))), (st5.2 + (1 : Int32))))))) else (rec5 ((st5.1 ||| (0 : Int32)), (st5.2 + (1 : Int32))))) else none))) 1000000 ((0 : Int32), (0 : Int32))).bind (fun b5 => (some (b5, u4))))))))))
def q_X8_may : Room := { frames := 5, cells := 0, slots := 0, locals := 157 }
set_option maxHeartbeats 4000000 in
set_option maxRecDepth 100000 in
theorem c_X8_may (l : Launch) (G : gT) (h h_items h_lanes h_sizes h_firms h_kinds h_now h_before h_images h_tape h_trace h_readFirms h_readKinds h_readAt h_rows h_bests : Nat) (S0_status : Int32) (S0_points : Int32) (S0_home : Int32) (S0_men : Int32) (S0_hasTable : Int32) (S0_acts : Int32) (S0_imaged : Int32) (S0_length : Int32) (S0_fault : Int32) (S0_traced : Int32) (S0_spot : Int32) (S0_begins : Int32) (S0_token : Int32) (S0_number : Int32) (S0_readPoints : Int32) (S0_readHome : Int32) (S0_readMen : Int32) (S0_otherOne : Int32) (S0_otherKind : Int32) (S0_items : Nat → Int32) (S0_lanes : Nat → Int32) (S0_sizes : Nat → Int32) (S0_firms : Nat → Int32) (S0_kinds : Nat → Int32) (S0_now : Nat → Int32) (S0_before : Nat → Int32) (S0_images : Nat → Int32) (S0_tape : Nat → Int32) (S0_trace : Nat → Int32) (S0_readFirms : Nat → Int32) (S0_readKinds : Nat → Int32) (S0_readAt : Nat → Int32) (S0_rows : Nat → Int32) (S0_bests : Nat → Int32) (i1 : Int32) : CT l G yX8_may cX8_may 4 (some .int) q_X8_may [.ref h, .int i1] (wMS G h h_items h_lanes h_sizes h_firms h_kinds h_now h_before h_images h_tape h_trace h_readFirms h_readKinds h_readAt h_rows h_bests S0_status S0_points S0_home S0_men S0_hasTable S0_acts S0_imaged S0_length S0_fault S0_traced S0_spot S0_begins S0_token S0_number S0_readPoints S0_readHome S0_readMen S0_otherOne S0_otherKind S0_items S0_lanes S0_sizes S0_firms S0_kinds S0_now S0_before S0_images S0_tape S0_trace S0_readFirms S0_readKinds S0_readAt S0_rows S0_bests) (M_X8_may (S0_status, S0_points, S0_home, S0_men, S0_hasTable, S0_acts, S0_imaged, S0_length, S0_fault, S0_traced, S0_spot, S0_begins, S0_token, S0_number, S0_readPoints, S0_readHome, S0_readMen, S0_otherOne, S0_otherKind, S0_items, S0_lanes, S0_sizes, S0_firms, S0_kinds, S0_now, S0_before, S0_images, S0_tape, S0_trace, S0_readFirms, S0_readKinds, S0_readAt, S0_rows, S0_bests) i1) (fun u => some (.int u.1)) (fun u => wMS G h h_items h_lanes h_sizes h_firms h_kinds h_now h_before h_images h_tape h_trace h_readFirms h_readKinds h_readAt h_rows h_bests u.2.1 u.2.2.1 u.2.2.2.1 u.2.2.2.2.1 u.2.2.2.2.2.1 u.2.2.2.2.2.2.1 u.2.2.2.2.2.2.2.1 u.2.2.2.2.2.2.2.2.1 u.2.2.2.2.2.2.2.2.2.1 u.2.2.2.2.2.2.2.2.2.2.1 u.2.2.2.2.2.2.2.2.2.2.2.1 u.2.2.2.2.2.2.2.2.2.2.2.2.1 u.2.2.2.2.2.2.2.2.2.2.2.2.2.1 u.2.2.2.2.2.2.2.2.2.2.2.2.2.2.1 u.2.2.2.2.2.2.2.2.2.2.2.2.2.2.2.1 u.2.2.2.2.2.2.2.2.2.2.2.2.2.2.2.2.1 u.2.2.2.2.2.2.2.2.2.2.2.2.2.2.2.2.2.1 u.2.2.2.2.2.2.2.2.2.2.2.2.2.2.2.2.2.2.1 u.2.2.2.2.2.2.2.2.2.2.2.2.2.2.2.2.2.2.2.1 u.2.2.2.2.2.2.2.2.2.2.2.2.2.2.2.2.2.2.2.2.1 u.2.2.2.2.2.2.2.2.2.2.2.2.2.2.2.2.2.2.2.2.2.1 u.2.2.2.2.2.2.2.2.2.2.2.2.2.2.2.2.2.2.2.2.2.2.1 u.2.2.2.2.2.2.2.2.2.2.2.2.2.2.2.2.2.2.2.2.2.2.2.1 u.2.2.2.2.2.2.2.2.2.2.2.2.2.2.2.2.2.2.2.2.2.2.2.2.1 u.2.2.2.2.2.2.2.2.2.2.2.2.2.2.2.2.2.2.2.2.2.2.2.2.2.1 u.2.2.2.2.2.2.2.2.2.2.2.2.2.2.2.2.2.2.2.2.2.2.2.2.2.2.1 u.2.2.2.2.2.2.2.2.2.2.2.2.2.2.2.2.2.2.2.2.2.2.2.2.2.2.2.1 u.2.2.2.2.2.2.2.2.2.2.2.2.2.2.2.2.2.2.2.2.2.2.2.2.2.2.2.2.1 u.2.2.2.2.2.2.2.2.2.2.2.2.2.2.2.2.2.2.2.2.2.2.2.2.2.2.2.2.2.1 u.2.2.2.2.2.2.2.2.2.2.2.2.2.2.2.2.2.2.2.2.2.2.2.2.2.2.2.2.2.2.1 u.2.2.2.2.2.2.2.2.2.2.2.2.2.2.2.2.2.2.2.2.2.2.2.2.2.2.2.2.2.2.2.1 u.2.2.2.2.2.2.2.2.2.2.2.2.2.2.2.2.2.2.2.2.2.2.2.2.2.2.2.2.2.2.2.2.1 u.2.2.2.2.2.2.2.2.2.2.2.2.2.2.2.2.2.2.2.2.2.2.2.2.2.2.2.2.2.2.2.2.2.1 u.2.2.2.2.2.2.2.2.2.2.2.2.2.2.2.2.2.2.2.2.2.2.2.2.2.2.2.2.2.2.2.2.2.2) := by
  refine CT.of (P := PX8_may) (by decide) dPX8_may (Nat.le_of_ble_eq_true rfl) ?_
  intro p e s m args below meth c A Q ls hne X RT Y hl
  have hl : lv_has ls 4 [(0, .ref h), (1, .int i1)] := hl
  generalize hM : M_X8_may (S0_status, S0_points, S0_home, S0_men, S0_hasTable, S0_acts, S0_imaged, S0_length, S0_fault, S0_traced, S0_spot, S0_begins, S0_token, S0_number, S0_readPoints, S0_readHome, S0_readMen, S0_otherOne, S0_otherKind, S0_items, S0_lanes, S0_sizes, S0_firms, S0_kinds, S0_now, S0_before, S0_images, S0_tape, S0_trace, S0_readFirms, S0_readKinds, S0_readAt, S0_rows, S0_bests) i1 = MM at hne RT
  unfold M_X8_may at hM
  refine r_aload_n (pc' := 1) X hl 0 rfl rfl 0 rfl rfl ?_
  refine r_get (pc' := 4) (v := .int S0_hasTable) X Y 1 rfl rfl fRX8_162 0 rfl rfl ?_
  refine r_if_ne (pc' := 7) X 10 2 rfl rfl (by decide) (fun c1 => ?_) (fun c1 => ?_)
  · replace hM := mE hM c1
    refine r_iload_n (pc' := 11) X hl 1 rfl rfl 5 rfl rfl ?_
    refine r_callS0 (pc' := 14) (As := [.int i1]) (rest := []) X Y 6 rfl rfl mRX8_225 (c_X8_isThrow l G i1) (mB hM hne) rfl [] rfl rfl rfl (Nat.le_of_ble_eq_true rfl) ⟨rfl, rfl⟩ ⟨Nat.le_of_ble_eq_true rfl, Nat.le_of_ble_eq_true rfl⟩ ⟨Nat.zero_le _, Nat.zero_le _⟩ hl.1 (st' := fun u2 => [.int u2]) (fun _ => rfl) (fun u2 H locs huu2 Y => ?_)
    replace hM := mS hM huu2
    refine r_if_ne (pc' := 17) X 20 7 rfl rfl (by decide) (fun c3 => ?_) (fun c3 => ?_)
    · replace hM := mE hM c3
      refine r_aload_n (pc' := 21) X hl 0 rfl rfl 10 rfl rfl ?_
      refine r_iconst (pc' := 22) X (0 : Int32) 11 rfl rfl rfl ?_
      refine r_callV (pc' := 25) (As := [.int (0 : Int32)]) (rest := []) (wr := ([] : va_W)) X Y 12 rfl rfl mRX8_202 (c_X8_aside l G h h_items h_lanes h_sizes h_firms h_kinds h_now h_before h_images h_tape h_trace h_readFirms h_readKinds h_readAt h_rows h_bests S0_status S0_points S0_home S0_men S0_hasTable S0_acts S0_imaged S0_length S0_fault S0_traced S0_spot S0_begins S0_token S0_number S0_readPoints S0_readHome S0_readMen S0_otherOne S0_otherKind S0_items S0_lanes S0_sizes S0_firms S0_kinds S0_now S0_before S0_images S0_tape S0_trace S0_readFirms S0_readKinds S0_readAt S0_rows S0_bests (0 : Int32)) (mB hM hne) 0 rfl rfl [0, 1, 2, 3, 4, 5, 6, 7, 8, 9, 10, 11, 12, 13, 14, 15] [] [0, 1, 2, 3, 4, 5, 6, 7, 8, 9, 10, 11, 12, 13, 14, 15] rfl rfl ⟨rfl, rfl, rfl⟩ rfl (w2 := fun u4 => wMS G h h_items h_lanes h_sizes h_firms h_kinds h_now h_before h_images h_tape h_trace h_readFirms h_readKinds h_readAt h_rows h_bests u4.1 u4.2.1 u4.2.2.1 u4.2.2.2.1 u4.2.2.2.2.1 u4.2.2.2.2.2.1 u4.2.2.2.2.2.2.1 u4.2.2.2.2.2.2.2.1 u4.2.2.2.2.2.2.2.2.1 u4.2.2.2.2.2.2.2.2.2.1 u4.2.2.2.2.2.2.2.2.2.2.1 u4.2.2.2.2.2.2.2.2.2.2.2.1 u4.2.2.2.2.2.2.2.2.2.2.2.2.1 u4.2.2.2.2.2.2.2.2.2.2.2.2.2.1 u4.2.2.2.2.2.2.2.2.2.2.2.2.2.2.1 u4.2.2.2.2.2.2.2.2.2.2.2.2.2.2.2.1 u4.2.2.2.2.2.2.2.2.2.2.2.2.2.2.2.2.1 u4.2.2.2.2.2.2.2.2.2.2.2.2.2.2.2.2.2.1 u4.2.2.2.2.2.2.2.2.2.2.2.2.2.2.2.2.2.2.1 u4.2.2.2.2.2.2.2.2.2.2.2.2.2.2.2.2.2.2.2.1 u4.2.2.2.2.2.2.2.2.2.2.2.2.2.2.2.2.2.2.2.2.1 u4.2.2.2.2.2.2.2.2.2.2.2.2.2.2.2.2.2.2.2.2.2.1 u4.2.2.2.2.2.2.2.2.2.2.2.2.2.2.2.2.2.2.2.2.2.2.1 u4.2.2.2.2.2.2.2.2.2.2.2.2.2.2.2.2.2.2.2.2.2.2.2.1 u4.2.2.2.2.2.2.2.2.2.2.2.2.2.2.2.2.2.2.2.2.2.2.2.2.1 u4.2.2.2.2.2.2.2.2.2.2.2.2.2.2.2.2.2.2.2.2.2.2.2.2.2.1 u4.2.2.2.2.2.2.2.2.2.2.2.2.2.2.2.2.2.2.2.2.2.2.2.2.2.2.1 u4.2.2.2.2.2.2.2.2.2.2.2.2.2.2.2.2.2.2.2.2.2.2.2.2.2.2.2.1 u4.2.2.2.2.2.2.2.2.2.2.2.2.2.2.2.2.2.2.2.2.2.2.2.2.2.2.2.2.1 u4.2.2.2.2.2.2.2.2.2.2.2.2.2.2.2.2.2.2.2.2.2.2.2.2.2.2.2.2.2.1 u4.2.2.2.2.2.2.2.2.2.2.2.2.2.2.2.2.2.2.2.2.2.2.2.2.2.2.2.2.2.2.1 u4.2.2.2.2.2.2.2.2.2.2.2.2.2.2.2.2.2.2.2.2.2.2.2.2.2.2.2.2.2.2.2.1 u4.2.2.2.2.2.2.2.2.2.2.2.2.2.2.2.2.2.2.2.2.2.2.2.2.2.2.2.2.2.2.2.2.1 u4.2.2.2.2.2.2.2.2.2.2.2.2.2.2.2.2.2.2.2.2.2.2.2.2.2.2.2.2.2.2.2.2.2) (fun _ => rfl) rfl (Nat.le_of_ble_eq_true rfl) ⟨rfl, rfl⟩ ⟨Nat.le_of_ble_eq_true rfl, Nat.le_of_ble_eq_true rfl⟩ ⟨Nat.zero_le _, Nat.zero_le _⟩ hl.1 (st' := fun u4 => []) (fun _ => rfl) (fun u4 H locs huu4 Y => ?_)
      obtain ⟨u4_status, u4_points, u4_home, u4_men, u4_hasTable, u4_acts, u4_imaged, u4_length, u4_fault, u4_traced, u4_spot, u4_begins, u4_token, u4_number, u4_readPoints, u4_readHome, u4_readMen, u4_otherOne, u4_otherKind, u4_items, u4_lanes, u4_sizes, u4_firms, u4_kinds, u4_now, u4_before, u4_images, u4_tape, u4_trace, u4_readFirms, u4_readKinds, u4_readAt, u4_rows, u4_bests⟩ := u4
      replace Y : rY G A s (wMS G h h_items h_lanes h_sizes h_firms h_kinds h_now h_before h_images h_tape h_trace h_readFirms h_readKinds h_readAt h_rows h_bests u4_status u4_points u4_home u4_men u4_hasTable u4_acts u4_imaged u4_length u4_fault u4_traced u4_spot u4_begins u4_token u4_number u4_readPoints u4_readHome u4_readMen u4_otherOne u4_otherKind u4_items u4_lanes u4_sizes u4_firms u4_kinds u4_now u4_before u4_images u4_tape u4_trace u4_readFirms u4_readKinds u4_readAt u4_rows u4_bests) H locs := Y
      replace hM := mS hM huu4
      show W p l e q_X8_may s m args below meth c H locs 0 0 Q (F0 m 25 ls [])
      refine r_iconst (pc' := 26) X (0 : Int32) 13 rfl rfl rfl ?_
      refine r_istore_n (pc' := 27) (L' := [(2, .int (0 : Int32)), (0, .ref h), (1, .int i1)]) X hl rfl 14 rfl rfl (by decide) rfl (fun ls hl => ?_)
      refine r_iconst (pc' := 28) X (0 : Int32) 15 rfl rfl rfl ?_
      refine r_istore_n (pc' := 29) (L' := [(3, .int (0 : Int32)), (2, .int (0 : Int32)), (0, .ref h), (1, .int i1)]) X hl rfl 16 rfl rfl (by decide) rfl (fun ls hl => ?_)
      obtain ⟨LL5, hL5, hne5, hX5⟩ := mL hM hne
      have KX5 : ∀ (b5 : Int32) (H : Heap) (locs : List Loc) (ls : Array Slot), some b5 = LL5 → rY G A s (wMS G h h_items h_lanes h_sizes h_firms h_kinds h_now h_before h_images h_tape h_trace h_readFirms h_readKinds h_readAt h_rows h_bests u4_status u4_points u4_home u4_men u4_hasTable u4_acts u4_imaged u4_length u4_fault u4_traced u4_spot u4_begins u4_token u4_number u4_readPoints u4_readHome u4_readMen u4_otherOne u4_otherKind u4_items u4_lanes u4_sizes u4_firms u4_kinds u4_now u4_before u4_images u4_tape u4_trace u4_readFirms u4_readKinds u4_readAt u4_rows u4_bests) H locs → lv_has ls 4 [(2, .int b5)] → W p l e q_X8_may s m args below meth c H locs 0 0 Q (F0 m 79 ls []) := by
        intro b5 H locs ls hM Y hl
        replace hM := hX5 _ hM
        refine r_iload_n (pc' := 80) X hl 0 rfl rfl 46 rfl rfl ?_
        exact RT (b5, (u4_status, u4_points, u4_home, u4_men, u4_hasTable, u4_acts, u4_imaged, u4_length, u4_fault, u4_traced, u4_spot, u4_begins, u4_token, u4_number, u4_readPoints, u4_readHome, u4_readMen, u4_otherOne, u4_otherKind, u4_items, u4_lanes, u4_sizes, u4_firms, u4_kinds, u4_now, u4_before, u4_images, u4_tape, u4_trace, u4_readFirms, u4_readKinds, u4_readAt, u4_rows, u4_bests)) _ _ _ _ _ hM (Or.inl ⟨rfl, rfl, _, rfl⟩) (X.d (k := 47) rfl) Y
      refine lp_rule (I := fun (st5 : Int32 × Int32) => ∀ (H : Heap) (locs : List Loc) (ls : Array Slot), rY G A s (wMS G h h_items h_lanes h_sizes h_firms h_kinds h_now h_before h_images h_tape h_trace h_readFirms h_readKinds h_readAt h_rows h_bests u4_status u4_points u4_home u4_men u4_hasTable u4_acts u4_imaged u4_length u4_fault u4_traced u4_spot u4_begins u4_token u4_number u4_readPoints u4_readHome u4_readMen u4_otherOne u4_otherKind u4_items u4_lanes u4_sizes u4_firms u4_kinds u4_now u4_before u4_images u4_tape u4_trace u4_readFirms u4_readKinds u4_readAt u4_rows u4_bests) H locs → lv_has ls 4 [(0, .ref h), (1, .int i1), (2, .int st5.1), (3, .int st5.2)] → W p l e q_X8_may s m args below meth c H locs 0 0 Q (F0 m 29 ls [])) hne5 (fun rec5 st5 IH5 hM => ?_) _ _ hL5 _ _ _ Y (lv_sub hl [2, 3, 1, 0] rfl)
      intro H locs ls Y hl
      obtain ⟨st5_1, st5_2⟩ := st5
      replace Y : rY G A s (wMS G h h_items h_lanes h_sizes h_firms h_kinds h_now h_before h_images h_tape h_trace h_readFirms h_readKinds h_readAt h_rows h_bests u4_status u4_points u4_home u4_men u4_hasTable u4_acts u4_imaged u4_length u4_fault u4_traced u4_spot u4_begins u4_token u4_number u4_readPoints u4_readHome u4_readMen u4_otherOne u4_otherKind u4_items u4_lanes u4_sizes u4_firms u4_kinds u4_now u4_before u4_images u4_tape u4_trace u4_readFirms u4_readKinds u4_readAt u4_rows u4_bests) H locs := Y
      replace hl : lv_has ls 4 [(0, .ref h), (1, .int i1), (2, .int st5_1), (3, .int st5_2)] := hl
      refine r_iload_n (pc' := 30) X hl 3 rfl rfl 17 rfl rfl ?_
      refine r_aload_n (pc' := 31) X hl 0 rfl rfl 18 rfl rfl ?_
      refine r_get (pc' := 34) (v := .int u4_men) X Y 19 rfl rfl fRX8_159 0 rfl rfl ?_
      refine r_icmp_ge (pc' := 37) X 79 20 rfl rfl (by decide) (fun c6 => ?_) (fun c6 => ?_)
      · replace hM := mI hM c6
        exact KX5 st5_1 _ _ _ hM Y (lv_sub hl [2] rfl)
      · replace hM := mE hM c6
        refine r_iload_n (pc' := 38) X hl 2 rfl rfl 21 rfl rfl ?_
        refine r_aload_n (pc' := 39) X hl 0 rfl rfl 22 rfl rfl ?_
        refine r_get (pc' := 42) (v := .ref h_firms) X Y 23 rfl rfl fRX8_19 0 rfl rfl ?_
        refine r_iload_n (pc' := 43) X hl 3 rfl rfl 24 rfl rfl ?_
        obtain ⟨g7, hM⟩ := mG hM hne5
        refine r_iald (pc' := 44) X Y 25 rfl rfl 4 rfl (vin g7) ?_
        refine r_aload_n (pc' := 45) X hl 0 rfl rfl 26 rfl rfl ?_
        refine r_get (pc' := 48) (v := .ref h_now) X Y 27 rfl rfl fRX8_25 0 rfl rfl ?_
        refine r_bipush (pc' := 50) X (8 : Int32) 28 rfl rfl rfl ?_
        refine r_iald (pc' := 51) X Y 29 rfl rfl 6 rfl (vin rfl) ?_
        refine r_icmp_ne (pc' := 54) X 70 30 rfl rfl (by decide) (fun c8 => ?_) (fun c8 => ?_)
        · replace hM := mE hM c8
          refine r_iconst (pc' := 71) X (0 : Int32) 41 rfl rfl rfl ?_
          refine r_ior (pc' := 72) X 42 rfl rfl ?_
          refine r_istore_n (pc' := 73) (L' := [(2, .int (st5_1 ||| (0 : Int32))), (0, .ref h), (1, .int i1), (3, .int st5_2)]) X hl rfl 43 rfl rfl (by decide) rfl (fun ls hl => ?_)
          refine r_iinc (pc' := 76) (L' := [(3, .int (st5_2 + (1 : Int32))), (2, .int (st5_1 ||| (0 : Int32))), (0, .ref h), (1, .int i1)]) X (st5_2 + (1 : Int32)) hl 3 rfl rfl 44 rfl rfl (by decide) rfl (fun ls hl => ?_)
          refine r_goto X 29 45 rfl (by decide) ?_
          exact IH5 _ hM _ _ _ Y (lv_sub hl [2, 3, 1, 0] rfl)
        · replace hM := mI hM c8
          refine r_aload_n (pc' := 55) X hl 0 rfl rfl 31 rfl rfl ?_
          refine r_iconst (pc' := 56) X (0 : Int32) 32 rfl rfl rfl ?_
          refine r_iload_n (pc' := 57) X hl 3 rfl rfl 33 rfl rfl ?_
          refine r_iload_n (pc' := 58) X hl 1 rfl rfl 34 rfl rfl ?_
          refine r_callV0 (pc' := 61) (As := [.int (0 : Int32), .int st5_2, .int i1]) (rest := [.int st5_1]) X Y 35 rfl rfl mRX8_199 (c_X8_can l G h h_items h_lanes h_sizes h_firms h_kinds h_now h_before h_images h_tape h_trace h_readFirms h_readKinds h_readAt h_rows h_bests u4_status u4_points u4_home u4_men u4_hasTable u4_acts u4_imaged u4_length u4_fault u4_traced u4_spot u4_begins u4_token u4_number u4_readPoints u4_readHome u4_readMen u4_otherOne u4_otherKind u4_items u4_lanes u4_sizes u4_firms u4_kinds u4_now u4_before u4_images u4_tape u4_trace u4_readFirms u4_readKinds u4_readAt u4_rows u4_bests (0 : Int32) st5_2 i1) (mB hM hne5) 0 rfl rfl [0, 1, 2, 3, 4, 5, 6, 7, 8, 9, 10, 11, 12, 13, 14, 15] rfl rfl rfl (Nat.le_of_ble_eq_true rfl) ⟨rfl, rfl⟩ ⟨Nat.le_of_ble_eq_true rfl, Nat.le_of_ble_eq_true rfl⟩ ⟨Nat.zero_le _, Nat.zero_le _⟩ hl.1 (st' := fun u9 => [.int u9, .int st5_1]) (fun _ => rfl) (fun u9 H locs huu9 Y => ?_)
          replace hM := mS hM huu9
          refine r_if_eq (pc' := 64) X 70 36 rfl rfl (by decide) (fun c10 => ?_) (fun c10 => ?_)
          · replace hM := mI hM c10
            refine r_iconst (pc' := 71) X (0 : Int32) 41 rfl rfl rfl ?_
            refine r_ior (pc' := 72) X 42 rfl rfl ?_
            refine r_istore_n (pc' := 73) (L' := [(2, .int (st5_1 ||| (0 : Int32))), (0, .ref h), (1, .int i1), (3, .int st5_2)]) X hl rfl 43 rfl rfl (by decide) rfl (fun ls hl => ?_)
            refine r_iinc (pc' := 76) (L' := [(3, .int (st5_2 + (1 : Int32))), (2, .int (st5_1 ||| (0 : Int32))), (0, .ref h), (1, .int i1)]) X (st5_2 + (1 : Int32)) hl 3 rfl rfl 44 rfl rfl (by decide) rfl (fun ls hl => ?_)
            refine r_goto X 29 45 rfl (by decide) ?_
            exact IH5 _ hM _ _ _ Y (lv_sub hl [2, 3, 1, 0] rfl)
          · replace hM := mE hM c10
            refine r_iconst (pc' := 65) X (1 : Int32) 37 rfl rfl rfl ?_
            refine r_iload_n (pc' := 66) X hl 3 rfl rfl 38 rfl rfl ?_
            refine r_ishl (pc' := 67) X 39 rfl rfl ?_
            refine r_goto X 71 40 rfl (by decide) ?_
            refine r_ior (pc' := 72) X 42 rfl rfl ?_
            refine r_istore_n (pc' := 73) (L' := [(2, .int (st5_1 ||| ((1 : Int32) <<< (st5_2 &&& 31)))), (0, .ref h), (1, .int i1), (3, .int st5_2)]) X hl rfl 43 rfl rfl (by decide) rfl (fun ls hl => ?_)
            refine r_iinc (pc' := 76) (L' := [(3, .int (st5_2 + (1 : Int32))), (2, .int (st5_1 ||| ((1 : Int32) <<< (st5_2 &&& 31)))), (0, .ref h), (1, .int i1)]) X (st5_2 + (1 : Int32)) hl 3 rfl rfl 44 rfl rfl (by decide) rfl (fun ls hl => ?_)
            refine r_goto X 29 45 rfl (by decide) ?_
            exact IH5 _ hM _ _ _ Y (lv_sub hl [2, 3, 1, 0] rfl)
    · replace hM := mI hM c3
      refine r_ldc (pc' := 19) X mw542 8 rfl rfl ?_
      exact RT ((-1000001 : Int32), (S0_status, S0_points, S0_home, S0_men, S0_hasTable, S0_acts, S0_imaged, S0_length, S0_fault, S0_traced, S0_spot, S0_begins, S0_token, S0_number, S0_readPoints, S0_readHome, S0_readMen, S0_otherOne, S0_otherKind, S0_items, S0_lanes, S0_sizes, S0_firms, S0_kinds, S0_now, S0_before, S0_images, S0_tape, S0_trace, S0_readFirms, S0_readKinds, S0_readAt, S0_rows, S0_bests)) _ _ _ _ _ hM (Or.inl ⟨rfl, rfl, _, rfl⟩) (X.d (k := 9) rfl) Y
  · replace hM := mI hM c1
    refine r_ldc (pc' := 9) X mw684 3 rfl rfl ?_
    exact RT ((-1000002 : Int32), (S0_status, S0_points, S0_home, S0_men, S0_hasTable, S0_acts, S0_imaged, S0_length, S0_fault, S0_traced, S0_spot, S0_begins, S0_token, S0_number, S0_readPoints, S0_readHome, S0_readMen, S0_otherOne, S0_otherKind, S0_items, S0_lanes, S0_sizes, S0_firms, S0_kinds, S0_now, S0_before, S0_images, S0_tape, S0_trace, S0_readFirms, S0_readKinds, S0_readAt, S0_rows, S0_bests)) _ _ _ _ _ hM (Or.inl ⟨rfl, rfl, _, rfl⟩) (X.d (k := 4) rfl) Y

def M_X8_whither (S0 : MS) (i1 : Int32) (i2 : Int32) : Option (Int32 × MS) :=
  ((M_X8_isMan S0 i1).bind (fun u1 => (if u1 = 0 then (some ((-1000001 : Int32), S0)) else ((M_X8_isThrow i2).bind (fun u3 => (if u3 = 0 then (some ((-1000001 : Int32), S0)) else ((M_X8_aside S0 (0 : Int32)).bind (fun u5 => ((M_X8_can u5 (0 : Int32) i1 i2).bind (fun u6 => (if u6 = 0 then (some ((-1000000 : Int32), u5)) else ((M_X8_target u5 (0 : Int32) i1 i2).bind (fun u8 => (if u8 = (99 : Int32) then (some ((ms_points u5), u5)) else (some (u8, u5))))))))))))))))
def q_X8_whither : Room := { frames := 5, cells := 0, slots := 0, locals := 157 }
set_option maxHeartbeats 4000000 in
set_option maxRecDepth 100000 in
theorem c_X8_whither (l : Launch) (G : gT) (h h_items h_lanes h_sizes h_firms h_kinds h_now h_before h_images h_tape h_trace h_readFirms h_readKinds h_readAt h_rows h_bests : Nat) (S0_status : Int32) (S0_points : Int32) (S0_home : Int32) (S0_men : Int32) (S0_hasTable : Int32) (S0_acts : Int32) (S0_imaged : Int32) (S0_length : Int32) (S0_fault : Int32) (S0_traced : Int32) (S0_spot : Int32) (S0_begins : Int32) (S0_token : Int32) (S0_number : Int32) (S0_readPoints : Int32) (S0_readHome : Int32) (S0_readMen : Int32) (S0_otherOne : Int32) (S0_otherKind : Int32) (S0_items : Nat → Int32) (S0_lanes : Nat → Int32) (S0_sizes : Nat → Int32) (S0_firms : Nat → Int32) (S0_kinds : Nat → Int32) (S0_now : Nat → Int32) (S0_before : Nat → Int32) (S0_images : Nat → Int32) (S0_tape : Nat → Int32) (S0_trace : Nat → Int32) (S0_readFirms : Nat → Int32) (S0_readKinds : Nat → Int32) (S0_readAt : Nat → Int32) (S0_rows : Nat → Int32) (S0_bests : Nat → Int32) (i1 : Int32) (i2 : Int32) : CT l G yX8_whither cX8_whither 4 (some .int) q_X8_whither [.ref h, .int i1, .int i2] (wMS G h h_items h_lanes h_sizes h_firms h_kinds h_now h_before h_images h_tape h_trace h_readFirms h_readKinds h_readAt h_rows h_bests S0_status S0_points S0_home S0_men S0_hasTable S0_acts S0_imaged S0_length S0_fault S0_traced S0_spot S0_begins S0_token S0_number S0_readPoints S0_readHome S0_readMen S0_otherOne S0_otherKind S0_items S0_lanes S0_sizes S0_firms S0_kinds S0_now S0_before S0_images S0_tape S0_trace S0_readFirms S0_readKinds S0_readAt S0_rows S0_bests) (M_X8_whither (S0_status, S0_points, S0_home, S0_men, S0_hasTable, S0_acts, S0_imaged, S0_length, S0_fault, S0_traced, S0_spot, S0_begins, S0_token, S0_number, S0_readPoints, S0_readHome, S0_readMen, S0_otherOne, S0_otherKind, S0_items, S0_lanes, S0_sizes, S0_firms, S0_kinds, S0_now, S0_before, S0_images, S0_tape, S0_trace, S0_readFirms, S0_readKinds, S0_readAt, S0_rows, S0_bests) i1 i2) (fun u => some (.int u.1)) (fun u => wMS G h h_items h_lanes h_sizes h_firms h_kinds h_now h_before h_images h_tape h_trace h_readFirms h_readKinds h_readAt h_rows h_bests u.2.1 u.2.2.1 u.2.2.2.1 u.2.2.2.2.1 u.2.2.2.2.2.1 u.2.2.2.2.2.2.1 u.2.2.2.2.2.2.2.1 u.2.2.2.2.2.2.2.2.1 u.2.2.2.2.2.2.2.2.2.1 u.2.2.2.2.2.2.2.2.2.2.1 u.2.2.2.2.2.2.2.2.2.2.2.1 u.2.2.2.2.2.2.2.2.2.2.2.2.1 u.2.2.2.2.2.2.2.2.2.2.2.2.2.1 u.2.2.2.2.2.2.2.2.2.2.2.2.2.2.1 u.2.2.2.2.2.2.2.2.2.2.2.2.2.2.2.1 u.2.2.2.2.2.2.2.2.2.2.2.2.2.2.2.2.1 u.2.2.2.2.2.2.2.2.2.2.2.2.2.2.2.2.2.1 u.2.2.2.2.2.2.2.2.2.2.2.2.2.2.2.2.2.2.1 u.2.2.2.2.2.2.2.2.2.2.2.2.2.2.2.2.2.2.2.1 u.2.2.2.2.2.2.2.2.2.2.2.2.2.2.2.2.2.2.2.2.1 u.2.2.2.2.2.2.2.2.2.2.2.2.2.2.2.2.2.2.2.2.2.1 u.2.2.2.2.2.2.2.2.2.2.2.2.2.2.2.2.2.2.2.2.2.2.1 u.2.2.2.2.2.2.2.2.2.2.2.2.2.2.2.2.2.2.2.2.2.2.2.1 u.2.2.2.2.2.2.2.2.2.2.2.2.2.2.2.2.2.2.2.2.2.2.2.2.1 u.2.2.2.2.2.2.2.2.2.2.2.2.2.2.2.2.2.2.2.2.2.2.2.2.2.1 u.2.2.2.2.2.2.2.2.2.2.2.2.2.2.2.2.2.2.2.2.2.2.2.2.2.2.1 u.2.2.2.2.2.2.2.2.2.2.2.2.2.2.2.2.2.2.2.2.2.2.2.2.2.2.2.1 u.2.2.2.2.2.2.2.2.2.2.2.2.2.2.2.2.2.2.2.2.2.2.2.2.2.2.2.2.1 u.2.2.2.2.2.2.2.2.2.2.2.2.2.2.2.2.2.2.2.2.2.2.2.2.2.2.2.2.2.1 u.2.2.2.2.2.2.2.2.2.2.2.2.2.2.2.2.2.2.2.2.2.2.2.2.2.2.2.2.2.2.1 u.2.2.2.2.2.2.2.2.2.2.2.2.2.2.2.2.2.2.2.2.2.2.2.2.2.2.2.2.2.2.2.1 u.2.2.2.2.2.2.2.2.2.2.2.2.2.2.2.2.2.2.2.2.2.2.2.2.2.2.2.2.2.2.2.2.1 u.2.2.2.2.2.2.2.2.2.2.2.2.2.2.2.2.2.2.2.2.2.2.2.2.2.2.2.2.2.2.2.2.2.1 u.2.2.2.2.2.2.2.2.2.2.2.2.2.2.2.2.2.2.2.2.2.2.2.2.2.2.2.2.2.2.2.2.2.2) := by
  refine CT.of (P := PX8_whither) (by decide) dPX8_whither (Nat.le_of_ble_eq_true rfl) ?_
  intro p e s m args below meth c A Q ls hne X RT Y hl
  have hl : lv_has ls 4 [(0, .ref h), (1, .int i1), (2, .int i2)] := hl
  generalize hM : M_X8_whither (S0_status, S0_points, S0_home, S0_men, S0_hasTable, S0_acts, S0_imaged, S0_length, S0_fault, S0_traced, S0_spot, S0_begins, S0_token, S0_number, S0_readPoints, S0_readHome, S0_readMen, S0_otherOne, S0_otherKind, S0_items, S0_lanes, S0_sizes, S0_firms, S0_kinds, S0_now, S0_before, S0_images, S0_tape, S0_trace, S0_readFirms, S0_readKinds, S0_readAt, S0_rows, S0_bests) i1 i2 = MM at hne RT
  unfold M_X8_whither at hM
  refine r_aload_n (pc' := 1) X hl 0 rfl rfl 0 rfl rfl ?_
  refine r_iload_n (pc' := 2) X hl 1 rfl rfl 1 rfl rfl ?_
  refine r_callV0 (pc' := 5) (As := [.int i1]) (rest := []) X Y 2 rfl rfl mRX8_240 (c_X8_isMan l G h h_items h_lanes h_sizes h_firms h_kinds h_now h_before h_images h_tape h_trace h_readFirms h_readKinds h_readAt h_rows h_bests S0_status S0_points S0_home S0_men S0_hasTable S0_acts S0_imaged S0_length S0_fault S0_traced S0_spot S0_begins S0_token S0_number S0_readPoints S0_readHome S0_readMen S0_otherOne S0_otherKind S0_items S0_lanes S0_sizes S0_firms S0_kinds S0_now S0_before S0_images S0_tape S0_trace S0_readFirms S0_readKinds S0_readAt S0_rows S0_bests i1) (mB hM hne) 0 rfl rfl [0, 1, 2, 3, 4, 5, 6, 7, 8, 9, 10, 11, 12, 13, 14, 15] rfl rfl rfl (Nat.le_of_ble_eq_true rfl) ⟨rfl, rfl⟩ ⟨Nat.le_of_ble_eq_true rfl, Nat.le_of_ble_eq_true rfl⟩ ⟨Nat.zero_le _, Nat.zero_le _⟩ hl.1 (st' := fun u1 => [.int u1]) (fun _ => rfl) (fun u1 H locs huu1 Y => ?_)
  replace hM := mS hM huu1
  refine r_if_eq (pc' := 8) X 15 3 rfl rfl (by decide) (fun c2 => ?_) (fun c2 => ?_)
  · replace hM := mI hM c2
    refine r_ldc (pc' := 17) X mw542 7 rfl rfl ?_
    exact RT ((-1000001 : Int32), (S0_status, S0_points, S0_home, S0_men, S0_hasTable, S0_acts, S0_imaged, S0_length, S0_fault, S0_traced, S0_spot, S0_begins, S0_token, S0_number, S0_readPoints, S0_readHome, S0_readMen, S0_otherOne, S0_otherKind, S0_items, S0_lanes, S0_sizes, S0_firms, S0_kinds, S0_now, S0_before, S0_images, S0_tape, S0_trace, S0_readFirms, S0_readKinds, S0_readAt, S0_rows, S0_bests)) _ _ _ _ _ hM (Or.inl ⟨rfl, rfl, _, rfl⟩) (X.d (k := 8) rfl) Y
  · replace hM := mE hM c2
    refine r_iload_n (pc' := 9) X hl 2 rfl rfl 4 rfl rfl ?_
    refine r_callS0 (pc' := 12) (As := [.int i2]) (rest := []) X Y 5 rfl rfl mRX8_225 (c_X8_isThrow l G i2) (mB hM hne) rfl [] rfl rfl rfl (Nat.le_of_ble_eq_true rfl) ⟨rfl, rfl⟩ ⟨Nat.le_of_ble_eq_true rfl, Nat.le_of_ble_eq_true rfl⟩ ⟨Nat.zero_le _, Nat.zero_le _⟩ hl.1 (st' := fun u3 => [.int u3]) (fun _ => rfl) (fun u3 H locs huu3 Y => ?_)
    replace hM := mS hM huu3
    refine r_if_ne (pc' := 15) X 18 6 rfl rfl (by decide) (fun c4 => ?_) (fun c4 => ?_)
    · replace hM := mE hM c4
      refine r_aload_n (pc' := 19) X hl 0 rfl rfl 9 rfl rfl ?_
      refine r_iconst (pc' := 20) X (0 : Int32) 10 rfl rfl rfl ?_
      refine r_callV (pc' := 23) (As := [.int (0 : Int32)]) (rest := []) (wr := ([] : va_W)) X Y 11 rfl rfl mRX8_202 (c_X8_aside l G h h_items h_lanes h_sizes h_firms h_kinds h_now h_before h_images h_tape h_trace h_readFirms h_readKinds h_readAt h_rows h_bests S0_status S0_points S0_home S0_men S0_hasTable S0_acts S0_imaged S0_length S0_fault S0_traced S0_spot S0_begins S0_token S0_number S0_readPoints S0_readHome S0_readMen S0_otherOne S0_otherKind S0_items S0_lanes S0_sizes S0_firms S0_kinds S0_now S0_before S0_images S0_tape S0_trace S0_readFirms S0_readKinds S0_readAt S0_rows S0_bests (0 : Int32)) (mB hM hne) 0 rfl rfl [0, 1, 2, 3, 4, 5, 6, 7, 8, 9, 10, 11, 12, 13, 14, 15] [] [0, 1, 2, 3, 4, 5, 6, 7, 8, 9, 10, 11, 12, 13, 14, 15] rfl rfl ⟨rfl, rfl, rfl⟩ rfl (w2 := fun u5 => wMS G h h_items h_lanes h_sizes h_firms h_kinds h_now h_before h_images h_tape h_trace h_readFirms h_readKinds h_readAt h_rows h_bests u5.1 u5.2.1 u5.2.2.1 u5.2.2.2.1 u5.2.2.2.2.1 u5.2.2.2.2.2.1 u5.2.2.2.2.2.2.1 u5.2.2.2.2.2.2.2.1 u5.2.2.2.2.2.2.2.2.1 u5.2.2.2.2.2.2.2.2.2.1 u5.2.2.2.2.2.2.2.2.2.2.1 u5.2.2.2.2.2.2.2.2.2.2.2.1 u5.2.2.2.2.2.2.2.2.2.2.2.2.1 u5.2.2.2.2.2.2.2.2.2.2.2.2.2.1 u5.2.2.2.2.2.2.2.2.2.2.2.2.2.2.1 u5.2.2.2.2.2.2.2.2.2.2.2.2.2.2.2.1 u5.2.2.2.2.2.2.2.2.2.2.2.2.2.2.2.2.1 u5.2.2.2.2.2.2.2.2.2.2.2.2.2.2.2.2.2.1 u5.2.2.2.2.2.2.2.2.2.2.2.2.2.2.2.2.2.2.1 u5.2.2.2.2.2.2.2.2.2.2.2.2.2.2.2.2.2.2.2.1 u5.2.2.2.2.2.2.2.2.2.2.2.2.2.2.2.2.2.2.2.2.1 u5.2.2.2.2.2.2.2.2.2.2.2.2.2.2.2.2.2.2.2.2.2.1 u5.2.2.2.2.2.2.2.2.2.2.2.2.2.2.2.2.2.2.2.2.2.2.1 u5.2.2.2.2.2.2.2.2.2.2.2.2.2.2.2.2.2.2.2.2.2.2.2.1 u5.2.2.2.2.2.2.2.2.2.2.2.2.2.2.2.2.2.2.2.2.2.2.2.2.1 u5.2.2.2.2.2.2.2.2.2.2.2.2.2.2.2.2.2.2.2.2.2.2.2.2.2.1 u5.2.2.2.2.2.2.2.2.2.2.2.2.2.2.2.2.2.2.2.2.2.2.2.2.2.2.1 u5.2.2.2.2.2.2.2.2.2.2.2.2.2.2.2.2.2.2.2.2.2.2.2.2.2.2.2.1 u5.2.2.2.2.2.2.2.2.2.2.2.2.2.2.2.2.2.2.2.2.2.2.2.2.2.2.2.2.1 u5.2.2.2.2.2.2.2.2.2.2.2.2.2.2.2.2.2.2.2.2.2.2.2.2.2.2.2.2.2.1 u5.2.2.2.2.2.2.2.2.2.2.2.2.2.2.2.2.2.2.2.2.2.2.2.2.2.2.2.2.2.2.1 u5.2.2.2.2.2.2.2.2.2.2.2.2.2.2.2.2.2.2.2.2.2.2.2.2.2.2.2.2.2.2.2.1 u5.2.2.2.2.2.2.2.2.2.2.2.2.2.2.2.2.2.2.2.2.2.2.2.2.2.2.2.2.2.2.2.2.1 u5.2.2.2.2.2.2.2.2.2.2.2.2.2.2.2.2.2.2.2.2.2.2.2.2.2.2.2.2.2.2.2.2.2) (fun _ => rfl) rfl (Nat.le_of_ble_eq_true rfl) ⟨rfl, rfl⟩ ⟨Nat.le_of_ble_eq_true rfl, Nat.le_of_ble_eq_true rfl⟩ ⟨Nat.zero_le _, Nat.zero_le _⟩ hl.1 (st' := fun u5 => []) (fun _ => rfl) (fun u5 H locs huu5 Y => ?_)
      obtain ⟨u5_status, u5_points, u5_home, u5_men, u5_hasTable, u5_acts, u5_imaged, u5_length, u5_fault, u5_traced, u5_spot, u5_begins, u5_token, u5_number, u5_readPoints, u5_readHome, u5_readMen, u5_otherOne, u5_otherKind, u5_items, u5_lanes, u5_sizes, u5_firms, u5_kinds, u5_now, u5_before, u5_images, u5_tape, u5_trace, u5_readFirms, u5_readKinds, u5_readAt, u5_rows, u5_bests⟩ := u5
      replace Y : rY G A s (wMS G h h_items h_lanes h_sizes h_firms h_kinds h_now h_before h_images h_tape h_trace h_readFirms h_readKinds h_readAt h_rows h_bests u5_status u5_points u5_home u5_men u5_hasTable u5_acts u5_imaged u5_length u5_fault u5_traced u5_spot u5_begins u5_token u5_number u5_readPoints u5_readHome u5_readMen u5_otherOne u5_otherKind u5_items u5_lanes u5_sizes u5_firms u5_kinds u5_now u5_before u5_images u5_tape u5_trace u5_readFirms u5_readKinds u5_readAt u5_rows u5_bests) H locs := Y
      replace hM := mS hM huu5
      show W p l e q_X8_whither s m args below meth c H locs 0 0 Q (F0 m 23 ls [])
      refine r_aload_n (pc' := 24) X hl 0 rfl rfl 12 rfl rfl ?_
      refine r_iconst (pc' := 25) X (0 : Int32) 13 rfl rfl rfl ?_
      refine r_iload_n (pc' := 26) X hl 1 rfl rfl 14 rfl rfl ?_
      refine r_iload_n (pc' := 27) X hl 2 rfl rfl 15 rfl rfl ?_
      refine r_callV0 (pc' := 30) (As := [.int (0 : Int32), .int i1, .int i2]) (rest := []) X Y 16 rfl rfl mRX8_199 (c_X8_can l G h h_items h_lanes h_sizes h_firms h_kinds h_now h_before h_images h_tape h_trace h_readFirms h_readKinds h_readAt h_rows h_bests u5_status u5_points u5_home u5_men u5_hasTable u5_acts u5_imaged u5_length u5_fault u5_traced u5_spot u5_begins u5_token u5_number u5_readPoints u5_readHome u5_readMen u5_otherOne u5_otherKind u5_items u5_lanes u5_sizes u5_firms u5_kinds u5_now u5_before u5_images u5_tape u5_trace u5_readFirms u5_readKinds u5_readAt u5_rows u5_bests (0 : Int32) i1 i2) (mB hM hne) 0 rfl rfl [0, 1, 2, 3, 4, 5, 6, 7, 8, 9, 10, 11, 12, 13, 14, 15] rfl rfl rfl (Nat.le_of_ble_eq_true rfl) ⟨rfl, rfl⟩ ⟨Nat.le_of_ble_eq_true rfl, Nat.le_of_ble_eq_true rfl⟩ ⟨Nat.zero_le _, Nat.zero_le _⟩ hl.1 (st' := fun u6 => [.int u6]) (fun _ => rfl) (fun u6 H locs huu6 Y => ?_)
      replace hM := mS hM huu6
      refine r_if_ne (pc' := 33) X 36 17 rfl rfl (by decide) (fun c7 => ?_) (fun c7 => ?_)
      · replace hM := mE hM c7
        refine r_aload_n (pc' := 37) X hl 0 rfl rfl 20 rfl rfl ?_
        refine r_iconst (pc' := 38) X (0 : Int32) 21 rfl rfl rfl ?_
        refine r_iload_n (pc' := 39) X hl 1 rfl rfl 22 rfl rfl ?_
        refine r_iload_n (pc' := 40) X hl 2 rfl rfl 23 rfl rfl ?_
        refine r_callV0 (pc' := 43) (As := [.int (0 : Int32), .int i1, .int i2]) (rest := []) X Y 24 rfl rfl mRX8_191 (c_X8_target l G h h_items h_lanes h_sizes h_firms h_kinds h_now h_before h_images h_tape h_trace h_readFirms h_readKinds h_readAt h_rows h_bests u5_status u5_points u5_home u5_men u5_hasTable u5_acts u5_imaged u5_length u5_fault u5_traced u5_spot u5_begins u5_token u5_number u5_readPoints u5_readHome u5_readMen u5_otherOne u5_otherKind u5_items u5_lanes u5_sizes u5_firms u5_kinds u5_now u5_before u5_images u5_tape u5_trace u5_readFirms u5_readKinds u5_readAt u5_rows u5_bests (0 : Int32) i1 i2) (mB hM hne) 0 rfl rfl [0, 1, 2, 3, 4, 5, 6, 7, 8, 9, 10, 11, 12, 13, 14, 15] rfl rfl rfl (Nat.le_of_ble_eq_true rfl) ⟨rfl, rfl⟩ ⟨Nat.le_of_ble_eq_true rfl, Nat.le_of_ble_eq_true rfl⟩ ⟨Nat.zero_le _, Nat.zero_le _⟩ hl.1 (st' := fun u8 => [.int u8]) (fun _ => rfl) (fun u8 H locs huu8 Y => ?_)
        replace hM := mS hM huu8
        refine r_istore_n (pc' := 44) (L' := [(3, .int u8), (0, .ref h), (1, .int i1), (2, .int i2)]) X hl rfl 25 rfl rfl (by decide) rfl (fun ls hl => ?_)
        refine r_iload_n (pc' := 45) X hl 0 rfl rfl 26 rfl rfl ?_
        refine r_bipush (pc' := 47) X (99 : Int32) 27 rfl rfl rfl ?_
        refine r_icmp_ne (pc' := 50) X 57 28 rfl rfl (by decide) (fun c9 => ?_) (fun c9 => ?_)
        · replace hM := mE hM c9
          refine r_iload_n (pc' := 58) X hl 0 rfl rfl 32 rfl rfl ?_
          exact RT (u8, (u5_status, u5_points, u5_home, u5_men, u5_hasTable, u5_acts, u5_imaged, u5_length, u5_fault, u5_traced, u5_spot, u5_begins, u5_token, u5_number, u5_readPoints, u5_readHome, u5_readMen, u5_otherOne, u5_otherKind, u5_items, u5_lanes, u5_sizes, u5_firms, u5_kinds, u5_now, u5_before, u5_images, u5_tape, u5_trace, u5_readFirms, u5_readKinds, u5_readAt, u5_rows, u5_bests)) _ _ _ _ _ hM (Or.inl ⟨rfl, rfl, _, rfl⟩) (X.d (k := 33) rfl) Y
        · replace hM := mI hM c9
          refine r_aload_n (pc' := 51) X hl 1 rfl rfl 29 rfl rfl ?_
          refine r_get (pc' := 54) (v := .int u5_points) X Y 30 rfl rfl fRX8_153 0 rfl rfl ?_
          refine r_goto X 58 31 rfl (by decide) ?_
          exact RT (u5_points, (u5_status, u5_points, u5_home, u5_men, u5_hasTable, u5_acts, u5_imaged, u5_length, u5_fault, u5_traced, u5_spot, u5_begins, u5_token, u5_number, u5_readPoints, u5_readHome, u5_readMen, u5_otherOne, u5_otherKind, u5_items, u5_lanes, u5_sizes, u5_firms, u5_kinds, u5_now, u5_before, u5_images, u5_tape, u5_trace, u5_readFirms, u5_readKinds, u5_readAt, u5_rows, u5_bests)) _ _ _ _ _ hM (Or.inl ⟨rfl, rfl, _, rfl⟩) (X.d (k := 33) rfl) Y
      · replace hM := mI hM c7
        refine r_ldc (pc' := 35) X mw526 18 rfl rfl ?_
        exact RT ((-1000000 : Int32), (u5_status, u5_points, u5_home, u5_men, u5_hasTable, u5_acts, u5_imaged, u5_length, u5_fault, u5_traced, u5_spot, u5_begins, u5_token, u5_number, u5_readPoints, u5_readHome, u5_readMen, u5_otherOne, u5_otherKind, u5_items, u5_lanes, u5_sizes, u5_firms, u5_kinds, u5_now, u5_before, u5_images, u5_tape, u5_trace, u5_readFirms, u5_readKinds, u5_readAt, u5_rows, u5_bests)) _ _ _ _ _ hM (Or.inl ⟨rfl, rfl, _, rfl⟩) (X.d (k := 19) rfl) Y
    · replace hM := mI hM c4
      refine r_ldc (pc' := 17) X mw542 7 rfl rfl ?_
      exact RT ((-1000001 : Int32), (S0_status, S0_points, S0_home, S0_men, S0_hasTable, S0_acts, S0_imaged, S0_length, S0_fault, S0_traced, S0_spot, S0_begins, S0_token, S0_number, S0_readPoints, S0_readHome, S0_readMen, S0_otherOne, S0_otherKind, S0_items, S0_lanes, S0_sizes, S0_firms, S0_kinds, S0_now, S0_before, S0_images, S0_tape, S0_trace, S0_readFirms, S0_readKinds, S0_readAt, S0_rows, S0_bests)) _ _ _ _ _ hM (Or.inl ⟨rfl, rfl, _, rfl⟩) (X.d (k := 8) rfl) Y

def M_X8_shots (S0 : MS) (i1 : Int32) : Option (Int32 × MS) :=
  ((M_X8_isMan S0 i1).bind (fun u1 => (if u1 = 0 then (some ((-1000001 : Int32), S0)) else (if inb i1 12 = true then (if ((ms_now S0) (i1).toNatClampNeg) < (ms_points S0) then ((M_X8_aside S0 (0 : Int32)).bind (fun u5 => (if inb i1 8 = true then ((M_X8_manyAt u5 (0 : Int32) (((ms_firms u5) (i1).toNatClampNeg)) (((ms_now u5) (i1).toNatClampNeg)) i1).bind (fun u7 => (jn (σ := Int32) (fun v8 => ((lp (σ := Int32 × Int32) (β := Int32) (fun rec9 st9 => (if (7 : Int32) ≤ st9.2 then (some st9.1) else ((lp (σ := Int32 × Int32) (β := Int32) (fun rec11 st11 => (if (ms_men u5) ≤ st11.2 then (some st11.1) else (jn (σ := Int32) (fun v13 => (if v13 = 0 then (rec11 ((st11.1 ||| (0 : Int32)), (st11.2 + (1 : Int32)))) else (rec11 ((st11.1 ||| ((1 : Int32) <<< (st9.2 &&& 31))), (st11.2 + (1 : Int32)))))) (fun J13 => (jn (σ := Unit) (fun v15 => (J13 (0 : Int32))) (fun J15 => (if v8 = 0 then (J15 ()) else (if inb st11.2 8 = true then (if ((ms_firms u5) (st11.2).toNatClampNeg) = ((ms_firms u5) (i1).toNatClampNeg) then (J15 ()) else ((M_X8_can u5 (0 : Int32) st11.2 st9.2).bind (fun u19 => (if u19 = 0 then (J15 ()) else ((M_X8_target u5 (0 : Int32) st11.2 st9.2).bind (fun u21 => (if u21 = ((ms_now u5) (i1).toNatClampNeg) then (J13 (1 : Int32)) else (J15 ())))))))) else none)))))))) 1000000 (st9.1, (0 : Int32))).bind (fun b11 => (rec9 (b11, (st9.2 + (1 : Int32)))))))) 1000000 ((0 : Int32), (1 : Int32))).bind (fun b9 => (some (b9, u5))))) (fun J8 => (if u7 = 0 then (J8 (1 : Int32)) else (J8 (0 : Int32))))))) else none))) else (some ((-1000002 : Int32), S0))) else none))))
def q_X8_shots : Room := { frames := 5, cells := 0, slots := 0, locals := 157 }
set_option maxHeartbeats 4000000 in
set_option maxRecDepth 100000 in
theorem c_X8_shots (l : Launch) (G : gT) (h h_items h_lanes h_sizes h_firms h_kinds h_now h_before h_images h_tape h_trace h_readFirms h_readKinds h_readAt h_rows h_bests : Nat) (S0_status : Int32) (S0_points : Int32) (S0_home : Int32) (S0_men : Int32) (S0_hasTable : Int32) (S0_acts : Int32) (S0_imaged : Int32) (S0_length : Int32) (S0_fault : Int32) (S0_traced : Int32) (S0_spot : Int32) (S0_begins : Int32) (S0_token : Int32) (S0_number : Int32) (S0_readPoints : Int32) (S0_readHome : Int32) (S0_readMen : Int32) (S0_otherOne : Int32) (S0_otherKind : Int32) (S0_items : Nat → Int32) (S0_lanes : Nat → Int32) (S0_sizes : Nat → Int32) (S0_firms : Nat → Int32) (S0_kinds : Nat → Int32) (S0_now : Nat → Int32) (S0_before : Nat → Int32) (S0_images : Nat → Int32) (S0_tape : Nat → Int32) (S0_trace : Nat → Int32) (S0_readFirms : Nat → Int32) (S0_readKinds : Nat → Int32) (S0_readAt : Nat → Int32) (S0_rows : Nat → Int32) (S0_bests : Nat → Int32) (i1 : Int32) : CT l G yX8_shots cX8_shots 7 (some .int) q_X8_shots [.ref h, .int i1] (wMS G h h_items h_lanes h_sizes h_firms h_kinds h_now h_before h_images h_tape h_trace h_readFirms h_readKinds h_readAt h_rows h_bests S0_status S0_points S0_home S0_men S0_hasTable S0_acts S0_imaged S0_length S0_fault S0_traced S0_spot S0_begins S0_token S0_number S0_readPoints S0_readHome S0_readMen S0_otherOne S0_otherKind S0_items S0_lanes S0_sizes S0_firms S0_kinds S0_now S0_before S0_images S0_tape S0_trace S0_readFirms S0_readKinds S0_readAt S0_rows S0_bests) (M_X8_shots (S0_status, S0_points, S0_home, S0_men, S0_hasTable, S0_acts, S0_imaged, S0_length, S0_fault, S0_traced, S0_spot, S0_begins, S0_token, S0_number, S0_readPoints, S0_readHome, S0_readMen, S0_otherOne, S0_otherKind, S0_items, S0_lanes, S0_sizes, S0_firms, S0_kinds, S0_now, S0_before, S0_images, S0_tape, S0_trace, S0_readFirms, S0_readKinds, S0_readAt, S0_rows, S0_bests) i1) (fun u => some (.int u.1)) (fun u => wMS G h h_items h_lanes h_sizes h_firms h_kinds h_now h_before h_images h_tape h_trace h_readFirms h_readKinds h_readAt h_rows h_bests u.2.1 u.2.2.1 u.2.2.2.1 u.2.2.2.2.1 u.2.2.2.2.2.1 u.2.2.2.2.2.2.1 u.2.2.2.2.2.2.2.1 u.2.2.2.2.2.2.2.2.1 u.2.2.2.2.2.2.2.2.2.1 u.2.2.2.2.2.2.2.2.2.2.1 u.2.2.2.2.2.2.2.2.2.2.2.1 u.2.2.2.2.2.2.2.2.2.2.2.2.1 u.2.2.2.2.2.2.2.2.2.2.2.2.2.1 u.2.2.2.2.2.2.2.2.2.2.2.2.2.2.1 u.2.2.2.2.2.2.2.2.2.2.2.2.2.2.2.1 u.2.2.2.2.2.2.2.2.2.2.2.2.2.2.2.2.1 u.2.2.2.2.2.2.2.2.2.2.2.2.2.2.2.2.2.1 u.2.2.2.2.2.2.2.2.2.2.2.2.2.2.2.2.2.2.1 u.2.2.2.2.2.2.2.2.2.2.2.2.2.2.2.2.2.2.2.1 u.2.2.2.2.2.2.2.2.2.2.2.2.2.2.2.2.2.2.2.2.1 u.2.2.2.2.2.2.2.2.2.2.2.2.2.2.2.2.2.2.2.2.2.1 u.2.2.2.2.2.2.2.2.2.2.2.2.2.2.2.2.2.2.2.2.2.2.1 u.2.2.2.2.2.2.2.2.2.2.2.2.2.2.2.2.2.2.2.2.2.2.2.1 u.2.2.2.2.2.2.2.2.2.2.2.2.2.2.2.2.2.2.2.2.2.2.2.2.1 u.2.2.2.2.2.2.2.2.2.2.2.2.2.2.2.2.2.2.2.2.2.2.2.2.2.1 u.2.2.2.2.2.2.2.2.2.2.2.2.2.2.2.2.2.2.2.2.2.2.2.2.2.2.1 u.2.2.2.2.2.2.2.2.2.2.2.2.2.2.2.2.2.2.2.2.2.2.2.2.2.2.2.1 u.2.2.2.2.2.2.2.2.2.2.2.2.2.2.2.2.2.2.2.2.2.2.2.2.2.2.2.2.1 u.2.2.2.2.2.2.2.2.2.2.2.2.2.2.2.2.2.2.2.2.2.2.2.2.2.2.2.2.2.1 u.2.2.2.2.2.2.2.2.2.2.2.2.2.2.2.2.2.2.2.2.2.2.2.2.2.2.2.2.2.2.1 u.2.2.2.2.2.2.2.2.2.2.2.2.2.2.2.2.2.2.2.2.2.2.2.2.2.2.2.2.2.2.2.1 u.2.2.2.2.2.2.2.2.2.2.2.2.2.2.2.2.2.2.2.2.2.2.2.2.2.2.2.2.2.2.2.2.1 u.2.2.2.2.2.2.2.2.2.2.2.2.2.2.2.2.2.2.2.2.2.2.2.2.2.2.2.2.2.2.2.2.2.1 u.2.2.2.2.2.2.2.2.2.2.2.2.2.2.2.2.2.2.2.2.2.2.2.2.2.2.2.2.2.2.2.2.2.2) := by
  refine CT.of (P := PX8_shots) (by decide) dPX8_shots (Nat.le_of_ble_eq_true rfl) ?_
  intro p e s m args below meth c A Q ls hne X RT Y hl
  have hl : lv_has ls 7 [(0, .ref h), (1, .int i1)] := hl
  generalize hM : M_X8_shots (S0_status, S0_points, S0_home, S0_men, S0_hasTable, S0_acts, S0_imaged, S0_length, S0_fault, S0_traced, S0_spot, S0_begins, S0_token, S0_number, S0_readPoints, S0_readHome, S0_readMen, S0_otherOne, S0_otherKind, S0_items, S0_lanes, S0_sizes, S0_firms, S0_kinds, S0_now, S0_before, S0_images, S0_tape, S0_trace, S0_readFirms, S0_readKinds, S0_readAt, S0_rows, S0_bests) i1 = MM at hne RT
  unfold M_X8_shots at hM
  refine r_aload_n (pc' := 1) X hl 0 rfl rfl 0 rfl rfl ?_
  refine r_iload_n (pc' := 2) X hl 1 rfl rfl 1 rfl rfl ?_
  refine r_callV0 (pc' := 5) (As := [.int i1]) (rest := []) X Y 2 rfl rfl mRX8_240 (c_X8_isMan l G h h_items h_lanes h_sizes h_firms h_kinds h_now h_before h_images h_tape h_trace h_readFirms h_readKinds h_readAt h_rows h_bests S0_status S0_points S0_home S0_men S0_hasTable S0_acts S0_imaged S0_length S0_fault S0_traced S0_spot S0_begins S0_token S0_number S0_readPoints S0_readHome S0_readMen S0_otherOne S0_otherKind S0_items S0_lanes S0_sizes S0_firms S0_kinds S0_now S0_before S0_images S0_tape S0_trace S0_readFirms S0_readKinds S0_readAt S0_rows S0_bests i1) (mB hM hne) 0 rfl rfl [0, 1, 2, 3, 4, 5, 6, 7, 8, 9, 10, 11, 12, 13, 14, 15] rfl rfl rfl (Nat.le_of_ble_eq_true rfl) ⟨rfl, rfl⟩ ⟨Nat.le_of_ble_eq_true rfl, Nat.le_of_ble_eq_true rfl⟩ ⟨Nat.zero_le _, Nat.zero_le _⟩ hl.1 (st' := fun u1 => [.int u1]) (fun _ => rfl) (fun u1 H locs huu1 Y => ?_)
  replace hM := mS hM huu1
  refine r_if_ne (pc' := 8) X 11 3 rfl rfl (by decide) (fun c2 => ?_) (fun c2 => ?_)
  · replace hM := mE hM c2
    refine r_aload_n (pc' := 12) X hl 0 rfl rfl 6 rfl rfl ?_
    refine r_get (pc' := 15) (v := .ref h_now) X Y 7 rfl rfl fRX8_25 0 rfl rfl ?_
    refine r_iload_n (pc' := 16) X hl 1 rfl rfl 8 rfl rfl ?_
    obtain ⟨g3, hM⟩ := mG hM hne
    refine r_iald (pc' := 17) X Y 9 rfl rfl 6 rfl (vin g3) ?_
    refine r_aload_n (pc' := 18) X hl 0 rfl rfl 10 rfl rfl ?_
    refine r_get (pc' := 21) (v := .int S0_points) X Y 11 rfl rfl fRX8_153 0 rfl rfl ?_
    refine r_icmp_lt (pc' := 24) X 27 12 rfl rfl (by decide) (fun c4 => ?_) (fun c4 => ?_)
    · replace hM := mI hM c4
      refine r_aload_n (pc' := 28) X hl 0 rfl rfl 15 rfl rfl ?_
      refine r_iconst (pc' := 29) X (0 : Int32) 16 rfl rfl rfl ?_
      refine r_callV (pc' := 32) (As := [.int (0 : Int32)]) (rest := []) (wr := ([] : va_W)) X Y 17 rfl rfl mRX8_202 (c_X8_aside l G h h_items h_lanes h_sizes h_firms h_kinds h_now h_before h_images h_tape h_trace h_readFirms h_readKinds h_readAt h_rows h_bests S0_status S0_points S0_home S0_men S0_hasTable S0_acts S0_imaged S0_length S0_fault S0_traced S0_spot S0_begins S0_token S0_number S0_readPoints S0_readHome S0_readMen S0_otherOne S0_otherKind S0_items S0_lanes S0_sizes S0_firms S0_kinds S0_now S0_before S0_images S0_tape S0_trace S0_readFirms S0_readKinds S0_readAt S0_rows S0_bests (0 : Int32)) (mB hM hne) 0 rfl rfl [0, 1, 2, 3, 4, 5, 6, 7, 8, 9, 10, 11, 12, 13, 14, 15] [] [0, 1, 2, 3, 4, 5, 6, 7, 8, 9, 10, 11, 12, 13, 14, 15] rfl rfl ⟨rfl, rfl, rfl⟩ rfl (w2 := fun u5 => wMS G h h_items h_lanes h_sizes h_firms h_kinds h_now h_before h_images h_tape h_trace h_readFirms h_readKinds h_readAt h_rows h_bests u5.1 u5.2.1 u5.2.2.1 u5.2.2.2.1 u5.2.2.2.2.1 u5.2.2.2.2.2.1 u5.2.2.2.2.2.2.1 u5.2.2.2.2.2.2.2.1 u5.2.2.2.2.2.2.2.2.1 u5.2.2.2.2.2.2.2.2.2.1 u5.2.2.2.2.2.2.2.2.2.2.1 u5.2.2.2.2.2.2.2.2.2.2.2.1 u5.2.2.2.2.2.2.2.2.2.2.2.2.1 u5.2.2.2.2.2.2.2.2.2.2.2.2.2.1 u5.2.2.2.2.2.2.2.2.2.2.2.2.2.2.1 u5.2.2.2.2.2.2.2.2.2.2.2.2.2.2.2.1 u5.2.2.2.2.2.2.2.2.2.2.2.2.2.2.2.2.1 u5.2.2.2.2.2.2.2.2.2.2.2.2.2.2.2.2.2.1 u5.2.2.2.2.2.2.2.2.2.2.2.2.2.2.2.2.2.2.1 u5.2.2.2.2.2.2.2.2.2.2.2.2.2.2.2.2.2.2.2.1 u5.2.2.2.2.2.2.2.2.2.2.2.2.2.2.2.2.2.2.2.2.1 u5.2.2.2.2.2.2.2.2.2.2.2.2.2.2.2.2.2.2.2.2.2.1 u5.2.2.2.2.2.2.2.2.2.2.2.2.2.2.2.2.2.2.2.2.2.2.1 u5.2.2.2.2.2.2.2.2.2.2.2.2.2.2.2.2.2.2.2.2.2.2.2.1 u5.2.2.2.2.2.2.2.2.2.2.2.2.2.2.2.2.2.2.2.2.2.2.2.2.1 u5.2.2.2.2.2.2.2.2.2.2.2.2.2.2.2.2.2.2.2.2.2.2.2.2.2.1 u5.2.2.2.2.2.2.2.2.2.2.2.2.2.2.2.2.2.2.2.2.2.2.2.2.2.2.1 u5.2.2.2.2.2.2.2.2.2.2.2.2.2.2.2.2.2.2.2.2.2.2.2.2.2.2.2.1 u5.2.2.2.2.2.2.2.2.2.2.2.2.2.2.2.2.2.2.2.2.2.2.2.2.2.2.2.2.1 u5.2.2.2.2.2.2.2.2.2.2.2.2.2.2.2.2.2.2.2.2.2.2.2.2.2.2.2.2.2.1 u5.2.2.2.2.2.2.2.2.2.2.2.2.2.2.2.2.2.2.2.2.2.2.2.2.2.2.2.2.2.2.1 u5.2.2.2.2.2.2.2.2.2.2.2.2.2.2.2.2.2.2.2.2.2.2.2.2.2.2.2.2.2.2.2.1 u5.2.2.2.2.2.2.2.2.2.2.2.2.2.2.2.2.2.2.2.2.2.2.2.2.2.2.2.2.2.2.2.2.1 u5.2.2.2.2.2.2.2.2.2.2.2.2.2.2.2.2.2.2.2.2.2.2.2.2.2.2.2.2.2.2.2.2.2) (fun _ => rfl) rfl (Nat.le_of_ble_eq_true rfl) ⟨rfl, rfl⟩ ⟨Nat.le_of_ble_eq_true rfl, Nat.le_of_ble_eq_true rfl⟩ ⟨Nat.zero_le _, Nat.zero_le _⟩ hl.1 (st' := fun u5 => []) (fun _ => rfl) (fun u5 H locs huu5 Y => ?_)
      obtain ⟨u5_status, u5_points, u5_home, u5_men, u5_hasTable, u5_acts, u5_imaged, u5_length, u5_fault, u5_traced, u5_spot, u5_begins, u5_token, u5_number, u5_readPoints, u5_readHome, u5_readMen, u5_otherOne, u5_otherKind, u5_items, u5_lanes, u5_sizes, u5_firms, u5_kinds, u5_now, u5_before, u5_images, u5_tape, u5_trace, u5_readFirms, u5_readKinds, u5_readAt, u5_rows, u5_bests⟩ := u5
      replace Y : rY G A s (wMS G h h_items h_lanes h_sizes h_firms h_kinds h_now h_before h_images h_tape h_trace h_readFirms h_readKinds h_readAt h_rows h_bests u5_status u5_points u5_home u5_men u5_hasTable u5_acts u5_imaged u5_length u5_fault u5_traced u5_spot u5_begins u5_token u5_number u5_readPoints u5_readHome u5_readMen u5_otherOne u5_otherKind u5_items u5_lanes u5_sizes u5_firms u5_kinds u5_now u5_before u5_images u5_tape u5_trace u5_readFirms u5_readKinds u5_readAt u5_rows u5_bests) H locs := Y
      replace hM := mS hM huu5
      show W p l e q_X8_shots s m args below meth c H locs 0 0 Q (F0 m 32 ls [])
      refine r_iconst (pc' := 33) X (0 : Int32) 18 rfl rfl rfl ?_
      refine r_istore_n (pc' := 34) (L' := [(2, .int (0 : Int32)), (0, .ref h), (1, .int i1)]) X hl rfl 19 rfl rfl (by decide) rfl (fun ls hl => ?_)
      refine r_aload_n (pc' := 35) X hl 1 rfl rfl 20 rfl rfl ?_
      refine r_iconst (pc' := 36) X (0 : Int32) 21 rfl rfl rfl ?_
      refine r_aload_n (pc' := 37) X hl 1 rfl rfl 22 rfl rfl ?_
      refine r_get (pc' := 40) (v := .ref h_firms) X Y 23 rfl rfl fRX8_19 0 rfl rfl ?_
      refine r_iload_n (pc' := 41) X hl 2 rfl rfl 24 rfl rfl ?_
      obtain ⟨g6, hM⟩ := mG hM hne
      refine r_iald (pc' := 42) X Y 25 rfl rfl 4 rfl (vin g6) ?_
      refine r_aload_n (pc' := 43) X hl 1 rfl rfl 26 rfl rfl ?_
      refine r_get (pc' := 46) (v := .ref h_now) X Y 27 rfl rfl fRX8_25 0 rfl rfl ?_
      refine r_iload_n (pc' := 47) X hl 2 rfl rfl 28 rfl rfl ?_
      refine r_iald (pc' := 48) X Y 29 rfl rfl 6 rfl (vin g3) ?_
      refine r_iload_n (pc' := 49) X hl 2 rfl rfl 30 rfl rfl ?_
      refine r_callV0 (pc' := 52) (As := [.int (0 : Int32), .int (u5_firms (i1).toNatClampNeg), .int (u5_now (i1).toNatClampNeg), .int i1]) (rest := []) X Y 31 rfl rfl mRX8_187 (c_X8_manyAt l G h h_items h_lanes h_sizes h_firms h_kinds h_now h_before h_images h_tape h_trace h_readFirms h_readKinds h_readAt h_rows h_bests u5_status u5_points u5_home u5_men u5_hasTable u5_acts u5_imaged u5_length u5_fault u5_traced u5_spot u5_begins u5_token u5_number u5_readPoints u5_readHome u5_readMen u5_otherOne u5_otherKind u5_items u5_lanes u5_sizes u5_firms u5_kinds u5_now u5_before u5_images u5_tape u5_trace u5_readFirms u5_readKinds u5_readAt u5_rows u5_bests (0 : Int32) ((u5_firms (i1).toNatClampNeg)) ((u5_now (i1).toNatClampNeg)) i1) (mB hM hne) 0 rfl rfl [0, 1, 2, 3, 4, 5, 6, 7, 8, 9, 10, 11, 12, 13, 14, 15] rfl rfl rfl (Nat.le_of_ble_eq_true rfl) ⟨rfl, rfl⟩ ⟨Nat.le_of_ble_eq_true rfl, Nat.le_of_ble_eq_true rfl⟩ ⟨Nat.zero_le _, Nat.zero_le _⟩ hl.1 (st' := fun u7 => [.int u7]) (fun _ => rfl) (fun u7 H locs huu7 Y => ?_)
      replace hM := mS hM huu7
      obtain ⟨J8, hJ8, hM⟩ := mJ hM
      have KJ8 : ∀ (v8 : Int32) (H : Heap) (locs : List Loc) (ls : Array Slot), J8 v8 = MM → rY G A s (wMS G h h_items h_lanes h_sizes h_firms h_kinds h_now h_before h_images h_tape h_trace h_readFirms h_readKinds h_readAt h_rows h_bests u5_status u5_points u5_home u5_men u5_hasTable u5_acts u5_imaged u5_length u5_fault u5_traced u5_spot u5_begins u5_token u5_number u5_readPoints u5_readHome u5_readMen u5_otherOne u5_otherKind u5_items u5_lanes u5_sizes u5_firms u5_kinds u5_now u5_before u5_images u5_tape u5_trace u5_readFirms u5_readKinds u5_readAt u5_rows u5_bests) H locs → lv_has ls 7 [(0, .ref h), (1, .int i1), (2, .int (0 : Int32))] → W p l e q_X8_shots s m args below meth c H locs 0 0 Q (F0 m 60 ls [.int v8]) := by
        intro v8 H locs ls hM Y hl
        replace hM := (hJ8 _).symm.trans hM
        refine r_istore_n (pc' := 61) (L' := [(3, .int v8), (0, .ref h), (1, .int i1), (2, .int (0 : Int32))]) X hl rfl 36 rfl rfl (by decide) rfl (fun ls hl => ?_)
        refine r_iconst (pc' := 62) X (1 : Int32) 37 rfl rfl rfl ?_
        refine r_istore (pc' := 64) (L' := [(4, .int (1 : Int32)), (3, .int v8), (0, .ref h), (1, .int i1), (2, .int (0 : Int32))]) X hl 38 rfl rfl (by decide) rfl (fun ls hl => ?_)
        obtain ⟨LL9, hL9, hne9, hX9⟩ := mL hM hne
        have KX9 : ∀ (b9 : Int32) (H : Heap) (locs : List Loc) (ls : Array Slot), some b9 = LL9 → rY G A s (wMS G h h_items h_lanes h_sizes h_firms h_kinds h_now h_before h_images h_tape h_trace h_readFirms h_readKinds h_readAt h_rows h_bests u5_status u5_points u5_home u5_men u5_hasTable u5_acts u5_imaged u5_length u5_fault u5_traced u5_spot u5_begins u5_token u5_number u5_readPoints u5_readHome u5_readMen u5_otherOne u5_otherKind u5_items u5_lanes u5_sizes u5_firms u5_kinds u5_now u5_before u5_images u5_tape u5_trace u5_readFirms u5_readKinds u5_readAt u5_rows u5_bests) H locs → lv_has ls 7 [(2, .int b9)] → W p l e q_X8_shots s m args below meth c H locs 0 0 Q (F0 m 168 ls []) := by
          intro b9 H locs ls hM Y hl
          replace hM := hX9 _ hM
          refine r_iload_n (pc' := 169) X hl 0 rfl rfl 93 rfl rfl ?_
          exact RT (b9, (u5_status, u5_points, u5_home, u5_men, u5_hasTable, u5_acts, u5_imaged, u5_length, u5_fault, u5_traced, u5_spot, u5_begins, u5_token, u5_number, u5_readPoints, u5_readHome, u5_readMen, u5_otherOne, u5_otherKind, u5_items, u5_lanes, u5_sizes, u5_firms, u5_kinds, u5_now, u5_before, u5_images, u5_tape, u5_trace, u5_readFirms, u5_readKinds, u5_readAt, u5_rows, u5_bests)) _ _ _ _ _ hM (Or.inl ⟨rfl, rfl, _, rfl⟩) (X.d (k := 94) rfl) Y
        refine lp_rule (I := fun (st9 : Int32 × Int32) => ∀ (H : Heap) (locs : List Loc) (ls : Array Slot), rY G A s (wMS G h h_items h_lanes h_sizes h_firms h_kinds h_now h_before h_images h_tape h_trace h_readFirms h_readKinds h_readAt h_rows h_bests u5_status u5_points u5_home u5_men u5_hasTable u5_acts u5_imaged u5_length u5_fault u5_traced u5_spot u5_begins u5_token u5_number u5_readPoints u5_readHome u5_readMen u5_otherOne u5_otherKind u5_items u5_lanes u5_sizes u5_firms u5_kinds u5_now u5_before u5_images u5_tape u5_trace u5_readFirms u5_readKinds u5_readAt u5_rows u5_bests) H locs → lv_has ls 7 [(0, .ref h), (1, .int i1), (2, .int st9.1), (3, .int v8), (4, .int st9.2)] → W p l e q_X8_shots s m args below meth c H locs 0 0 Q (F0 m 64 ls [])) hne9 (fun rec9 st9 IH9 hM => ?_) _ _ hL9 _ _ _ Y (lv_sub hl [2, 3, 4, 1, 0] rfl)
        intro H locs ls Y hl
        obtain ⟨st9_1, st9_2⟩ := st9
        replace Y : rY G A s (wMS G h h_items h_lanes h_sizes h_firms h_kinds h_now h_before h_images h_tape h_trace h_readFirms h_readKinds h_readAt h_rows h_bests u5_status u5_points u5_home u5_men u5_hasTable u5_acts u5_imaged u5_length u5_fault u5_traced u5_spot u5_begins u5_token u5_number u5_readPoints u5_readHome u5_readMen u5_otherOne u5_otherKind u5_items u5_lanes u5_sizes u5_firms u5_kinds u5_now u5_before u5_images u5_tape u5_trace u5_readFirms u5_readKinds u5_readAt u5_rows u5_bests) H locs := Y
        replace hl : lv_has ls 7 [(0, .ref h), (1, .int i1), (2, .int st9_1), (3, .int v8), (4, .int st9_2)] := hl
        refine r_iload (pc' := 66) X hl 4 rfl 39 rfl rfl ?_
        refine r_bipush (pc' := 68) X (7 : Int32) 40 rfl rfl rfl ?_
        refine r_icmp_ge (pc' := 71) X 168 41 rfl rfl (by decide) (fun c10 => ?_) (fun c10 => ?_)
        · replace hM := mI hM c10
          exact KX9 st9_1 _ _ _ hM Y (lv_sub hl [2] rfl)
        · replace hM := mE hM c10
          refine r_iconst (pc' := 72) X (0 : Int32) 42 rfl rfl rfl ?_
          refine r_istore (pc' := 74) (L' := [(5, .int (0 : Int32)), (0, .ref h), (1, .int i1), (2, .int st9_1), (3, .int v8), (4, .int st9_2)]) X hl 43 rfl rfl (by decide) rfl (fun ls hl => ?_)
          obtain ⟨LL11, hL11, hne11, hX11⟩ := mL hM hne9
          have KX11 : ∀ (b11 : Int32) (H : Heap) (locs : List Loc) (ls : Array Slot), some b11 = LL11 → rY G A s (wMS G h h_items h_lanes h_sizes h_firms h_kinds h_now h_before h_images h_tape h_trace h_readFirms h_readKinds h_readAt h_rows h_bests u5_status u5_points u5_home u5_men u5_hasTable u5_acts u5_imaged u5_length u5_fault u5_traced u5_spot u5_begins u5_token u5_number u5_readPoints u5_readHome u5_readMen u5_otherOne u5_otherKind u5_items u5_lanes u5_sizes u5_firms u5_kinds u5_now u5_before u5_images u5_tape u5_trace u5_readFirms u5_readKinds u5_readAt u5_rows u5_bests) H locs → lv_has ls 7 [(0, .ref h), (1, .int i1), (2, .int b11), (3, .int v8), (4, .int st9_2)] → W p l e q_X8_shots s m args below meth c H locs 0 0 Q (F0 m 162 ls []) := by
            intro b11 H locs ls hM Y hl
            replace hM := hX11 _ hM
            refine r_iinc (pc' := 165) (L' := [(4, .int (st9_2 + (1 : Int32))), (0, .ref h), (1, .int i1), (2, .int b11), (3, .int v8)]) X (st9_2 + (1 : Int32)) hl 4 rfl rfl 91 rfl rfl (by decide) rfl (fun ls hl => ?_)
            refine r_goto X 64 92 rfl (by decide) ?_
            exact IH9 _ hM _ _ _ Y (lv_sub hl [1, 2, 3, 4, 0] rfl)
          refine lp_rule (I := fun (st11 : Int32 × Int32) => ∀ (H : Heap) (locs : List Loc) (ls : Array Slot), rY G A s (wMS G h h_items h_lanes h_sizes h_firms h_kinds h_now h_before h_images h_tape h_trace h_readFirms h_readKinds h_readAt h_rows h_bests u5_status u5_points u5_home u5_men u5_hasTable u5_acts u5_imaged u5_length u5_fault u5_traced u5_spot u5_begins u5_token u5_number u5_readPoints u5_readHome u5_readMen u5_otherOne u5_otherKind u5_items u5_lanes u5_sizes u5_firms u5_kinds u5_now u5_before u5_images u5_tape u5_trace u5_readFirms u5_readKinds u5_readAt u5_rows u5_bests) H locs → lv_has ls 7 [(0, .ref h), (1, .int i1), (2, .int st11.1), (3, .int v8), (4, .int st9_2), (5, .int st11.2)] → W p l e q_X8_shots s m args below meth c H locs 0 0 Q (F0 m 74 ls [])) hne11 (fun rec11 st11 IH11 hM => ?_) _ _ hL11 _ _ _ Y (lv_sub hl [1, 2, 3, 4, 5, 0] rfl)
          intro H locs ls Y hl
          obtain ⟨st11_1, st11_2⟩ := st11
          replace Y : rY G A s (wMS G h h_items h_lanes h_sizes h_firms h_kinds h_now h_before h_images h_tape h_trace h_readFirms h_readKinds h_readAt h_rows h_bests u5_status u5_points u5_home u5_men u5_hasTable u5_acts u5_imaged u5_length u5_fault u5_traced u5_spot u5_begins u5_token u5_number u5_readPoints u5_readHome u5_readMen u5_otherOne u5_otherKind u5_items u5_lanes u5_sizes u5_firms u5_kinds u5_now u5_before u5_images u5_tape u5_trace u5_readFirms u5_readKinds u5_readAt u5_rows u5_bests) H locs := Y
          replace hl : lv_has ls 7 [(0, .ref h), (1, .int i1), (2, .int st11_1), (3, .int v8), (4, .int st9_2), (5, .int st11_2)] := hl
          refine r_iload (pc' := 76) X hl 5 rfl 44 rfl rfl ?_
          refine r_aload_n (pc' := 77) X hl 0 rfl rfl 45 rfl rfl ?_
          refine r_get (pc' := 80) (v := .int u5_men) X Y 46 rfl rfl fRX8_159 0 rfl rfl ?_
          refine r_icmp_ge (pc' := 83) X 162 47 rfl rfl (by decide) (fun c12 => ?_) (fun c12 => ?_)
          · replace hM := mI hM c12
            exact KX11 st11_1 _ _ _ hM Y (lv_sub hl [0, 1, 2, 3, 4] rfl)
          · replace hM := mE hM c12
            refine r_iload_n (pc' := 84) X hl 3 rfl rfl 48 rfl rfl ?_
            obtain ⟨J13, hJ13, hM⟩ := mJ hM
            have KJ13 : ∀ (v13 : Int32) (H : Heap) (locs : List Loc) (ls : Array Slot), J13 v13 = LL11 → rY G A s (wMS G h h_items h_lanes h_sizes h_firms h_kinds h_now h_before h_images h_tape h_trace h_readFirms h_readKinds h_readAt h_rows h_bests u5_status u5_points u5_home u5_men u5_hasTable u5_acts u5_imaged u5_length u5_fault u5_traced u5_spot u5_begins u5_token u5_number u5_readPoints u5_readHome u5_readMen u5_otherOne u5_otherKind u5_items u5_lanes u5_sizes u5_firms u5_kinds u5_now u5_before u5_images u5_tape u5_trace u5_readFirms u5_readKinds u5_readAt u5_rows u5_bests) H locs → lv_has ls 7 [(0, .ref h), (1, .int i1), (2, .int st11_1), (3, .int v8), (4, .int st9_2), (5, .int st11_2)] → W p l e q_X8_shots s m args below meth c H locs 0 0 Q (F0 m 138 ls [.int v13]) := by
              intro v13 H locs ls hM Y hl
              replace hM := (hJ13 _).symm.trans hM
              refine r_istore (pc' := 140) (L' := [(6, .int v13), (0, .ref h), (1, .int i1), (2, .int st11_1), (3, .int v8), (4, .int st9_2), (5, .int st11_2)]) X hl 78 rfl rfl (by decide) rfl (fun ls hl => ?_)
              refine r_iload_n (pc' := 141) X hl 3 rfl rfl 79 rfl rfl ?_
              refine r_iload (pc' := 143) X hl 0 rfl 80 rfl rfl ?_
              refine r_if_eq (pc' := 146) X 153 81 rfl rfl (by decide) (fun c14 => ?_) (fun c14 => ?_)
              · replace hM := mI hM c14
                refine r_iconst (pc' := 154) X (0 : Int32) 86 rfl rfl rfl ?_
                refine r_ior (pc' := 155) X 87 rfl rfl ?_
                refine r_istore_n (pc' := 156) (L' := [(2, .int (st11_1 ||| (0 : Int32))), (6, .int v13), (0, .ref h), (1, .int i1), (3, .int v8), (4, .int st9_2), (5, .int st11_2)]) X hl rfl 88 rfl rfl (by decide) rfl (fun ls hl => ?_)
                refine r_iinc (pc' := 159) (L' := [(5, .int (st11_2 + (1 : Int32))), (2, .int (st11_1 ||| (0 : Int32))), (6, .int v13), (0, .ref h), (1, .int i1), (3, .int v8), (4, .int st9_2)]) X (st11_2 + (1 : Int32)) hl 6 rfl rfl 89 rfl rfl (by decide) rfl (fun ls hl => ?_)
                refine r_goto X 74 90 rfl (by decide) ?_
                exact IH11 _ hM _ _ _ Y (lv_sub hl [3, 4, 1, 5, 6, 0] rfl)
              · replace hM := mE hM c14
                refine r_iconst (pc' := 147) X (1 : Int32) 82 rfl rfl rfl ?_
                refine r_iload (pc' := 149) X hl 5 rfl 83 rfl rfl ?_
                refine r_ishl (pc' := 150) X 84 rfl rfl ?_
                refine r_goto X 154 85 rfl (by decide) ?_
                refine r_ior (pc' := 155) X 87 rfl rfl ?_
                refine r_istore_n (pc' := 156) (L' := [(2, .int (st11_1 ||| ((1 : Int32) <<< (st9_2 &&& 31)))), (6, .int v13), (0, .ref h), (1, .int i1), (3, .int v8), (4, .int st9_2), (5, .int st11_2)]) X hl rfl 88 rfl rfl (by decide) rfl (fun ls hl => ?_)
                refine r_iinc (pc' := 159) (L' := [(5, .int (st11_2 + (1 : Int32))), (2, .int (st11_1 ||| ((1 : Int32) <<< (st9_2 &&& 31)))), (6, .int v13), (0, .ref h), (1, .int i1), (3, .int v8), (4, .int st9_2)]) X (st11_2 + (1 : Int32)) hl 6 rfl rfl 89 rfl rfl (by decide) rfl (fun ls hl => ?_)
                refine r_goto X 74 90 rfl (by decide) ?_
                exact IH11 _ hM _ _ _ Y (lv_sub hl [3, 4, 1, 5, 6, 0] rfl)
            obtain ⟨J15, hJ15, hM⟩ := mJ hM
            have KJ15 : ∀  (H : Heap) (locs : List Loc) (ls : Array Slot), J15 () = LL11 → rY G A s (wMS G h h_items h_lanes h_sizes h_firms h_kinds h_now h_before h_images h_tape h_trace h_readFirms h_readKinds h_readAt h_rows h_bests u5_status u5_points u5_home u5_men u5_hasTable u5_acts u5_imaged u5_length u5_fault u5_traced u5_spot u5_begins u5_token u5_number u5_readPoints u5_readHome u5_readMen u5_otherOne u5_otherKind u5_items u5_lanes u5_sizes u5_firms u5_kinds u5_now u5_before u5_images u5_tape u5_trace u5_readFirms u5_readKinds u5_readAt u5_rows u5_bests) H locs → lv_has ls 7 [(0, .ref h), (1, .int i1), (2, .int st11_1), (3, .int v8), (4, .int st9_2), (5, .int st11_2)] → W p l e q_X8_shots s m args below meth c H locs 0 0 Q (F0 m 137 ls []) := by
              intro  H locs ls hM Y hl
              replace hM := (hJ15 _).symm.trans hM
              refine r_iconst (pc' := 138) X (0 : Int32) 77 rfl rfl rfl ?_
              exact KJ13 (0 : Int32) _ _ _ hM Y (lv_sub hl [0, 1, 2, 3, 4, 5] rfl)
            refine r_if_eq (pc' := 87) X 137 49 rfl rfl (by decide) (fun c16 => ?_) (fun c16 => ?_)
            · replace hM := mI hM c16
              exact KJ15  _ _ _ hM Y (lv_sub hl [0, 1, 2, 3, 4, 5] rfl)
            · replace hM := mE hM c16
              refine r_aload_n (pc' := 88) X hl 0 rfl rfl 50 rfl rfl ?_
              refine r_get (pc' := 91) (v := .ref h_firms) X Y 51 rfl rfl fRX8_19 0 rfl rfl ?_
              refine r_iload (pc' := 93) X hl 5 rfl 52 rfl rfl ?_
              obtain ⟨g17, hM⟩ := mG hM hne11
              refine r_iald (pc' := 94) X Y 53 rfl rfl 4 rfl (vin g17) ?_
              refine r_aload_n (pc' := 95) X hl 0 rfl rfl 54 rfl rfl ?_
              refine r_get (pc' := 98) (v := .ref h_firms) X Y 55 rfl rfl fRX8_19 0 rfl rfl ?_
              refine r_iload_n (pc' := 99) X hl 1 rfl rfl 56 rfl rfl ?_
              refine r_iald (pc' := 100) X Y 57 rfl rfl 4 rfl (vin g6) ?_
              refine r_icmp_eq (pc' := 103) X 137 58 rfl rfl (by decide) (fun c18 => ?_) (fun c18 => ?_)
              · replace hM := mI hM c18
                exact KJ15  _ _ _ hM Y (lv_sub hl [0, 1, 2, 3, 4, 5] rfl)
              · replace hM := mE hM c18
                refine r_aload_n (pc' := 104) X hl 0 rfl rfl 59 rfl rfl ?_
                refine r_iconst (pc' := 105) X (0 : Int32) 60 rfl rfl rfl ?_
                refine r_iload (pc' := 107) X hl 5 rfl 61 rfl rfl ?_
                refine r_iload (pc' := 109) X hl 4 rfl 62 rfl rfl ?_
                refine r_callV0 (pc' := 112) (As := [.int (0 : Int32), .int st11_2, .int st9_2]) (rest := []) X Y 63 rfl rfl mRX8_199 (c_X8_can l G h h_items h_lanes h_sizes h_firms h_kinds h_now h_before h_images h_tape h_trace h_readFirms h_readKinds h_readAt h_rows h_bests u5_status u5_points u5_home u5_men u5_hasTable u5_acts u5_imaged u5_length u5_fault u5_traced u5_spot u5_begins u5_token u5_number u5_readPoints u5_readHome u5_readMen u5_otherOne u5_otherKind u5_items u5_lanes u5_sizes u5_firms u5_kinds u5_now u5_before u5_images u5_tape u5_trace u5_readFirms u5_readKinds u5_readAt u5_rows u5_bests (0 : Int32) st11_2 st9_2) (mB hM hne11) 0 rfl rfl [0, 1, 2, 3, 4, 5, 6, 7, 8, 9, 10, 11, 12, 13, 14, 15] rfl rfl rfl (Nat.le_of_ble_eq_true rfl) ⟨rfl, rfl⟩ ⟨Nat.le_of_ble_eq_true rfl, Nat.le_of_ble_eq_true rfl⟩ ⟨Nat.zero_le _, Nat.zero_le _⟩ hl.1 (st' := fun u19 => [.int u19]) (fun _ => rfl) (fun u19 H locs huu19 Y => ?_)
                replace hM := mS hM huu19
                refine r_if_eq (pc' := 115) X 137 64 rfl rfl (by decide) (fun c20 => ?_) (fun c20 => ?_)
                · replace hM := mI hM c20
                  exact KJ15  _ _ _ hM Y (lv_sub hl [0, 1, 2, 3, 4, 5] rfl)
                · replace hM := mE hM c20
                  refine r_aload_n (pc' := 116) X hl 0 rfl rfl 65 rfl rfl ?_
                  refine r_iconst (pc' := 117) X (0 : Int32) 66 rfl rfl rfl ?_
                  refine r_iload (pc' := 119) X hl 5 rfl 67 rfl rfl ?_
                  refine r_iload (pc' := 121) X hl 4 rfl 68 rfl rfl ?_
                  refine r_callV0 (pc' := 124) (As := [.int (0 : Int32), .int st11_2, .int st9_2]) (rest := []) X Y 69 rfl rfl mRX8_191 (c_X8_target l G h h_items h_lanes h_sizes h_firms h_kinds h_now h_before h_images h_tape h_trace h_readFirms h_readKinds h_readAt h_rows h_bests u5_status u5_points u5_home u5_men u5_hasTable u5_acts u5_imaged u5_length u5_fault u5_traced u5_spot u5_begins u5_token u5_number u5_readPoints u5_readHome u5_readMen u5_otherOne u5_otherKind u5_items u5_lanes u5_sizes u5_firms u5_kinds u5_now u5_before u5_images u5_tape u5_trace u5_readFirms u5_readKinds u5_readAt u5_rows u5_bests (0 : Int32) st11_2 st9_2) (mB hM hne11) 0 rfl rfl [0, 1, 2, 3, 4, 5, 6, 7, 8, 9, 10, 11, 12, 13, 14, 15] rfl rfl rfl (Nat.le_of_ble_eq_true rfl) ⟨rfl, rfl⟩ ⟨Nat.le_of_ble_eq_true rfl, Nat.le_of_ble_eq_true rfl⟩ ⟨Nat.zero_le _, Nat.zero_le _⟩ hl.1 (st' := fun u21 => [.int u21]) (fun _ => rfl) (fun u21 H locs huu21 Y => ?_)
                  replace hM := mS hM huu21
                  refine r_aload_n (pc' := 125) X hl 0 rfl rfl 70 rfl rfl ?_
                  refine r_get (pc' := 128) (v := .ref h_now) X Y 71 rfl rfl fRX8_25 0 rfl rfl ?_
                  refine r_iload_n (pc' := 129) X hl 1 rfl rfl 72 rfl rfl ?_
                  refine r_iald (pc' := 130) X Y 73 rfl rfl 6 rfl (vin g3) ?_
                  refine r_icmp_ne (pc' := 133) X 137 74 rfl rfl (by decide) (fun c22 => ?_) (fun c22 => ?_)
                  · replace hM := mE hM c22
                    exact KJ15  _ _ _ hM Y (lv_sub hl [0, 1, 2, 3, 4, 5] rfl)
                  · replace hM := mI hM c22
                    refine r_iconst (pc' := 134) X (1 : Int32) 75 rfl rfl rfl ?_
                    refine r_goto X 138 76 rfl (by decide) ?_
                    exact KJ13 (1 : Int32) _ _ _ hM Y (lv_sub hl [0, 1, 2, 3, 4, 5] rfl)
      refine r_if_ne (pc' := 55) X 59 32 rfl rfl (by decide) (fun c23 => ?_) (fun c23 => ?_)
      · replace hM := mE hM c23
        refine r_iconst (pc' := 60) X (0 : Int32) 35 rfl rfl rfl ?_
        exact KJ8 (0 : Int32) _ _ _ hM Y (lv_sub hl [1, 2, 0] rfl)
      · replace hM := mI hM c23
        refine r_iconst (pc' := 56) X (1 : Int32) 33 rfl rfl rfl ?_
        refine r_goto X 60 34 rfl (by decide) ?_
        exact KJ8 (1 : Int32) _ _ _ hM Y (lv_sub hl [1, 2, 0] rfl)
    · replace hM := mE hM c4
      refine r_ldc (pc' := 26) X mw684 13 rfl rfl ?_
      exact RT ((-1000002 : Int32), (S0_status, S0_points, S0_home, S0_men, S0_hasTable, S0_acts, S0_imaged, S0_length, S0_fault, S0_traced, S0_spot, S0_begins, S0_token, S0_number, S0_readPoints, S0_readHome, S0_readMen, S0_otherOne, S0_otherKind, S0_items, S0_lanes, S0_sizes, S0_firms, S0_kinds, S0_now, S0_before, S0_images, S0_tape, S0_trace, S0_readFirms, S0_readKinds, S0_readAt, S0_rows, S0_bests)) _ _ _ _ _ hM (Or.inl ⟨rfl, rfl, _, rfl⟩) (X.d (k := 14) rfl) Y
  · replace hM := mI hM c2
    refine r_ldc (pc' := 10) X mw542 4 rfl rfl ?_
    exact RT ((-1000001 : Int32), (S0_status, S0_points, S0_home, S0_men, S0_hasTable, S0_acts, S0_imaged, S0_length, S0_fault, S0_traced, S0_spot, S0_begins, S0_token, S0_number, S0_readPoints, S0_readHome, S0_readMen, S0_otherOne, S0_otherKind, S0_items, S0_lanes, S0_sizes, S0_firms, S0_kinds, S0_now, S0_before, S0_images, S0_tape, S0_trace, S0_readFirms, S0_readKinds, S0_readAt, S0_rows, S0_bests)) _ _ _ _ _ hM (Or.inl ⟨rfl, rfl, _, rfl⟩) (X.d (k := 5) rfl) Y

def M_X8_enter (S0 : MS) (i1 : Int32) : Option (Int32 × MS) :=
  (if (ms_hasTable S0) = 0 then (some ((-1000002 : Int32), S0)) else ((M_X8_isFirm i1).bind (fun u2 => (if u2 = 0 then (some ((-1000001 : Int32), S0)) else ((M_X8_aside S0 (0 : Int32)).bind (fun u4 => ((M_X8_manyAt u4 (0 : Int32) i1 (ms_points u4) (-1000000 : Int32)).bind (fun u5 => (if u5 = 0 then (some ((-1000000 : Int32), u4)) else ((lp (σ := Int32 × Int32) (β := Int32) (fun rec7 st7 => (if (7 : Int32) ≤ st7.2 then (some st7.1) else ((lp (σ := Int32 × Int32) (β := Int32) (fun rec9 st9 => (if (ms_men u4) ≤ st9.2 then (some st9.1) else (if inb st9.2 8 = true then (if ((ms_firms u4) (st9.2).toNatClampNeg) = i1 then (if inb st9.2 12 = true then (if ((ms_now u4) (st9.2).toNatClampNeg) = (ms_points u4) then ((M_X8_can u4 (0 : Int32) st9.2 st7.2).bind (fun u15 => (if u15 = 0 then (rec9 ((st9.1 ||| (0 : Int32)), (st9.2 + (1 : Int32)))) else (rec9 ((st9.1 ||| ((1 : Int32) <<< (st7.2 &&& 31))), (st9.2 + (1 : Int32))))))) else (rec9 ((st9.1 ||| (0 : Int32)), (st9.2 + (1 : Int32))))) else none) else (rec9 ((st9.1 ||| (0 : Int32)), (st9.2 + (1 : Int32))))) else none))) 1000000 (st7.1, (0 : Int32))).bind (fun b9 => (rec7 (b9, (st7.2 + (1 : Int32)))))))) 1000000 ((0 : Int32), (1 : Int32))).bind (fun b7 => (some (b7, u4)))))))))))))
def q_X8_enter : Room := { frames := 5, cells := 0, slots := 0, locals := 157 }
set_option maxHeartbeats 4000000 in
set_option maxRecDepth 100000 in
theorem c_X8_enter (l : Launch) (G : gT) (h h_items h_lanes h_sizes h_firms h_kinds h_now h_before h_images h_tape h_trace h_readFirms h_readKinds h_readAt h_rows h_bests : Nat) (S0_status : Int32) (S0_points : Int32) (S0_home : Int32) (S0_men : Int32) (S0_hasTable : Int32) (S0_acts : Int32) (S0_imaged : Int32) (S0_length : Int32) (S0_fault : Int32) (S0_traced : Int32) (S0_spot : Int32) (S0_begins : Int32) (S0_token : Int32) (S0_number : Int32) (S0_readPoints : Int32) (S0_readHome : Int32) (S0_readMen : Int32) (S0_otherOne : Int32) (S0_otherKind : Int32) (S0_items : Nat → Int32) (S0_lanes : Nat → Int32) (S0_sizes : Nat → Int32) (S0_firms : Nat → Int32) (S0_kinds : Nat → Int32) (S0_now : Nat → Int32) (S0_before : Nat → Int32) (S0_images : Nat → Int32) (S0_tape : Nat → Int32) (S0_trace : Nat → Int32) (S0_readFirms : Nat → Int32) (S0_readKinds : Nat → Int32) (S0_readAt : Nat → Int32) (S0_rows : Nat → Int32) (S0_bests : Nat → Int32) (i1 : Int32) : CT l G yX8_enter cX8_enter 5 (some .int) q_X8_enter [.ref h, .int i1] (wMS G h h_items h_lanes h_sizes h_firms h_kinds h_now h_before h_images h_tape h_trace h_readFirms h_readKinds h_readAt h_rows h_bests S0_status S0_points S0_home S0_men S0_hasTable S0_acts S0_imaged S0_length S0_fault S0_traced S0_spot S0_begins S0_token S0_number S0_readPoints S0_readHome S0_readMen S0_otherOne S0_otherKind S0_items S0_lanes S0_sizes S0_firms S0_kinds S0_now S0_before S0_images S0_tape S0_trace S0_readFirms S0_readKinds S0_readAt S0_rows S0_bests) (M_X8_enter (S0_status, S0_points, S0_home, S0_men, S0_hasTable, S0_acts, S0_imaged, S0_length, S0_fault, S0_traced, S0_spot, S0_begins, S0_token, S0_number, S0_readPoints, S0_readHome, S0_readMen, S0_otherOne, S0_otherKind, S0_items, S0_lanes, S0_sizes, S0_firms, S0_kinds, S0_now, S0_before, S0_images, S0_tape, S0_trace, S0_readFirms, S0_readKinds, S0_readAt, S0_rows, S0_bests) i1) (fun u => some (.int u.1)) (fun u => wMS G h h_items h_lanes h_sizes h_firms h_kinds h_now h_before h_images h_tape h_trace h_readFirms h_readKinds h_readAt h_rows h_bests u.2.1 u.2.2.1 u.2.2.2.1 u.2.2.2.2.1 u.2.2.2.2.2.1 u.2.2.2.2.2.2.1 u.2.2.2.2.2.2.2.1 u.2.2.2.2.2.2.2.2.1 u.2.2.2.2.2.2.2.2.2.1 u.2.2.2.2.2.2.2.2.2.2.1 u.2.2.2.2.2.2.2.2.2.2.2.1 u.2.2.2.2.2.2.2.2.2.2.2.2.1 u.2.2.2.2.2.2.2.2.2.2.2.2.2.1 u.2.2.2.2.2.2.2.2.2.2.2.2.2.2.1 u.2.2.2.2.2.2.2.2.2.2.2.2.2.2.2.1 u.2.2.2.2.2.2.2.2.2.2.2.2.2.2.2.2.1 u.2.2.2.2.2.2.2.2.2.2.2.2.2.2.2.2.2.1 u.2.2.2.2.2.2.2.2.2.2.2.2.2.2.2.2.2.2.1 u.2.2.2.2.2.2.2.2.2.2.2.2.2.2.2.2.2.2.2.1 u.2.2.2.2.2.2.2.2.2.2.2.2.2.2.2.2.2.2.2.2.1 u.2.2.2.2.2.2.2.2.2.2.2.2.2.2.2.2.2.2.2.2.2.1 u.2.2.2.2.2.2.2.2.2.2.2.2.2.2.2.2.2.2.2.2.2.2.1 u.2.2.2.2.2.2.2.2.2.2.2.2.2.2.2.2.2.2.2.2.2.2.2.1 u.2.2.2.2.2.2.2.2.2.2.2.2.2.2.2.2.2.2.2.2.2.2.2.2.1 u.2.2.2.2.2.2.2.2.2.2.2.2.2.2.2.2.2.2.2.2.2.2.2.2.2.1 u.2.2.2.2.2.2.2.2.2.2.2.2.2.2.2.2.2.2.2.2.2.2.2.2.2.2.1 u.2.2.2.2.2.2.2.2.2.2.2.2.2.2.2.2.2.2.2.2.2.2.2.2.2.2.2.1 u.2.2.2.2.2.2.2.2.2.2.2.2.2.2.2.2.2.2.2.2.2.2.2.2.2.2.2.2.1 u.2.2.2.2.2.2.2.2.2.2.2.2.2.2.2.2.2.2.2.2.2.2.2.2.2.2.2.2.2.1 u.2.2.2.2.2.2.2.2.2.2.2.2.2.2.2.2.2.2.2.2.2.2.2.2.2.2.2.2.2.2.1 u.2.2.2.2.2.2.2.2.2.2.2.2.2.2.2.2.2.2.2.2.2.2.2.2.2.2.2.2.2.2.2.1 u.2.2.2.2.2.2.2.2.2.2.2.2.2.2.2.2.2.2.2.2.2.2.2.2.2.2.2.2.2.2.2.2.1 u.2.2.2.2.2.2.2.2.2.2.2.2.2.2.2.2.2.2.2.2.2.2.2.2.2.2.2.2.2.2.2.2.2.1 u.2.2.2.2.2.2.2.2.2.2.2.2.2.2.2.2.2.2.2.2.2.2.2.2.2.2.2.2.2.2.2.2.2.2) := by
  refine CT.of (P := PX8_enter) (by decide) dPX8_enter (Nat.le_of_ble_eq_true rfl) ?_
  intro p e s m args below meth c A Q ls hne X RT Y hl
  have hl : lv_has ls 5 [(0, .ref h), (1, .int i1)] := hl
  generalize hM : M_X8_enter (S0_status, S0_points, S0_home, S0_men, S0_hasTable, S0_acts, S0_imaged, S0_length, S0_fault, S0_traced, S0_spot, S0_begins, S0_token, S0_number, S0_readPoints, S0_readHome, S0_readMen, S0_otherOne, S0_otherKind, S0_items, S0_lanes, S0_sizes, S0_firms, S0_kinds, S0_now, S0_before, S0_images, S0_tape, S0_trace, S0_readFirms, S0_readKinds, S0_readAt, S0_rows, S0_bests) i1 = MM at hne RT
  unfold M_X8_enter at hM
  refine r_aload_n (pc' := 1) X hl 0 rfl rfl 0 rfl rfl ?_
  refine r_get (pc' := 4) (v := .int S0_hasTable) X Y 1 rfl rfl fRX8_162 0 rfl rfl ?_
  refine r_if_ne (pc' := 7) X 10 2 rfl rfl (by decide) (fun c1 => ?_) (fun c1 => ?_)
  · replace hM := mE hM c1
    refine r_iload_n (pc' := 11) X hl 1 rfl rfl 5 rfl rfl ?_
    refine r_callS0 (pc' := 14) (As := [.int i1]) (rest := []) X Y 6 rfl rfl mRX8_245 (c_X8_isFirm l G i1) (mB hM hne) rfl [] rfl rfl rfl (Nat.le_of_ble_eq_true rfl) ⟨rfl, rfl⟩ ⟨Nat.le_of_ble_eq_true rfl, Nat.le_of_ble_eq_true rfl⟩ ⟨Nat.zero_le _, Nat.zero_le _⟩ hl.1 (st' := fun u2 => [.int u2]) (fun _ => rfl) (fun u2 H locs huu2 Y => ?_)
    replace hM := mS hM huu2
    refine r_if_ne (pc' := 17) X 20 7 rfl rfl (by decide) (fun c3 => ?_) (fun c3 => ?_)
    · replace hM := mE hM c3
      refine r_aload_n (pc' := 21) X hl 0 rfl rfl 10 rfl rfl ?_
      refine r_iconst (pc' := 22) X (0 : Int32) 11 rfl rfl rfl ?_
      refine r_callV (pc' := 25) (As := [.int (0 : Int32)]) (rest := []) (wr := ([] : va_W)) X Y 12 rfl rfl mRX8_202 (c_X8_aside l G h h_items h_lanes h_sizes h_firms h_kinds h_now h_before h_images h_tape h_trace h_readFirms h_readKinds h_readAt h_rows h_bests S0_status S0_points S0_home S0_men S0_hasTable S0_acts S0_imaged S0_length S0_fault S0_traced S0_spot S0_begins S0_token S0_number S0_readPoints S0_readHome S0_readMen S0_otherOne S0_otherKind S0_items S0_lanes S0_sizes S0_firms S0_kinds S0_now S0_before S0_images S0_tape S0_trace S0_readFirms S0_readKinds S0_readAt S0_rows S0_bests (0 : Int32)) (mB hM hne) 0 rfl rfl [0, 1, 2, 3, 4, 5, 6, 7, 8, 9, 10, 11, 12, 13, 14, 15] [] [0, 1, 2, 3, 4, 5, 6, 7, 8, 9, 10, 11, 12, 13, 14, 15] rfl rfl ⟨rfl, rfl, rfl⟩ rfl (w2 := fun u4 => wMS G h h_items h_lanes h_sizes h_firms h_kinds h_now h_before h_images h_tape h_trace h_readFirms h_readKinds h_readAt h_rows h_bests u4.1 u4.2.1 u4.2.2.1 u4.2.2.2.1 u4.2.2.2.2.1 u4.2.2.2.2.2.1 u4.2.2.2.2.2.2.1 u4.2.2.2.2.2.2.2.1 u4.2.2.2.2.2.2.2.2.1 u4.2.2.2.2.2.2.2.2.2.1 u4.2.2.2.2.2.2.2.2.2.2.1 u4.2.2.2.2.2.2.2.2.2.2.2.1 u4.2.2.2.2.2.2.2.2.2.2.2.2.1 u4.2.2.2.2.2.2.2.2.2.2.2.2.2.1 u4.2.2.2.2.2.2.2.2.2.2.2.2.2.2.1 u4.2.2.2.2.2.2.2.2.2.2.2.2.2.2.2.1 u4.2.2.2.2.2.2.2.2.2.2.2.2.2.2.2.2.1 u4.2.2.2.2.2.2.2.2.2.2.2.2.2.2.2.2.2.1 u4.2.2.2.2.2.2.2.2.2.2.2.2.2.2.2.2.2.2.1 u4.2.2.2.2.2.2.2.2.2.2.2.2.2.2.2.2.2.2.2.1 u4.2.2.2.2.2.2.2.2.2.2.2.2.2.2.2.2.2.2.2.2.1 u4.2.2.2.2.2.2.2.2.2.2.2.2.2.2.2.2.2.2.2.2.2.1 u4.2.2.2.2.2.2.2.2.2.2.2.2.2.2.2.2.2.2.2.2.2.2.1 u4.2.2.2.2.2.2.2.2.2.2.2.2.2.2.2.2.2.2.2.2.2.2.2.1 u4.2.2.2.2.2.2.2.2.2.2.2.2.2.2.2.2.2.2.2.2.2.2.2.2.1 u4.2.2.2.2.2.2.2.2.2.2.2.2.2.2.2.2.2.2.2.2.2.2.2.2.2.1 u4.2.2.2.2.2.2.2.2.2.2.2.2.2.2.2.2.2.2.2.2.2.2.2.2.2.2.1 u4.2.2.2.2.2.2.2.2.2.2.2.2.2.2.2.2.2.2.2.2.2.2.2.2.2.2.2.1 u4.2.2.2.2.2.2.2.2.2.2.2.2.2.2.2.2.2.2.2.2.2.2.2.2.2.2.2.2.1 u4.2.2.2.2.2.2.2.2.2.2.2.2.2.2.2.2.2.2.2.2.2.2.2.2.2.2.2.2.2.1 u4.2.2.2.2.2.2.2.2.2.2.2.2.2.2.2.2.2.2.2.2.2.2.2.2.2.2.2.2.2.2.1 u4.2.2.2.2.2.2.2.2.2.2.2.2.2.2.2.2.2.2.2.2.2.2.2.2.2.2.2.2.2.2.2.1 u4.2.2.2.2.2.2.2.2.2.2.2.2.2.2.2.2.2.2.2.2.2.2.2.2.2.2.2.2.2.2.2.2.1 u4.2.2.2.2.2.2.2.2.2.2.2.2.2.2.2.2.2.2.2.2.2.2.2.2.2.2.2.2.2.2.2.2.2) (fun _ => rfl) rfl (Nat.le_of_ble_eq_true rfl) ⟨rfl, rfl⟩ ⟨Nat.le_of_ble_eq_true rfl, Nat.le_of_ble_eq_true rfl⟩ ⟨Nat.zero_le _, Nat.zero_le _⟩ hl.1 (st' := fun u4 => []) (fun _ => rfl) (fun u4 H locs huu4 Y => ?_)
      obtain ⟨u4_status, u4_points, u4_home, u4_men, u4_hasTable, u4_acts, u4_imaged, u4_length, u4_fault, u4_traced, u4_spot, u4_begins, u4_token, u4_number, u4_readPoints, u4_readHome, u4_readMen, u4_otherOne, u4_otherKind, u4_items, u4_lanes, u4_sizes, u4_firms, u4_kinds, u4_now, u4_before, u4_images, u4_tape, u4_trace, u4_readFirms, u4_readKinds, u4_readAt, u4_rows, u4_bests⟩ := u4
      replace Y : rY G A s (wMS G h h_items h_lanes h_sizes h_firms h_kinds h_now h_before h_images h_tape h_trace h_readFirms h_readKinds h_readAt h_rows h_bests u4_status u4_points u4_home u4_men u4_hasTable u4_acts u4_imaged u4_length u4_fault u4_traced u4_spot u4_begins u4_token u4_number u4_readPoints u4_readHome u4_readMen u4_otherOne u4_otherKind u4_items u4_lanes u4_sizes u4_firms u4_kinds u4_now u4_before u4_images u4_tape u4_trace u4_readFirms u4_readKinds u4_readAt u4_rows u4_bests) H locs := Y
      replace hM := mS hM huu4
      show W p l e q_X8_enter s m args below meth c H locs 0 0 Q (F0 m 25 ls [])
      refine r_aload_n (pc' := 26) X hl 0 rfl rfl 13 rfl rfl ?_
      refine r_iconst (pc' := 27) X (0 : Int32) 14 rfl rfl rfl ?_
      refine r_iload_n (pc' := 28) X hl 1 rfl rfl 15 rfl rfl ?_
      refine r_aload_n (pc' := 29) X hl 0 rfl rfl 16 rfl rfl ?_
      refine r_get (pc' := 32) (v := .int u4_points) X Y 17 rfl rfl fRX8_153 0 rfl rfl ?_
      refine r_ldc (pc' := 34) X mw526 18 rfl rfl ?_
      refine r_callV0 (pc' := 37) (As := [.int (0 : Int32), .int i1, .int u4_points, .int (-1000000 : Int32)]) (rest := []) X Y 19 rfl rfl mRX8_187 (c_X8_manyAt l G h h_items h_lanes h_sizes h_firms h_kinds h_now h_before h_images h_tape h_trace h_readFirms h_readKinds h_readAt h_rows h_bests u4_status u4_points u4_home u4_men u4_hasTable u4_acts u4_imaged u4_length u4_fault u4_traced u4_spot u4_begins u4_token u4_number u4_readPoints u4_readHome u4_readMen u4_otherOne u4_otherKind u4_items u4_lanes u4_sizes u4_firms u4_kinds u4_now u4_before u4_images u4_tape u4_trace u4_readFirms u4_readKinds u4_readAt u4_rows u4_bests (0 : Int32) i1 u4_points (-1000000 : Int32)) (mB hM hne) 0 rfl rfl [0, 1, 2, 3, 4, 5, 6, 7, 8, 9, 10, 11, 12, 13, 14, 15] rfl rfl rfl (Nat.le_of_ble_eq_true rfl) ⟨rfl, rfl⟩ ⟨Nat.le_of_ble_eq_true rfl, Nat.le_of_ble_eq_true rfl⟩ ⟨Nat.zero_le _, Nat.zero_le _⟩ hl.1 (st' := fun u5 => [.int u5]) (fun _ => rfl) (fun u5 H locs huu5 Y => ?_)
      replace hM := mS hM huu5
      refine r_if_ne (pc' := 40) X 43 20 rfl rfl (by decide) (fun c6 => ?_) (fun c6 => ?_)
      · replace hM := mE hM c6
        refine r_iconst (pc' := 44) X (0 : Int32) 23 rfl rfl rfl ?_
        refine r_istore_n (pc' := 45) (L' := [(2, .int (0 : Int32)), (0, .ref h), (1, .int i1)]) X hl rfl 24 rfl rfl (by decide) rfl (fun ls hl => ?_)
        refine r_iconst (pc' := 46) X (1 : Int32) 25 rfl rfl rfl ?_
        refine r_istore_n (pc' := 47) (L' := [(3, .int (1 : Int32)), (2, .int (0 : Int32)), (0, .ref h), (1, .int i1)]) X hl rfl 26 rfl rfl (by decide) rfl (fun ls hl => ?_)
        obtain ⟨LL7, hL7, hne7, hX7⟩ := mL hM hne
        have KX7 : ∀ (b7 : Int32) (H : Heap) (locs : List Loc) (ls : Array Slot), some b7 = LL7 → rY G A s (wMS G h h_items h_lanes h_sizes h_firms h_kinds h_now h_before h_images h_tape h_trace h_readFirms h_readKinds h_readAt h_rows h_bests u4_status u4_points u4_home u4_men u4_hasTable u4_acts u4_imaged u4_length u4_fault u4_traced u4_spot u4_begins u4_token u4_number u4_readPoints u4_readHome u4_readMen u4_otherOne u4_otherKind u4_items u4_lanes u4_sizes u4_firms u4_kinds u4_now u4_before u4_images u4_tape u4_trace u4_readFirms u4_readKinds u4_readAt u4_rows u4_bests) H locs → lv_has ls 5 [(2, .int b7)] → W p l e q_X8_enter s m args below meth c H locs 0 0 Q (F0 m 123 ls []) := by
          intro b7 H locs ls hM Y hl
          replace hM := hX7 _ hM
          refine r_iload_n (pc' := 124) X hl 0 rfl rfl 67 rfl rfl ?_
          exact RT (b7, (u4_status, u4_points, u4_home, u4_men, u4_hasTable, u4_acts, u4_imaged, u4_length, u4_fault, u4_traced, u4_spot, u4_begins, u4_token, u4_number, u4_readPoints, u4_readHome, u4_readMen, u4_otherOne, u4_otherKind, u4_items, u4_lanes, u4_sizes, u4_firms, u4_kinds, u4_now, u4_before, u4_images, u4_tape, u4_trace, u4_readFirms, u4_readKinds, u4_readAt, u4_rows, u4_bests)) _ _ _ _ _ hM (Or.inl ⟨rfl, rfl, _, rfl⟩) (X.d (k := 68) rfl) Y
        refine lp_rule (I := fun (st7 : Int32 × Int32) => ∀ (H : Heap) (locs : List Loc) (ls : Array Slot), rY G A s (wMS G h h_items h_lanes h_sizes h_firms h_kinds h_now h_before h_images h_tape h_trace h_readFirms h_readKinds h_readAt h_rows h_bests u4_status u4_points u4_home u4_men u4_hasTable u4_acts u4_imaged u4_length u4_fault u4_traced u4_spot u4_begins u4_token u4_number u4_readPoints u4_readHome u4_readMen u4_otherOne u4_otherKind u4_items u4_lanes u4_sizes u4_firms u4_kinds u4_now u4_before u4_images u4_tape u4_trace u4_readFirms u4_readKinds u4_readAt u4_rows u4_bests) H locs → lv_has ls 5 [(0, .ref h), (1, .int i1), (2, .int st7.1), (3, .int st7.2)] → W p l e q_X8_enter s m args below meth c H locs 0 0 Q (F0 m 47 ls [])) hne7 (fun rec7 st7 IH7 hM => ?_) _ _ hL7 _ _ _ Y (lv_sub hl [2, 3, 1, 0] rfl)
        intro H locs ls Y hl
        obtain ⟨st7_1, st7_2⟩ := st7
        replace Y : rY G A s (wMS G h h_items h_lanes h_sizes h_firms h_kinds h_now h_before h_images h_tape h_trace h_readFirms h_readKinds h_readAt h_rows h_bests u4_status u4_points u4_home u4_men u4_hasTable u4_acts u4_imaged u4_length u4_fault u4_traced u4_spot u4_begins u4_token u4_number u4_readPoints u4_readHome u4_readMen u4_otherOne u4_otherKind u4_items u4_lanes u4_sizes u4_firms u4_kinds u4_now u4_before u4_images u4_tape u4_trace u4_readFirms u4_readKinds u4_readAt u4_rows u4_bests) H locs := Y
        replace hl : lv_has ls 5 [(0, .ref h), (1, .int i1), (2, .int st7_1), (3, .int st7_2)] := hl
        refine r_iload_n (pc' := 48) X hl 3 rfl rfl 27 rfl rfl ?_
        refine r_bipush (pc' := 50) X (7 : Int32) 28 rfl rfl rfl ?_
        refine r_icmp_ge (pc' := 53) X 123 29 rfl rfl (by decide) (fun c8 => ?_) (fun c8 => ?_)
        · replace hM := mI hM c8
          exact KX7 st7_1 _ _ _ hM Y (lv_sub hl [2] rfl)
        · replace hM := mE hM c8
          refine r_iconst (pc' := 54) X (0 : Int32) 30 rfl rfl rfl ?_
          refine r_istore (pc' := 56) (L' := [(4, .int (0 : Int32)), (0, .ref h), (1, .int i1), (2, .int st7_1), (3, .int st7_2)]) X hl 31 rfl rfl (by decide) rfl (fun ls hl => ?_)
          obtain ⟨LL9, hL9, hne9, hX9⟩ := mL hM hne7
          have KX9 : ∀ (b9 : Int32) (H : Heap) (locs : List Loc) (ls : Array Slot), some b9 = LL9 → rY G A s (wMS G h h_items h_lanes h_sizes h_firms h_kinds h_now h_before h_images h_tape h_trace h_readFirms h_readKinds h_readAt h_rows h_bests u4_status u4_points u4_home u4_men u4_hasTable u4_acts u4_imaged u4_length u4_fault u4_traced u4_spot u4_begins u4_token u4_number u4_readPoints u4_readHome u4_readMen u4_otherOne u4_otherKind u4_items u4_lanes u4_sizes u4_firms u4_kinds u4_now u4_before u4_images u4_tape u4_trace u4_readFirms u4_readKinds u4_readAt u4_rows u4_bests) H locs → lv_has ls 5 [(0, .ref h), (1, .int i1), (2, .int b9), (3, .int st7_2)] → W p l e q_X8_enter s m args below meth c H locs 0 0 Q (F0 m 117 ls []) := by
            intro b9 H locs ls hM Y hl
            replace hM := hX9 _ hM
            refine r_iinc (pc' := 120) (L' := [(3, .int (st7_2 + (1 : Int32))), (0, .ref h), (1, .int i1), (2, .int b9)]) X (st7_2 + (1 : Int32)) hl 3 rfl rfl 65 rfl rfl (by decide) rfl (fun ls hl => ?_)
            refine r_goto X 47 66 rfl (by decide) ?_
            exact IH7 _ hM _ _ _ Y (lv_sub hl [1, 2, 3, 0] rfl)
          refine lp_rule (I := fun (st9 : Int32 × Int32) => ∀ (H : Heap) (locs : List Loc) (ls : Array Slot), rY G A s (wMS G h h_items h_lanes h_sizes h_firms h_kinds h_now h_before h_images h_tape h_trace h_readFirms h_readKinds h_readAt h_rows h_bests u4_status u4_points u4_home u4_men u4_hasTable u4_acts u4_imaged u4_length u4_fault u4_traced u4_spot u4_begins u4_token u4_number u4_readPoints u4_readHome u4_readMen u4_otherOne u4_otherKind u4_items u4_lanes u4_sizes u4_firms u4_kinds u4_now u4_before u4_images u4_tape u4_trace u4_readFirms u4_readKinds u4_readAt u4_rows u4_bests) H locs → lv_has ls 5 [(0, .ref h), (1, .int i1), (2, .int st9.1), (3, .int st7_2), (4, .int st9.2)] → W p l e q_X8_enter s m args below meth c H locs 0 0 Q (F0 m 56 ls [])) hne9 (fun rec9 st9 IH9 hM => ?_) _ _ hL9 _ _ _ Y (lv_sub hl [1, 2, 3, 4, 0] rfl)
          intro H locs ls Y hl
          obtain ⟨st9_1, st9_2⟩ := st9
          replace Y : rY G A s (wMS G h h_items h_lanes h_sizes h_firms h_kinds h_now h_before h_images h_tape h_trace h_readFirms h_readKinds h_readAt h_rows h_bests u4_status u4_points u4_home u4_men u4_hasTable u4_acts u4_imaged u4_length u4_fault u4_traced u4_spot u4_begins u4_token u4_number u4_readPoints u4_readHome u4_readMen u4_otherOne u4_otherKind u4_items u4_lanes u4_sizes u4_firms u4_kinds u4_now u4_before u4_images u4_tape u4_trace u4_readFirms u4_readKinds u4_readAt u4_rows u4_bests) H locs := Y
          replace hl : lv_has ls 5 [(0, .ref h), (1, .int i1), (2, .int st9_1), (3, .int st7_2), (4, .int st9_2)] := hl
          refine r_iload (pc' := 58) X hl 4 rfl 32 rfl rfl ?_
          refine r_aload_n (pc' := 59) X hl 0 rfl rfl 33 rfl rfl ?_
          refine r_get (pc' := 62) (v := .int u4_men) X Y 34 rfl rfl fRX8_159 0 rfl rfl ?_
          refine r_icmp_ge (pc' := 65) X 117 35 rfl rfl (by decide) (fun c10 => ?_) (fun c10 => ?_)
          · replace hM := mI hM c10
            exact KX9 st9_1 _ _ _ hM Y (lv_sub hl [0, 1, 2, 3] rfl)
          · replace hM := mE hM c10
            refine r_iload_n (pc' := 66) X hl 2 rfl rfl 36 rfl rfl ?_
            refine r_aload_n (pc' := 67) X hl 0 rfl rfl 37 rfl rfl ?_
            refine r_get (pc' := 70) (v := .ref h_firms) X Y 38 rfl rfl fRX8_19 0 rfl rfl ?_
            refine r_iload (pc' := 72) X hl 4 rfl 39 rfl rfl ?_
            obtain ⟨g11, hM⟩ := mG hM hne9
            refine r_iald (pc' := 73) X Y 40 rfl rfl 4 rfl (vin g11) ?_
            refine r_iload_n (pc' := 74) X hl 1 rfl rfl 41 rfl rfl ?_
            refine r_icmp_ne (pc' := 77) X 108 42 rfl rfl (by decide) (fun c12 => ?_) (fun c12 => ?_)
            · replace hM := mE hM c12
              refine r_iconst (pc' := 109) X (0 : Int32) 60 rfl rfl rfl ?_
              refine r_ior (pc' := 110) X 61 rfl rfl ?_
              refine r_istore_n (pc' := 111) (L' := [(2, .int (st9_1 ||| (0 : Int32))), (0, .ref h), (1, .int i1), (3, .int st7_2), (4, .int st9_2)]) X hl rfl 62 rfl rfl (by decide) rfl (fun ls hl => ?_)
              refine r_iinc (pc' := 114) (L' := [(4, .int (st9_2 + (1 : Int32))), (2, .int (st9_1 ||| (0 : Int32))), (0, .ref h), (1, .int i1), (3, .int st7_2)]) X (st9_2 + (1 : Int32)) hl 4 rfl rfl 63 rfl rfl (by decide) rfl (fun ls hl => ?_)
              refine r_goto X 56 64 rfl (by decide) ?_
              exact IH9 _ hM _ _ _ Y (lv_sub hl [2, 3, 1, 4, 0] rfl)
            · replace hM := mI hM c12
              refine r_aload_n (pc' := 78) X hl 0 rfl rfl 43 rfl rfl ?_
              refine r_get (pc' := 81) (v := .ref h_now) X Y 44 rfl rfl fRX8_25 0 rfl rfl ?_
              refine r_iload (pc' := 83) X hl 4 rfl 45 rfl rfl ?_
              obtain ⟨g13, hM⟩ := mG hM hne9
              refine r_iald (pc' := 84) X Y 46 rfl rfl 6 rfl (vin g13) ?_
              refine r_aload_n (pc' := 85) X hl 0 rfl rfl 47 rfl rfl ?_
              refine r_get (pc' := 88) (v := .int u4_points) X Y 48 rfl rfl fRX8_153 0 rfl rfl ?_
              refine r_icmp_ne (pc' := 91) X 108 49 rfl rfl (by decide) (fun c14 => ?_) (fun c14 => ?_)
              · replace hM := mE hM c14
                refine r_iconst (pc' := 109) X (0 : Int32) 60 rfl rfl rfl ?_
                refine r_ior (pc' := 110) X 61 rfl rfl ?_
                refine r_istore_n (pc' := 111) (L' := [(2, .int (st9_1 ||| (0 : Int32))), (0, .ref h), (1, .int i1), (3, .int st7_2), (4, .int st9_2)]) X hl rfl 62 rfl rfl (by decide) rfl (fun ls hl => ?_)
                refine r_iinc (pc' := 114) (L' := [(4, .int (st9_2 + (1 : Int32))), (2, .int (st9_1 ||| (0 : Int32))), (0, .ref h), (1, .int i1), (3, .int st7_2)]) X (st9_2 + (1 : Int32)) hl 4 rfl rfl 63 rfl rfl (by decide) rfl (fun ls hl => ?_)
                refine r_goto X 56 64 rfl (by decide) ?_
                exact IH9 _ hM _ _ _ Y (lv_sub hl [2, 3, 1, 4, 0] rfl)
              · replace hM := mI hM c14
                refine r_aload_n (pc' := 92) X hl 0 rfl rfl 50 rfl rfl ?_
                refine r_iconst (pc' := 93) X (0 : Int32) 51 rfl rfl rfl ?_
                refine r_iload (pc' := 95) X hl 4 rfl 52 rfl rfl ?_
                refine r_iload_n (pc' := 96) X hl 3 rfl rfl 53 rfl rfl ?_
                refine r_callV0 (pc' := 99) (As := [.int (0 : Int32), .int st9_2, .int st7_2]) (rest := [.int st9_1]) X Y 54 rfl rfl mRX8_199 (c_X8_can l G h h_items h_lanes h_sizes h_firms h_kinds h_now h_before h_images h_tape h_trace h_readFirms h_readKinds h_readAt h_rows h_bests u4_status u4_points u4_home u4_men u4_hasTable u4_acts u4_imaged u4_length u4_fault u4_traced u4_spot u4_begins u4_token u4_number u4_readPoints u4_readHome u4_readMen u4_otherOne u4_otherKind u4_items u4_lanes u4_sizes u4_firms u4_kinds u4_now u4_before u4_images u4_tape u4_trace u4_readFirms u4_readKinds u4_readAt u4_rows u4_bests (0 : Int32) st9_2 st7_2) (mB hM hne9) 0 rfl rfl [0, 1, 2, 3, 4, 5, 6, 7, 8, 9, 10, 11, 12, 13, 14, 15] rfl rfl rfl (Nat.le_of_ble_eq_true rfl) ⟨rfl, rfl⟩ ⟨Nat.le_of_ble_eq_true rfl, Nat.le_of_ble_eq_true rfl⟩ ⟨Nat.zero_le _, Nat.zero_le _⟩ hl.1 (st' := fun u15 => [.int u15, .int st9_1]) (fun _ => rfl) (fun u15 H locs huu15 Y => ?_)
                replace hM := mS hM huu15
                refine r_if_eq (pc' := 102) X 108 55 rfl rfl (by decide) (fun c16 => ?_) (fun c16 => ?_)
                · replace hM := mI hM c16
                  refine r_iconst (pc' := 109) X (0 : Int32) 60 rfl rfl rfl ?_
                  refine r_ior (pc' := 110) X 61 rfl rfl ?_
                  refine r_istore_n (pc' := 111) (L' := [(2, .int (st9_1 ||| (0 : Int32))), (0, .ref h), (1, .int i1), (3, .int st7_2), (4, .int st9_2)]) X hl rfl 62 rfl rfl (by decide) rfl (fun ls hl => ?_)
                  refine r_iinc (pc' := 114) (L' := [(4, .int (st9_2 + (1 : Int32))), (2, .int (st9_1 ||| (0 : Int32))), (0, .ref h), (1, .int i1), (3, .int st7_2)]) X (st9_2 + (1 : Int32)) hl 4 rfl rfl 63 rfl rfl (by decide) rfl (fun ls hl => ?_)
                  refine r_goto X 56 64 rfl (by decide) ?_
                  exact IH9 _ hM _ _ _ Y (lv_sub hl [2, 3, 1, 4, 0] rfl)
                · replace hM := mE hM c16
                  refine r_iconst (pc' := 103) X (1 : Int32) 56 rfl rfl rfl ?_
                  refine r_iload_n (pc' := 104) X hl 3 rfl rfl 57 rfl rfl ?_
                  refine r_ishl (pc' := 105) X 58 rfl rfl ?_
                  refine r_goto X 109 59 rfl (by decide) ?_
                  refine r_ior (pc' := 110) X 61 rfl rfl ?_
                  refine r_istore_n (pc' := 111) (L' := [(2, .int (st9_1 ||| ((1 : Int32) <<< (st7_2 &&& 31)))), (0, .ref h), (1, .int i1), (3, .int st7_2), (4, .int st9_2)]) X hl rfl 62 rfl rfl (by decide) rfl (fun ls hl => ?_)
                  refine r_iinc (pc' := 114) (L' := [(4, .int (st9_2 + (1 : Int32))), (2, .int (st9_1 ||| ((1 : Int32) <<< (st7_2 &&& 31)))), (0, .ref h), (1, .int i1), (3, .int st7_2)]) X (st9_2 + (1 : Int32)) hl 4 rfl rfl 63 rfl rfl (by decide) rfl (fun ls hl => ?_)
                  refine r_goto X 56 64 rfl (by decide) ?_
                  exact IH9 _ hM _ _ _ Y (lv_sub hl [2, 3, 1, 4, 0] rfl)
      · replace hM := mI hM c6
        refine r_ldc (pc' := 42) X mw526 21 rfl rfl ?_
        exact RT ((-1000000 : Int32), (u4_status, u4_points, u4_home, u4_men, u4_hasTable, u4_acts, u4_imaged, u4_length, u4_fault, u4_traced, u4_spot, u4_begins, u4_token, u4_number, u4_readPoints, u4_readHome, u4_readMen, u4_otherOne, u4_otherKind, u4_items, u4_lanes, u4_sizes, u4_firms, u4_kinds, u4_now, u4_before, u4_images, u4_tape, u4_trace, u4_readFirms, u4_readKinds, u4_readAt, u4_rows, u4_bests)) _ _ _ _ _ hM (Or.inl ⟨rfl, rfl, _, rfl⟩) (X.d (k := 22) rfl) Y
    · replace hM := mI hM c3
      refine r_ldc (pc' := 19) X mw542 8 rfl rfl ?_
      exact RT ((-1000001 : Int32), (S0_status, S0_points, S0_home, S0_men, S0_hasTable, S0_acts, S0_imaged, S0_length, S0_fault, S0_traced, S0_spot, S0_begins, S0_token, S0_number, S0_readPoints, S0_readHome, S0_readMen, S0_otherOne, S0_otherKind, S0_items, S0_lanes, S0_sizes, S0_firms, S0_kinds, S0_now, S0_before, S0_images, S0_tape, S0_trace, S0_readFirms, S0_readKinds, S0_readAt, S0_rows, S0_bests)) _ _ _ _ _ hM (Or.inl ⟨rfl, rfl, _, rfl⟩) (X.d (k := 9) rfl) Y
  · replace hM := mI hM c1
    refine r_ldc (pc' := 9) X mw684 3 rfl rfl ?_
    exact RT ((-1000002 : Int32), (S0_status, S0_points, S0_home, S0_men, S0_hasTable, S0_acts, S0_imaged, S0_length, S0_fault, S0_traced, S0_spot, S0_begins, S0_token, S0_number, S0_readPoints, S0_readHome, S0_readMen, S0_otherOne, S0_otherKind, S0_items, S0_lanes, S0_sizes, S0_firms, S0_kinds, S0_now, S0_before, S0_images, S0_tape, S0_trace, S0_readFirms, S0_readKinds, S0_readAt, S0_rows, S0_bests)) _ _ _ _ _ hM (Or.inl ⟨rfl, rfl, _, rfl⟩) (X.d (k := 4) rfl) Y

def M_X8_pips (S0 : MS) (i1 : Int32) (i2 : Int32) : Option (Int32 × MS) :=
  (if (ms_hasTable S0) = 0 then (some ((-1000002 : Int32), S0)) else ((M_X8_isFirm i1).bind (fun u2 => (if u2 = 0 then (some ((-1000001 : Int32), S0)) else ((M_X8_in ((i2).toInt64) (0 : Int64) (1 : Int64)).bind (fun u4 => (if u4 = 0 then (some ((-1000001 : Int32), S0)) else ((M_X8_aside S0 (0 : Int32)).bind (fun u6 => (if i2 = 0 then ((M_X8_pipsOfAll u6 (0 : Int32) i1).bind (fun u9 => (some (u9, u6)))) else ((M_X8_lead u6 (0 : Int32) i1).bind (fun u8 => (some (u8, u6))))))))))))))
def q_X8_pips : Room := { frames := 5, cells := 0, slots := 0, locals := 150 }
set_option maxHeartbeats 4000000 in
set_option maxRecDepth 100000 in
theorem c_X8_pips (l : Launch) (G : gT) (h h_items h_lanes h_sizes h_firms h_kinds h_now h_before h_images h_tape h_trace h_readFirms h_readKinds h_readAt h_rows h_bests : Nat) (S0_status : Int32) (S0_points : Int32) (S0_home : Int32) (S0_men : Int32) (S0_hasTable : Int32) (S0_acts : Int32) (S0_imaged : Int32) (S0_length : Int32) (S0_fault : Int32) (S0_traced : Int32) (S0_spot : Int32) (S0_begins : Int32) (S0_token : Int32) (S0_number : Int32) (S0_readPoints : Int32) (S0_readHome : Int32) (S0_readMen : Int32) (S0_otherOne : Int32) (S0_otherKind : Int32) (S0_items : Nat → Int32) (S0_lanes : Nat → Int32) (S0_sizes : Nat → Int32) (S0_firms : Nat → Int32) (S0_kinds : Nat → Int32) (S0_now : Nat → Int32) (S0_before : Nat → Int32) (S0_images : Nat → Int32) (S0_tape : Nat → Int32) (S0_trace : Nat → Int32) (S0_readFirms : Nat → Int32) (S0_readKinds : Nat → Int32) (S0_readAt : Nat → Int32) (S0_rows : Nat → Int32) (S0_bests : Nat → Int32) (i1 : Int32) (i2 : Int32) : CT l G yX8_pips cX8_pips 3 (some .int) q_X8_pips [.ref h, .int i1, .int i2] (wMS G h h_items h_lanes h_sizes h_firms h_kinds h_now h_before h_images h_tape h_trace h_readFirms h_readKinds h_readAt h_rows h_bests S0_status S0_points S0_home S0_men S0_hasTable S0_acts S0_imaged S0_length S0_fault S0_traced S0_spot S0_begins S0_token S0_number S0_readPoints S0_readHome S0_readMen S0_otherOne S0_otherKind S0_items S0_lanes S0_sizes S0_firms S0_kinds S0_now S0_before S0_images S0_tape S0_trace S0_readFirms S0_readKinds S0_readAt S0_rows S0_bests) (M_X8_pips (S0_status, S0_points, S0_home, S0_men, S0_hasTable, S0_acts, S0_imaged, S0_length, S0_fault, S0_traced, S0_spot, S0_begins, S0_token, S0_number, S0_readPoints, S0_readHome, S0_readMen, S0_otherOne, S0_otherKind, S0_items, S0_lanes, S0_sizes, S0_firms, S0_kinds, S0_now, S0_before, S0_images, S0_tape, S0_trace, S0_readFirms, S0_readKinds, S0_readAt, S0_rows, S0_bests) i1 i2) (fun u => some (.int u.1)) (fun u => wMS G h h_items h_lanes h_sizes h_firms h_kinds h_now h_before h_images h_tape h_trace h_readFirms h_readKinds h_readAt h_rows h_bests u.2.1 u.2.2.1 u.2.2.2.1 u.2.2.2.2.1 u.2.2.2.2.2.1 u.2.2.2.2.2.2.1 u.2.2.2.2.2.2.2.1 u.2.2.2.2.2.2.2.2.1 u.2.2.2.2.2.2.2.2.2.1 u.2.2.2.2.2.2.2.2.2.2.1 u.2.2.2.2.2.2.2.2.2.2.2.1 u.2.2.2.2.2.2.2.2.2.2.2.2.1 u.2.2.2.2.2.2.2.2.2.2.2.2.2.1 u.2.2.2.2.2.2.2.2.2.2.2.2.2.2.1 u.2.2.2.2.2.2.2.2.2.2.2.2.2.2.2.1 u.2.2.2.2.2.2.2.2.2.2.2.2.2.2.2.2.1 u.2.2.2.2.2.2.2.2.2.2.2.2.2.2.2.2.2.1 u.2.2.2.2.2.2.2.2.2.2.2.2.2.2.2.2.2.2.1 u.2.2.2.2.2.2.2.2.2.2.2.2.2.2.2.2.2.2.2.1 u.2.2.2.2.2.2.2.2.2.2.2.2.2.2.2.2.2.2.2.2.1 u.2.2.2.2.2.2.2.2.2.2.2.2.2.2.2.2.2.2.2.2.2.1 u.2.2.2.2.2.2.2.2.2.2.2.2.2.2.2.2.2.2.2.2.2.2.1 u.2.2.2.2.2.2.2.2.2.2.2.2.2.2.2.2.2.2.2.2.2.2.2.1 u.2.2.2.2.2.2.2.2.2.2.2.2.2.2.2.2.2.2.2.2.2.2.2.2.1 u.2.2.2.2.2.2.2.2.2.2.2.2.2.2.2.2.2.2.2.2.2.2.2.2.2.1 u.2.2.2.2.2.2.2.2.2.2.2.2.2.2.2.2.2.2.2.2.2.2.2.2.2.2.1 u.2.2.2.2.2.2.2.2.2.2.2.2.2.2.2.2.2.2.2.2.2.2.2.2.2.2.2.1 u.2.2.2.2.2.2.2.2.2.2.2.2.2.2.2.2.2.2.2.2.2.2.2.2.2.2.2.2.1 u.2.2.2.2.2.2.2.2.2.2.2.2.2.2.2.2.2.2.2.2.2.2.2.2.2.2.2.2.2.1 u.2.2.2.2.2.2.2.2.2.2.2.2.2.2.2.2.2.2.2.2.2.2.2.2.2.2.2.2.2.2.1 u.2.2.2.2.2.2.2.2.2.2.2.2.2.2.2.2.2.2.2.2.2.2.2.2.2.2.2.2.2.2.2.1 u.2.2.2.2.2.2.2.2.2.2.2.2.2.2.2.2.2.2.2.2.2.2.2.2.2.2.2.2.2.2.2.2.1 u.2.2.2.2.2.2.2.2.2.2.2.2.2.2.2.2.2.2.2.2.2.2.2.2.2.2.2.2.2.2.2.2.2.1 u.2.2.2.2.2.2.2.2.2.2.2.2.2.2.2.2.2.2.2.2.2.2.2.2.2.2.2.2.2.2.2.2.2.2) := by
  refine CT.of (P := PX8_pips) (by decide) dPX8_pips (Nat.le_of_ble_eq_true rfl) ?_
  intro p e s m args below meth c A Q ls hne X RT Y hl
  have hl : lv_has ls 3 [(0, .ref h), (1, .int i1), (2, .int i2)] := hl
  generalize hM : M_X8_pips (S0_status, S0_points, S0_home, S0_men, S0_hasTable, S0_acts, S0_imaged, S0_length, S0_fault, S0_traced, S0_spot, S0_begins, S0_token, S0_number, S0_readPoints, S0_readHome, S0_readMen, S0_otherOne, S0_otherKind, S0_items, S0_lanes, S0_sizes, S0_firms, S0_kinds, S0_now, S0_before, S0_images, S0_tape, S0_trace, S0_readFirms, S0_readKinds, S0_readAt, S0_rows, S0_bests) i1 i2 = MM at hne RT
  unfold M_X8_pips at hM
  refine r_aload_n (pc' := 1) X hl 0 rfl rfl 0 rfl rfl ?_
  refine r_get (pc' := 4) (v := .int S0_hasTable) X Y 1 rfl rfl fRX8_162 0 rfl rfl ?_
  refine r_if_ne (pc' := 7) X 10 2 rfl rfl (by decide) (fun c1 => ?_) (fun c1 => ?_)
  · replace hM := mE hM c1
    refine r_iload_n (pc' := 11) X hl 1 rfl rfl 5 rfl rfl ?_
    refine r_callS0 (pc' := 14) (As := [.int i1]) (rest := []) X Y 6 rfl rfl mRX8_245 (c_X8_isFirm l G i1) (mB hM hne) rfl [] rfl rfl rfl (Nat.le_of_ble_eq_true rfl) ⟨rfl, rfl⟩ ⟨Nat.le_of_ble_eq_true rfl, Nat.le_of_ble_eq_true rfl⟩ ⟨Nat.zero_le _, Nat.zero_le _⟩ hl.1 (st' := fun u2 => [.int u2]) (fun _ => rfl) (fun u2 H locs huu2 Y => ?_)
    replace hM := mS hM huu2
    refine r_if_eq (pc' := 17) X 27 7 rfl rfl (by decide) (fun c3 => ?_) (fun c3 => ?_)
    · replace hM := mI hM c3
      refine r_ldc (pc' := 29) X mw542 14 rfl rfl ?_
      exact RT ((-1000001 : Int32), (S0_status, S0_points, S0_home, S0_men, S0_hasTable, S0_acts, S0_imaged, S0_length, S0_fault, S0_traced, S0_spot, S0_begins, S0_token, S0_number, S0_readPoints, S0_readHome, S0_readMen, S0_otherOne, S0_otherKind, S0_items, S0_lanes, S0_sizes, S0_firms, S0_kinds, S0_now, S0_before, S0_images, S0_tape, S0_trace, S0_readFirms, S0_readKinds, S0_readAt, S0_rows, S0_bests)) _ _ _ _ _ hM (Or.inl ⟨rfl, rfl, _, rfl⟩) (X.d (k := 15) rfl) Y
    · replace hM := mE hM c3
      refine r_iload_n (pc' := 18) X hl 2 rfl rfl 8 rfl rfl ?_
      refine r_i2l (pc' := 19) X 9 rfl rfl ?_
      refine r_lconst (pc' := 20) X (0 : Int64) 10 rfl rfl rfl ?_
      refine r_lconst (pc' := 21) X (1 : Int64) 11 rfl rfl rfl ?_
      refine r_callS0 (pc' := 24) (As := [.long (i2).toInt64, .long (0 : Int64), .long (1 : Int64)]) (rest := []) X Y 12 rfl rfl mRX8_66 (c_X8_in l G ((i2).toInt64) (0 : Int64) (1 : Int64)) (mB hM hne) rfl [] rfl rfl rfl (Nat.le_of_ble_eq_true rfl) ⟨rfl, rfl⟩ ⟨Nat.le_of_ble_eq_true rfl, Nat.le_of_ble_eq_true rfl⟩ ⟨Nat.zero_le _, Nat.zero_le _⟩ hl.1 (st' := fun u4 => [.int u4]) (fun _ => rfl) (fun u4 H locs huu4 Y => ?_)
      replace hM := mS hM huu4
      refine r_if_ne (pc' := 27) X 30 13 rfl rfl (by decide) (fun c5 => ?_) (fun c5 => ?_)
      · replace hM := mE hM c5
        refine r_aload_n (pc' := 31) X hl 0 rfl rfl 16 rfl rfl ?_
        refine r_iconst (pc' := 32) X (0 : Int32) 17 rfl rfl rfl ?_
        refine r_callV (pc' := 35) (As := [.int (0 : Int32)]) (rest := []) (wr := ([] : va_W)) X Y 18 rfl rfl mRX8_202 (c_X8_aside l G h h_items h_lanes h_sizes h_firms h_kinds h_now h_before h_images h_tape h_trace h_readFirms h_readKinds h_readAt h_rows h_bests S0_status S0_points S0_home S0_men S0_hasTable S0_acts S0_imaged S0_length S0_fault S0_traced S0_spot S0_begins S0_token S0_number S0_readPoints S0_readHome S0_readMen S0_otherOne S0_otherKind S0_items S0_lanes S0_sizes S0_firms S0_kinds S0_now S0_before S0_images S0_tape S0_trace S0_readFirms S0_readKinds S0_readAt S0_rows S0_bests (0 : Int32)) (mB hM hne) 0 rfl rfl [0, 1, 2, 3, 4, 5, 6, 7, 8, 9, 10, 11, 12, 13, 14, 15] [] [0, 1, 2, 3, 4, 5, 6, 7, 8, 9, 10, 11, 12, 13, 14, 15] rfl rfl ⟨rfl, rfl, rfl⟩ rfl (w2 := fun u6 => wMS G h h_items h_lanes h_sizes h_firms h_kinds h_now h_before h_images h_tape h_trace h_readFirms h_readKinds h_readAt h_rows h_bests u6.1 u6.2.1 u6.2.2.1 u6.2.2.2.1 u6.2.2.2.2.1 u6.2.2.2.2.2.1 u6.2.2.2.2.2.2.1 u6.2.2.2.2.2.2.2.1 u6.2.2.2.2.2.2.2.2.1 u6.2.2.2.2.2.2.2.2.2.1 u6.2.2.2.2.2.2.2.2.2.2.1 u6.2.2.2.2.2.2.2.2.2.2.2.1 u6.2.2.2.2.2.2.2.2.2.2.2.2.1 u6.2.2.2.2.2.2.2.2.2.2.2.2.2.1 u6.2.2.2.2.2.2.2.2.2.2.2.2.2.2.1 u6.2.2.2.2.2.2.2.2.2.2.2.2.2.2.2.1 u6.2.2.2.2.2.2.2.2.2.2.2.2.2.2.2.2.1 u6.2.2.2.2.2.2.2.2.2.2.2.2.2.2.2.2.2.1 u6.2.2.2.2.2.2.2.2.2.2.2.2.2.2.2.2.2.2.1 u6.2.2.2.2.2.2.2.2.2.2.2.2.2.2.2.2.2.2.2.1 u6.2.2.2.2.2.2.2.2.2.2.2.2.2.2.2.2.2.2.2.2.1 u6.2.2.2.2.2.2.2.2.2.2.2.2.2.2.2.2.2.2.2.2.2.1 u6.2.2.2.2.2.2.2.2.2.2.2.2.2.2.2.2.2.2.2.2.2.2.1 u6.2.2.2.2.2.2.2.2.2.2.2.2.2.2.2.2.2.2.2.2.2.2.2.1 u6.2.2.2.2.2.2.2.2.2.2.2.2.2.2.2.2.2.2.2.2.2.2.2.2.1 u6.2.2.2.2.2.2.2.2.2.2.2.2.2.2.2.2.2.2.2.2.2.2.2.2.2.1 u6.2.2.2.2.2.2.2.2.2.2.2.2.2.2.2.2.2.2.2.2.2.2.2.2.2.2.1 u6.2.2.2.2.2.2.2.2.2.2.2.2.2.2.2.2.2.2.2.2.2.2.2.2.2.2.2.1 u6.2.2.2.2.2.2.2.2.2.2.2.2.2.2.2.2.2.2.2.2.2.2.2.2.2.2.2.2.1 u6.2.2.2.2.2.2.2.2.2.2.2.2.2.2.2.2.2.2.2.2.2.2.2.2.2.2.2.2.2.1 u6.2.2.2.2.2.2.2.2.2.2.2.2.2.2.2.2.2.2.2.2.2.2.2.2.2.2.2.2.2.2.1 u6.2.2.2.2.2.2.2.2.2.2.2.2.2.2.2.2.2.2.2.2.2.2.2.2.2.2.2.2.2.2.2.1 u6.2.2.2.2.2.2.2.2.2.2.2.2.2.2.2.2.2.2.2.2.2.2.2.2.2.2.2.2.2.2.2.2.1 u6.2.2.2.2.2.2.2.2.2.2.2.2.2.2.2.2.2.2.2.2.2.2.2.2.2.2.2.2.2.2.2.2.2) (fun _ => rfl) rfl (Nat.le_of_ble_eq_true rfl) ⟨rfl, rfl⟩ ⟨Nat.le_of_ble_eq_true rfl, Nat.le_of_ble_eq_true rfl⟩ ⟨Nat.zero_le _, Nat.zero_le _⟩ hl.1 (st' := fun u6 => []) (fun _ => rfl) (fun u6 H locs huu6 Y => ?_)
        obtain ⟨u6_status, u6_points, u6_home, u6_men, u6_hasTable, u6_acts, u6_imaged, u6_length, u6_fault, u6_traced, u6_spot, u6_begins, u6_token, u6_number, u6_readPoints, u6_readHome, u6_readMen, u6_otherOne, u6_otherKind, u6_items, u6_lanes, u6_sizes, u6_firms, u6_kinds, u6_now, u6_before, u6_images, u6_tape, u6_trace, u6_readFirms, u6_readKinds, u6_readAt, u6_rows, u6_bests⟩ := u6
        replace Y : rY G A s (wMS G h h_items h_lanes h_sizes h_firms h_kinds h_now h_before h_images h_tape h_trace h_readFirms h_readKinds h_readAt h_rows h_bests u6_status u6_points u6_home u6_men u6_hasTable u6_acts u6_imaged u6_length u6_fault u6_traced u6_spot u6_begins u6_token u6_number u6_readPoints u6_readHome u6_readMen u6_otherOne u6_otherKind u6_items u6_lanes u6_sizes u6_firms u6_kinds u6_now u6_before u6_images u6_tape u6_trace u6_readFirms u6_readKinds u6_readAt u6_rows u6_bests) H locs := Y
        replace hM := mS hM huu6
        show W p l e q_X8_pips s m args below meth c H locs 0 0 Q (F0 m 35 ls [])
        refine r_iload_n (pc' := 36) X hl 2 rfl rfl 19 rfl rfl ?_
        refine r_if_ne (pc' := 39) X 48 20 rfl rfl (by decide) (fun c7 => ?_) (fun c7 => ?_)
        · replace hM := mE hM c7
          refine r_aload_n (pc' := 49) X hl 0 rfl rfl 26 rfl rfl ?_
          refine r_iconst (pc' := 50) X (0 : Int32) 27 rfl rfl rfl ?_
          refine r_iload_n (pc' := 51) X hl 1 rfl rfl 28 rfl rfl ?_
          refine r_callV0 (pc' := 54) (As := [.int (0 : Int32), .int i1]) (rest := []) X Y 29 rfl rfl mRX8_248 (c_X8_lead l G h h_items h_lanes h_sizes h_firms h_kinds h_now h_before h_images h_tape h_trace h_readFirms h_readKinds h_readAt h_rows h_bests u6_status u6_points u6_home u6_men u6_hasTable u6_acts u6_imaged u6_length u6_fault u6_traced u6_spot u6_begins u6_token u6_number u6_readPoints u6_readHome u6_readMen u6_otherOne u6_otherKind u6_items u6_lanes u6_sizes u6_firms u6_kinds u6_now u6_before u6_images u6_tape u6_trace u6_readFirms u6_readKinds u6_readAt u6_rows u6_bests (0 : Int32) i1) (mB hM hne) 0 rfl rfl [0, 1, 2, 3, 4, 5, 6, 7, 8, 9, 10, 11, 12, 13, 14, 15] rfl rfl rfl (Nat.le_of_ble_eq_true rfl) ⟨rfl, rfl⟩ ⟨Nat.le_of_ble_eq_true rfl, Nat.le_of_ble_eq_true rfl⟩ ⟨Nat.zero_le _, Nat.zero_le _⟩ hl.1 (st' := fun u8 => [.int u8]) (fun _ => rfl) (fun u8 H locs huu8 Y => ?_)
          replace hM := mS hM huu8
          exact RT (u8, (u6_status, u6_points, u6_home, u6_men, u6_hasTable, u6_acts, u6_imaged, u6_length, u6_fault, u6_traced, u6_spot, u6_begins, u6_token, u6_number, u6_readPoints, u6_readHome, u6_readMen, u6_otherOne, u6_otherKind, u6_items, u6_lanes, u6_sizes, u6_firms, u6_kinds, u6_now, u6_before, u6_images, u6_tape, u6_trace, u6_readFirms, u6_readKinds, u6_readAt, u6_rows, u6_bests)) _ _ _ _ _ hM (Or.inl ⟨rfl, rfl, _, rfl⟩) (X.d (k := 30) rfl) Y
        · replace hM := mI hM c7
          refine r_aload_n (pc' := 40) X hl 0 rfl rfl 21 rfl rfl ?_
          refine r_iconst (pc' := 41) X (0 : Int32) 22 rfl rfl rfl ?_
          refine r_iload_n (pc' := 42) X hl 1 rfl rfl 23 rfl rfl ?_
          refine r_callV0 (pc' := 45) (As := [.int (0 : Int32), .int i1]) (rest := []) X Y 24 rfl rfl mRX8_219 (c_X8_pipsOfAll l G h h_items h_lanes h_sizes h_firms h_kinds h_now h_before h_images h_tape h_trace h_readFirms h_readKinds h_readAt h_rows h_bests u6_status u6_points u6_home u6_men u6_hasTable u6_acts u6_imaged u6_length u6_fault u6_traced u6_spot u6_begins u6_token u6_number u6_readPoints u6_readHome u6_readMen u6_otherOne u6_otherKind u6_items u6_lanes u6_sizes u6_firms u6_kinds u6_now u6_before u6_images u6_tape u6_trace u6_readFirms u6_readKinds u6_readAt u6_rows u6_bests (0 : Int32) i1) (mB hM hne) 0 rfl rfl [0, 1, 2, 3, 4, 5, 6, 7, 8, 9, 10, 11, 12, 13, 14, 15] rfl rfl rfl (Nat.le_of_ble_eq_true rfl) ⟨rfl, rfl⟩ ⟨Nat.le_of_ble_eq_true rfl, Nat.le_of_ble_eq_true rfl⟩ ⟨Nat.zero_le _, Nat.zero_le _⟩ hl.1 (st' := fun u9 => [.int u9]) (fun _ => rfl) (fun u9 H locs huu9 Y => ?_)
          replace hM := mS hM huu9
          refine r_goto X 54 25 rfl (by decide) ?_
          exact RT (u9, (u6_status, u6_points, u6_home, u6_men, u6_hasTable, u6_acts, u6_imaged, u6_length, u6_fault, u6_traced, u6_spot, u6_begins, u6_token, u6_number, u6_readPoints, u6_readHome, u6_readMen, u6_otherOne, u6_otherKind, u6_items, u6_lanes, u6_sizes, u6_firms, u6_kinds, u6_now, u6_before, u6_images, u6_tape, u6_trace, u6_readFirms, u6_readKinds, u6_readAt, u6_rows, u6_bests)) _ _ _ _ _ hM (Or.inl ⟨rfl, rfl, _, rfl⟩) (X.d (k := 30) rfl) Y
      · replace hM := mI hM c5
        refine r_ldc (pc' := 29) X mw542 14 rfl rfl ?_
        exact RT ((-1000001 : Int32), (S0_status, S0_points, S0_home, S0_men, S0_hasTable, S0_acts, S0_imaged, S0_length, S0_fault, S0_traced, S0_spot, S0_begins, S0_token, S0_number, S0_readPoints, S0_readHome, S0_readMen, S0_otherOne, S0_otherKind, S0_items, S0_lanes, S0_sizes, S0_firms, S0_kinds, S0_now, S0_before, S0_images, S0_tape, S0_trace, S0_readFirms, S0_readKinds, S0_readAt, S0_rows, S0_bests)) _ _ _ _ _ hM (Or.inl ⟨rfl, rfl, _, rfl⟩) (X.d (k := 15) rfl) Y
  · replace hM := mI hM c1
    refine r_ldc (pc' := 9) X mw684 3 rfl rfl ?_
    exact RT ((-1000002 : Int32), (S0_status, S0_points, S0_home, S0_men, S0_hasTable, S0_acts, S0_imaged, S0_length, S0_fault, S0_traced, S0_spot, S0_begins, S0_token, S0_number, S0_readPoints, S0_readHome, S0_readMen, S0_otherOne, S0_otherKind, S0_items, S0_lanes, S0_sizes, S0_firms, S0_kinds, S0_now, S0_before, S0_images, S0_tape, S0_trace, S0_readFirms, S0_readKinds, S0_readAt, S0_rows, S0_bests)) _ _ _ _ _ hM (Or.inl ⟨rfl, rfl, _, rfl⟩) (X.d (k := 4) rfl) Y
