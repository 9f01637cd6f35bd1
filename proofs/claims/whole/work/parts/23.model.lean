def M_X8_kinds (S0 : MS) (i1 : Int32) (i2 : Int32) (i3 : Int32) (i4 : Int32) : Option (Int32 × MS) :=
  ((M_X8_isMan S0 i1).bind (fun u1 => (if u1 = 0 then (some ((-1000001 : Int32), S0)) else ((M_X8_isThrow i2).bind (fun u3 => (if u3 = 0 then (some ((-1000001 : Int32), S0)) else ((M_X8_isRow i3).bind (fun u5 => (if u5 = 0 then (some ((-1000001 : Int32), S0)) else ((M_X8_wonNow S0).bind (fun u7 => (if u7.1 = (-1000000 : Int32) then ((M_X8_lacks u7.2 i3 i4).bind (fun u9 => (if u9 = 0 then ((lp (σ := Int32 × MS) (β := Int32 × MS) (fun rec11 st11 => (if (6 : Int32) ≤ (ms_otherKind st11.2) then (some (st11.1, st11.2)) else ((M_X8_aside st11.2 (0 : Int32)).bind (fun u14 => ((M_X8_goRuled u14 (0 : Int32) i2).bind (fun u15 => ((M_X8_isAs u15.2 (0 : Int32) i3 i4).bind (fun u16 => (jn (σ := Int32) (fun v17 => (rec11 ((st11.1 ||| v17), ((ms_status u15.2), (ms_points u15.2), (ms_home u15.2), (ms_men u15.2), (ms_hasTable u15.2), (ms_acts u15.2), (ms_imaged u15.2), (ms_length u15.2), (ms_fault u15.2), (ms_traced u15.2), (ms_spot u15.2), (ms_begins u15.2), (ms_token u15.2), (ms_number u15.2), (ms_readPoints u15.2), (ms_readHome u15.2), (ms_readMen u15.2), (ms_otherOne u15.2), ((ms_otherKind u15.2) + (1 : Int32)), (ms_items u15.2), (ms_lanes u15.2), (ms_sizes u15.2), (ms_firms u15.2), (ms_kinds u15.2), (ms_now u15.2), (ms_before u15.2), (ms_images u15.2), (ms_tape u15.2), (ms_trace u15.2), (ms_readFirms u15.2), (ms_readKinds u15.2), (ms_readAt u15.2), (ms_rows u15.2), (ms_bests u15.2))))) (fun J17 => (if u16 = 0 then (J17 (0 : Int32)) else (J17 ((1 : Int32) <<< ((ms_otherKind u15.2) &&& 31)))))))))))))) 1000000 ((0 : Int32), ((ms_status u7.2), (ms_points u7.2), (ms_home u7.2), (ms_men u7.2), (ms_hasTable u7.2), (ms_acts u7.2), (ms_imaged u7.2), (ms_length u7.2), (ms_fault u7.2), (ms_traced u7.2), (ms_spot u7.2), (ms_begins u7.2), (ms_token u7.2), (ms_number u7.2), (ms_readPoints u7.2), (ms_readHome u7.2), (ms_readMen u7.2), i1, (1 : Int32), (ms_items u7.2), (ms_lanes u7.2), (ms_sizes u7.2), (ms_firms u7.2), (ms_kinds u7.2), (ms_now u7.2), (ms_before u7.2), (ms_images u7.2), (ms_tape u7.2), (ms_trace u7.2), (ms_readFirms u7.2), (ms_readKinds u7.2), (ms_readAt u7.2), (ms_rows u7.2), (ms_bests u7.2)))).bind (fun b11 => ((M_X8_well (((ms_status b11.2), (ms_points b11.2), (ms_home b11.2), (ms_men b11.2), (ms_hasTable b11.2), (ms_acts b11.2), (ms_imaged b11.2), (ms_length b11.2), (ms_fault b11.2), (ms_traced b11.2), (ms_spot b11.2), (ms_begins b11.2), (ms_token b11.2), (ms_number b11.2), (ms_readPoints b11.2), (ms_readHome b11.2), (ms_readMen b11.2), (-1000000 : Int32), (ms_otherKind b11.2), (ms_items b11.2), (ms_lanes b11.2), (ms_sizes b11.2), (ms_firms b11.2), (ms_kinds b11.2), (ms_now b11.2), (ms_before b11.2), (ms_images b11.2), (ms_tape b11.2), (ms_trace b11.2), (ms_readFirms b11.2), (ms_readKinds b11.2), (ms_readAt b11.2), (ms_rows b11.2), (ms_bests b11.2))) b11.1).bind (fun u12 => (some (u12.1, u12.2)))))) else ((M_X8_lacks u7.2 i3 i4).bind (fun u19 => ((M_X8_found u7.2 u19).bind (fun u20 => (some (u20.1, u20.2))))))))) else (some ((-1000002 : Int32), u7.2))))))))))))))
def q_X8_kinds : Room := { frames := 7, cells := 0, slots := 0, locals := 206 }
set_option maxHeartbeats 4000000 in
set_option maxRecDepth 100000 in
theorem c_X8_kinds (l : Launch) (G : gT) (h h_items h_lanes h_sizes h_firms h_kinds h_now h_before h_images h_tape h_trace h_readFirms h_readKinds h_readAt h_rows h_bests : Nat) (S0 : MS) (i1 : Int32) (i2 : Int32) (i3 : Int32) (i4 : Int32) : CT l G yX8_kinds cX8_kinds 6 (some .int) q_X8_kinds [.ref h, .int i1, .int i2, .int i3, .int i4] (wMS G h h_items h_lanes h_sizes h_firms h_kinds h_now h_before h_images h_tape h_trace h_readFirms h_readKinds h_readAt h_rows h_bests S0) (M_X8_kinds S0 i1 i2 i3 i4) (fun u => some (.int u.1)) (fun u => wMS G h h_items h_lanes h_sizes h_firms h_kinds h_now h_before h_images h_tape h_trace h_readFirms h_readKinds h_readAt h_rows h_bests u.2) := by
  refine CT.of (P := PX8_kinds) (by decide) dPX8_kinds (Nat.le_of_ble_eq_true rfl) ?_
  intro p e s m args below meth c A Q ls hne X RT Y hl
  have hl : lv_has ls 6 [(0, .ref h), (1, .int i1), (2, .int i2), (3, .int i3), (4, .int i4)] := hl
  generalize hM : M_X8_kinds S0 i1 i2 i3 i4 = MM at hne RT
  unfold M_X8_kinds at hM
  refine r_aload_n (pc' := 1) X hl 0 rfl rfl 0 rfl rfl ?_
  refine r_iload_n (pc' := 2) X hl 1 rfl rfl 1 rfl rfl ?_
  refine r_callV0 (pc' := 5) (As := [.int i1]) (rest := []) X Y 2 rfl rfl mRX8_240 (c_X8_isMan l G h h_items h_lanes h_sizes h_firms h_kinds h_now h_before h_images h_tape h_trace h_readFirms h_readKinds h_readAt h_rows h_bests S0 i1) (mB hM hne) 0 rfl rfl [0, 1, 2, 3, 4, 5, 6, 7, 8, 9, 10, 11, 12, 13, 14, 15] rfl rfl rfl (Nat.le_of_ble_eq_true rfl) ⟨rfl, rfl⟩ ⟨Nat.le_of_ble_eq_true rfl, Nat.le_of_ble_eq_true rfl⟩ ⟨Nat.zero_le _, Nat.zero_le _⟩ hl.1 (st' := fun u1 => [.int u1]) (fun _ => rfl) (fun u1 H locs huu1 Y => ?_)
  replace hM := mS hM huu1
  refine r_if_eq (pc' := 8) X 22 3 rfl rfl (by decide) (fun c2 => ?_) (fun c2 => ?_)
  · replace hM := mI hM c2
    refine r_ldc (pc' := 24) X mw546 10 rfl rfl ?_
    exact RT ((-1000001 : Int32), S0) _ _ _ _ _ hM (Or.inl ⟨rfl, rfl, _, rfl⟩) (X.d (k := 11) rfl) Y
  · replace hM := mE hM c2
    refine r_iload_n (pc' := 9) X hl 2 rfl rfl 4 rfl rfl ?_
    refine r_callS0 (pc' := 12) (As := [.int i2]) (rest := []) X Y 5 rfl rfl mRX8_225 (c_X8_isThrow l G i2) (mB hM hne) rfl [] rfl rfl rfl (Nat.le_of_ble_eq_true rfl) ⟨rfl, rfl⟩ ⟨Nat.le_of_ble_eq_true rfl, Nat.le_of_ble_eq_true rfl⟩ ⟨Nat.zero_le _, Nat.zero_le _⟩ hl.1 (st' := fun u3 => [.int u3]) (fun _ => rfl) (fun u3 H locs huu3 Y => ?_)
    replace hM := mS hM huu3
    refine r_if_eq (pc' := 15) X 22 6 rfl rfl (by decide) (fun c4 => ?_) (fun c4 => ?_)
    · replace hM := mI hM c4
      refine r_ldc (pc' := 24) X mw546 10 rfl rfl ?_
      exact RT ((-1000001 : Int32), S0) _ _ _ _ _ hM (Or.inl ⟨rfl, rfl, _, rfl⟩) (X.d (k := 11) rfl) Y
    · replace hM := mE hM c4
      refine r_iload_n (pc' := 16) X hl 3 rfl rfl 7 rfl rfl ?_
      refine r_callS0 (pc' := 19) (As := [.int i3]) (rest := []) X Y 8 rfl rfl mRX8_70 (c_X8_isRow l G i3) (mB hM hne) rfl [] rfl rfl rfl (Nat.le_of_ble_eq_true rfl) ⟨rfl, rfl⟩ ⟨Nat.le_of_ble_eq_true rfl, Nat.le_of_ble_eq_true rfl⟩ ⟨Nat.zero_le _, Nat.zero_le _⟩ hl.1 (st' := fun u5 => [.int u5]) (fun _ => rfl) (fun u5 H locs huu5 Y => ?_)
      replace hM := mS hM huu5
      refine r_if_ne (pc' := 22) X 25 9 rfl rfl (by decide) (fun c6 => ?_) (fun c6 => ?_)
      · replace hM := mE hM c6
        refine r_aload_n (pc' := 26) X hl 0 rfl rfl 12 rfl rfl ?_
        refine r_callV (pc' := 29) (As := []) (rest := []) X Y 13 rfl rfl mRX8_228 (c_X8_wonNow l G h h_items h_lanes h_sizes h_firms h_kinds h_now h_before h_images h_tape h_trace h_readFirms h_readKinds h_readAt h_rows h_bests S0) (mB hM hne) 0 rfl rfl [0, 1, 2, 3, 4, 5, 6, 7, 8, 9, 10, 11, 12, 13, 14, 15] [] [0, 1, 2, 3, 4, 5, 6, 7, 8, 9, 10, 11, 12, 13, 14, 15] rfl rfl ⟨rfl, rfl, rfl⟩ rfl (w2 := fun u7 => wMS G h h_items h_lanes h_sizes h_firms h_kinds h_now h_before h_images h_tape h_trace h_readFirms h_readKinds h_readAt h_rows h_bests u7.2) (fun _ => rfl) rfl (Nat.le_of_ble_eq_true rfl) ⟨rfl, rfl⟩ ⟨Nat.le_of_ble_eq_true rfl, Nat.le_of_ble_eq_true rfl⟩ ⟨Nat.zero_le _, Nat.zero_le _⟩ hl.1 (st' := fun u7 => [.int u7.1]) (fun _ => rfl) (fun u7 H locs huu7 Y => ?_)
        replace hM := mS hM huu7
        refine r_ldc (pc' := 31) X mw530 14 rfl rfl ?_
        refine r_icmp_eq (pc' := 34) X 37 15 rfl rfl (by decide) (fun c8 => ?_) (fun c8 => ?_)
        · replace hM := mI hM c8
          refine r_aload_n (pc' := 38) X hl 0 rfl rfl 18 rfl rfl ?_
          refine r_iload_n (pc' := 39) X hl 3 rfl rfl 19 rfl rfl ?_
          refine r_iload (pc' := 41) X hl 4 rfl 20 rfl rfl ?_
          refine r_callV0 (pc' := 44) (As := [.int i3, .int i4]) (rest := []) X Y 21 rfl rfl mRX8_281 (c_X8_lacks l G h h_items h_lanes h_sizes h_firms h_kinds h_now h_before h_images h_tape h_trace h_readFirms h_readKinds h_readAt h_rows h_bests u7.2 i3 i4) (mB hM hne) 0 rfl rfl [0, 1, 2, 3, 4, 5, 6, 7, 8, 9, 10, 11, 12, 13, 14, 15] rfl rfl rfl (Nat.le_of_ble_eq_true rfl) ⟨rfl, rfl⟩ ⟨Nat.le_of_ble_eq_true rfl, Nat.le_of_ble_eq_true rfl⟩ ⟨Nat.zero_le _, Nat.zero_le _⟩ hl.1 (st' := fun u9 => [.int u9]) (fun _ => rfl) (fun u9 H locs huu9 Y => ?_)
          replace hM := mS hM huu9
          refine r_if_eq (pc' := 47) X 59 22 rfl rfl (by decide) (fun c10 => ?_) (fun c10 => ?_)
          · replace hM := mI hM c10
            refine r_iconst (pc' := 60) X (0 : Int32) 30 rfl rfl rfl ?_
            refine r_istore (pc' := 62) (L' := [(5, .int (0 : Int32)), (0, .ref h), (1, .int i1), (2, .int i2), (3, .int i3), (4, .int i4)]) X hl 31 rfl rfl (by decide) rfl (fun ls hl => ?_)
            refine r_aload_n (pc' := 63) X hl 1 rfl rfl 32 rfl rfl ?_
            refine r_iload_n (pc' := 64) X hl 2 rfl rfl 33 rfl rfl ?_
            refine r_put (pc' := 67) (ws' := wMS G h h_items h_lanes h_sizes h_firms h_kinds h_now h_before h_images h_tape h_trace h_readFirms h_readKinds h_readAt h_rows h_bests ((ms_status u7.2), (ms_points u7.2), (ms_home u7.2), (ms_men u7.2), (ms_hasTable u7.2), (ms_acts u7.2), (ms_imaged u7.2), (ms_length u7.2), (ms_fault u7.2), (ms_traced u7.2), (ms_spot u7.2), (ms_begins u7.2), (ms_token u7.2), (ms_number u7.2), (ms_readPoints u7.2), (ms_readHome u7.2), (ms_readMen u7.2), i1, (ms_otherKind u7.2), (ms_items u7.2), (ms_lanes u7.2), (ms_sizes u7.2), (ms_firms u7.2), (ms_kinds u7.2), (ms_now u7.2), (ms_before u7.2), (ms_images u7.2), (ms_tape u7.2), (ms_trace u7.2), (ms_readFirms u7.2), (ms_readKinds u7.2), (ms_readAt u7.2), (ms_rows u7.2), (ms_bests u7.2))) X Y 34 rfl rfl fRX8_53 0 rfl rfl rfl (Nat.le_of_ble_eq_true rfl) rfl (fun H locs Y => ?_)
            refine r_aload_n (pc' := 68) X hl 1 rfl rfl 35 rfl rfl ?_
            refine r_iconst (pc' := 69) X (1 : Int32) 36 rfl rfl rfl ?_
            refine r_put (pc' := 72) (ws' := wMS G h h_items h_lanes h_sizes h_firms h_kinds h_now h_before h_images h_tape h_trace h_readFirms h_readKinds h_readAt h_rows h_bests ((ms_status u7.2), (ms_points u7.2), (ms_home u7.2), (ms_men u7.2), (ms_hasTable u7.2), (ms_acts u7.2), (ms_imaged u7.2), (ms_length u7.2), (ms_fault u7.2), (ms_traced u7.2), (ms_spot u7.2), (ms_begins u7.2), (ms_token u7.2), (ms_number u7.2), (ms_readPoints u7.2), (ms_readHome u7.2), (ms_readMen u7.2), i1, (1 : Int32), (ms_items u7.2), (ms_lanes u7.2), (ms_sizes u7.2), (ms_firms u7.2), (ms_kinds u7.2), (ms_now u7.2), (ms_before u7.2), (ms_images u7.2), (ms_tape u7.2), (ms_trace u7.2), (ms_readFirms u7.2), (ms_readKinds u7.2), (ms_readAt u7.2), (ms_rows u7.2), (ms_bests u7.2))) X Y 37 rfl rfl fRX8_175 0 rfl rfl rfl (Nat.le_of_ble_eq_true rfl) rfl (fun H locs Y => ?_)
            obtain ⟨LL11, hL11, hne11, hX11⟩ := mL hM hne
            have KX11 : ∀ (b11 : Int32 × MS) (H : Heap) (locs : List Loc) (ls : Array Slot), some b11 = LL11 → rY G A s (wMS G h h_items h_lanes h_sizes h_firms h_kinds h_now h_before h_images h_tape h_trace h_readFirms h_readKinds h_readAt h_rows h_bests b11.2) H locs → lv_has ls 6 [(0, .ref h), (5, .int b11.1)] → W p l e q_X8_kinds s m args below meth c H locs 0 0 Q (F0 m 132 ls []) := by
              intro b11 H locs ls hM Y hl
              replace hM := hX11 _ hM
              refine r_aload_n (pc' := 133) X hl 0 rfl rfl 72 rfl rfl ?_
              refine r_ldc (pc' := 135) X mw530 73 rfl rfl ?_
              refine r_put (pc' := 138) (ws' := wMS G h h_items h_lanes h_sizes h_firms h_kinds h_now h_before h_images h_tape h_trace h_readFirms h_readKinds h_readAt h_rows h_bests ((ms_status b11.2), (ms_points b11.2), (ms_home b11.2), (ms_men b11.2), (ms_hasTable b11.2), (ms_acts b11.2), (ms_imaged b11.2), (ms_length b11.2), (ms_fault b11.2), (ms_traced b11.2), (ms_spot b11.2), (ms_begins b11.2), (ms_token b11.2), (ms_number b11.2), (ms_readPoints b11.2), (ms_readHome b11.2), (ms_readMen b11.2), (-1000000 : Int32), (ms_otherKind b11.2), (ms_items b11.2), (ms_lanes b11.2), (ms_sizes b11.2), (ms_firms b11.2), (ms_kinds b11.2), (ms_now b11.2), (ms_before b11.2), (ms_images b11.2), (ms_tape b11.2), (ms_trace b11.2), (ms_readFirms b11.2), (ms_readKinds b11.2), (ms_readAt b11.2), (ms_rows b11.2), (ms_bests b11.2))) X Y 74 rfl rfl fRX8_53 0 rfl rfl rfl (Nat.le_of_ble_eq_true rfl) rfl (fun H locs Y => ?_)
              refine r_aload_n (pc' := 139) X hl 0 rfl rfl 75 rfl rfl ?_
              refine r_iload (pc' := 141) X hl 1 rfl 76 rfl rfl ?_
              refine r_callV (pc' := 144) (As := [.int b11.1]) (rest := []) X Y 77 rfl rfl mRX8_81 (c_X8_well l G h h_items h_lanes h_sizes h_firms h_kinds h_now h_before h_images h_tape h_trace h_readFirms h_readKinds h_readAt h_rows h_bests (((ms_status b11.2), (ms_points b11.2), (ms_home b11.2), (ms_men b11.2), (ms_hasTable b11.2), (ms_acts b11.2), (ms_imaged b11.2), (ms_length b11.2), (ms_fault b11.2), (ms_traced b11.2), (ms_spot b11.2), (ms_begins b11.2), (ms_token b11.2), (ms_number b11.2), (ms_readPoints b11.2), (ms_readHome b11.2), (ms_readMen b11.2), (-1000000 : Int32), (ms_otherKind b11.2), (ms_items b11.2), (ms_lanes b11.2), (ms_sizes b11.2), (ms_firms b11.2), (ms_kinds b11.2), (ms_now b11.2), (ms_before b11.2), (ms_images b11.2), (ms_tape b11.2), (ms_trace b11.2), (ms_readFirms b11.2), (ms_readKinds b11.2), (ms_readAt b11.2), (ms_rows b11.2), (ms_bests b11.2))) b11.1) (mB hM hne) 0 rfl rfl [0, 1, 2, 3, 4, 5, 6, 7, 8, 9, 10, 11, 12, 13, 14, 15] [] [0, 1, 2, 3, 4, 5, 6, 7, 8, 9, 10, 11, 12, 13, 14, 15] rfl rfl ⟨rfl, rfl, rfl⟩ rfl (w2 := fun u12 => wMS G h h_items h_lanes h_sizes h_firms h_kinds h_now h_before h_images h_tape h_trace h_readFirms h_readKinds h_readAt h_rows h_bests u12.2) (fun _ => rfl) rfl (Nat.le_of_ble_eq_true rfl) ⟨rfl, rfl⟩ ⟨Nat.le_of_ble_eq_true rfl, Nat.le_of_ble_eq_true rfl⟩ ⟨Nat.zero_le _, Nat.zero_le _⟩ hl.1 (st' := fun u12 => [.int u12.1]) (fun _ => rfl) (fun u12 H locs huu12 Y => ?_)
              replace hM := mS hM huu12
              exact RT (u12.1, u12.2) _ _ _ _ _ hM (Or.inl ⟨rfl, rfl, _, rfl⟩) (X.d (k := 78) rfl) Y
            refine lp_rule (I := fun (st11 : Int32 × MS) => ∀ (H : Heap) (locs : List Loc) (ls : Array Slot), rY G A s (wMS G h h_items h_lanes h_sizes h_firms h_kinds h_now h_before h_images h_tape h_trace h_readFirms h_readKinds h_readAt h_rows h_bests st11.2) H locs → lv_has ls 6 [(0, .ref h), (2, .int i2), (3, .int i3), (4, .int i4), (5, .int st11.1)] → W p l e q_X8_kinds s m args below meth c H locs 0 0 Q (F0 m 72 ls [])) hne11 (fun rec11 st11 IH11 hM => ?_) _ _ hL11 _ _ _ Y (lv_sub hl [1, 3, 4, 5, 0] rfl)
            intro H locs ls Y hl
            refine r_aload_n (pc' := 73) X hl 0 rfl rfl 38 rfl rfl ?_
            refine r_get (pc' := 76) (v := .int (ms_otherKind st11.2)) X Y 39 rfl rfl fRX8_175 0 rfl rfl ?_
            refine r_bipush (pc' := 78) X (6 : Int32) 40 rfl rfl rfl ?_
            refine r_icmp_ge (pc' := 81) X 132 41 rfl rfl (by decide) (fun c13 => ?_) (fun c13 => ?_)
            · replace hM := mI hM c13
              exact KX11 _ _ _ _ hM Y (lv_sub hl [0, 4] rfl)
            · replace hM := mE hM c13
              refine r_aload_n (pc' := 82) X hl 0 rfl rfl 42 rfl rfl ?_
              refine r_iconst (pc' := 83) X (0 : Int32) 43 rfl rfl rfl ?_
              refine r_callV (pc' := 86) (As := [.int (0 : Int32)]) (rest := []) X Y 44 rfl rfl mRX8_202 (c_X8_aside l G h h_items h_lanes h_sizes h_firms h_kinds h_now h_before h_images h_tape h_trace h_readFirms h_readKinds h_readAt h_rows h_bests st11.2 (0 : Int32)) (mB hM hne11) 0 rfl rfl [0, 1, 2, 3, 4, 5, 6, 7, 8, 9, 10, 11, 12, 13, 14, 15] [] [0, 1, 2, 3, 4, 5, 6, 7, 8, 9, 10, 11, 12, 13, 14, 15] rfl rfl ⟨rfl, rfl, rfl⟩ rfl (w2 := fun u14 => wMS G h h_items h_lanes h_sizes h_firms h_kinds h_now h_before h_images h_tape h_trace h_readFirms h_readKinds h_readAt h_rows h_bests u14) (fun _ => rfl) rfl (Nat.le_of_ble_eq_true rfl) ⟨rfl, rfl⟩ ⟨Nat.le_of_ble_eq_true rfl, Nat.le_of_ble_eq_true rfl⟩ ⟨Nat.zero_le _, Nat.zero_le _⟩ hl.1 (st' := fun u14 => []) (fun _ => rfl) (fun u14 H locs huu14 Y => ?_)
              replace hM := mS hM huu14
              refine r_aload_n (pc' := 87) X hl 0 rfl rfl 45 rfl rfl ?_
              refine r_iconst (pc' := 88) X (0 : Int32) 46 rfl rfl rfl ?_
              refine r_iload_n (pc' := 89) X hl 1 rfl rfl 47 rfl rfl ?_
              refine r_callV (pc' := 92) (As := [.int (0 : Int32), .int i2]) (rest := []) X Y 48 rfl rfl mRX8_234 (c_X8_goRuled l G h h_items h_lanes h_sizes h_firms h_kinds h_now h_before h_images h_tape h_trace h_readFirms h_readKinds h_readAt h_rows h_bests u14 (0 : Int32) i2) (mB hM hne11) 0 rfl rfl [0, 1, 2, 3, 4, 5, 6, 7, 8, 9, 10, 11, 12, 13, 14, 15] [] [0, 1, 2, 3, 4, 5, 6, 7, 8, 9, 10, 11, 12, 13, 14, 15] rfl rfl ⟨rfl, rfl, rfl⟩ rfl (w2 := fun u15 => wMS G h h_items h_lanes h_sizes h_firms h_kinds h_now h_before h_images h_tape h_trace h_readFirms h_readKinds h_readAt h_rows h_bests u15.2) (fun _ => rfl) rfl (Nat.le_of_ble_eq_true rfl) ⟨rfl, rfl⟩ ⟨Nat.le_of_ble_eq_true rfl, Nat.le_of_ble_eq_true rfl⟩ ⟨Nat.zero_le _, Nat.zero_le _⟩ hl.1 (st' := fun u15 => [.int u15.1]) (fun _ => rfl) (fun u15 H locs huu15 Y => ?_)
              replace hM := mS hM huu15
              refine r_pop (pc' := 93) X 49 rfl rfl rfl ?_
              refine r_iload (pc' := 95) X hl 4 rfl 50 rfl rfl ?_
              refine r_aload_n (pc' := 96) X hl 0 rfl rfl 51 rfl rfl ?_
              refine r_iconst (pc' := 97) X (0 : Int32) 52 rfl rfl rfl ?_
              refine r_iload_n (pc' := 98) X hl 2 rfl rfl 53 rfl rfl ?_
              refine r_iload (pc' := 100) X hl 3 rfl 54 rfl rfl ?_
              refine r_callV0 (pc' := 103) (As := [.int (0 : Int32), .int i3, .int i4]) (rest := [.int st11.1]) X Y 55 rfl rfl mRX8_284 (c_X8_isAs l G h h_items h_lanes h_sizes h_firms h_kinds h_now h_before h_images h_tape h_trace h_readFirms h_readKinds h_readAt h_rows h_bests u15.2 (0 : Int32) i3 i4) (mB hM hne11) 0 rfl rfl [0, 1, 2, 3, 4, 5, 6, 7, 8, 9, 10, 11, 12, 13, 14, 15] rfl rfl rfl (Nat.le_of_ble_eq_true rfl) ⟨rfl, rfl⟩ ⟨Nat.le_of_ble_eq_true rfl, Nat.le_of_ble_eq_true rfl⟩ ⟨Nat.zero_le _, Nat.zero_le _⟩ hl.1 (st' := fun u16 => [.int u16, .int st11.1]) (fun _ => rfl) (fun u16 H locs huu16 Y => ?_)
              replace hM := mS hM huu16
              obtain ⟨J17, hJ17, hM⟩ := mJ hM
              have KJ17 : ∀ (v17 : Int32) (H : Heap) (locs : List Loc) (ls : Array Slot), J17 v17 = LL11 → rY G A s (wMS G h h_items h_lanes h_sizes h_firms h_kinds h_now h_before h_images h_tape h_trace h_readFirms h_readKinds h_readAt h_rows h_bests u15.2) H locs → lv_has ls 6 [(0, .ref h), (2, .int i2), (3, .int i3), (4, .int i4)] → W p l e q_X8_kinds s m args below meth c H locs 0 0 Q (F0 m 116 ls [.int v17, .int st11.1]) := by
                intro v17 H locs ls hM Y hl
                replace hM := (hJ17 _).symm.trans hM
                refine r_ior (pc' := 117) X 63 rfl rfl ?_
                refine r_istore (pc' := 119) (L' := [(5, .int (st11.1 ||| v17)), (0, .ref h), (2, .int i2), (3, .int i3), (4, .int i4)]) X hl 64 rfl rfl (by decide) rfl (fun ls hl => ?_)
                refine r_aload_n (pc' := 120) X hl 1 rfl rfl 65 rfl rfl ?_
                refine r_dup (pc' := 121) X 66 rfl rfl rfl ?_
                refine r_get (pc' := 124) (v := .int (ms_otherKind u15.2)) X Y 67 rfl rfl fRX8_175 0 rfl rfl ?_
                refine r_iconst (pc' := 125) X (1 : Int32) 68 rfl rfl rfl ?_
                refine r_iadd (pc' := 126) X 69 rfl rfl ?_
                refine r_put (pc' := 129) (ws' := wMS G h h_items h_lanes h_sizes h_firms h_kinds h_now h_before h_images h_tape h_trace h_readFirms h_readKinds h_readAt h_rows h_bests ((ms_status u15.2), (ms_points u15.2), (ms_home u15.2), (ms_men u15.2), (ms_hasTable u15.2), (ms_acts u15.2), (ms_imaged u15.2), (ms_length u15.2), (ms_fault u15.2), (ms_traced u15.2), (ms_spot u15.2), (ms_begins u15.2), (ms_token u15.2), (ms_number u15.2), (ms_readPoints u15.2), (ms_readHome u15.2), (ms_readMen u15.2), (ms_otherOne u15.2), ((ms_otherKind u15.2) + (1 : Int32)), (ms_items u15.2), (ms_lanes u15.2), (ms_sizes u15.2), (ms_firms u15.2), (ms_kinds u15.2), (ms_now u15.2), (ms_before u15.2), (ms_images u15.2), (ms_tape u15.2), (ms_trace u15.2), (ms_readFirms u15.2), (ms_readKinds u15.2), (ms_readAt u15.2), (ms_rows u15.2), (ms_bests u15.2))) X Y 70 rfl rfl fRX8_175 0 rfl rfl rfl (Nat.le_of_ble_eq_true rfl) rfl (fun H locs Y => ?_)
                refine r_goto X 72 71 rfl (by decide) ?_
                exact IH11 _ hM _ _ _ Y (lv_sub hl [1, 2, 3, 4, 0] rfl)
              refine r_if_eq (pc' := 106) X 115 56 rfl rfl (by decide) (fun c18 => ?_) (fun c18 => ?_)
              · replace hM := mI hM c18
                refine r_iconst (pc' := 116) X (0 : Int32) 62 rfl rfl rfl ?_
                exact KJ17 (0 : Int32) _ _ _ hM Y (lv_sub hl [0, 1, 2, 3] rfl)
              · replace hM := mE hM c18
                refine r_iconst (pc' := 107) X (1 : Int32) 57 rfl rfl rfl ?_
                refine r_aload_n (pc' := 108) X hl 0 rfl rfl 58 rfl rfl ?_
                refine r_get (pc' := 111) (v := .int (ms_otherKind u15.2)) X Y 59 rfl rfl fRX8_175 0 rfl rfl ?_
                refine r_ishl (pc' := 112) X 60 rfl rfl ?_
                refine r_goto X 116 61 rfl (by decide) ?_
                exact KJ17 ((1 : Int32) <<< ((ms_otherKind u15.2) &&& 31)) _ _ _ hM Y (lv_sub hl [0, 1, 2, 3] rfl)
          · replace hM := mE hM c10
            refine r_aload_n (pc' := 48) X hl 0 rfl rfl 23 rfl rfl ?_
            refine r_aload_n (pc' := 49) X hl 0 rfl rfl 24 rfl rfl ?_
            refine r_iload_n (pc' := 50) X hl 3 rfl rfl 25 rfl rfl ?_
            refine r_iload (pc' := 52) X hl 4 rfl 26 rfl rfl ?_
            refine r_callV0 (pc' := 55) (As := [.int i3, .int i4]) (rest := [.ref h]) X Y 27 rfl rfl mRX8_281 (c_X8_lacks l G h h_items h_lanes h_sizes h_firms h_kinds h_now h_before h_images h_tape h_trace h_readFirms h_readKinds h_readAt h_rows h_bests u7.2 i3 i4) (mB hM hne) 0 rfl rfl [0, 1, 2, 3, 4, 5, 6, 7, 8, 9, 10, 11, 12, 13, 14, 15] rfl rfl rfl (Nat.le_of_ble_eq_true rfl) ⟨rfl, rfl⟩ ⟨Nat.le_of_ble_eq_true rfl, Nat.le_of_ble_eq_true rfl⟩ ⟨Nat.zero_le _, Nat.zero_le _⟩ hl.1 (st' := fun u19 => [.int u19, .ref h]) (fun _ => rfl) (fun u19 H locs huu19 Y => ?_)
            replace hM := mS hM huu19
            refine r_callV (pc' := 58) (As := [.int u19]) (rest := []) X Y 28 rfl rfl mRX8_77 (c_X8_found l G h h_items h_lanes h_sizes h_firms h_kinds h_now h_before h_images h_tape h_trace h_readFirms h_readKinds h_readAt h_rows h_bests u7.2 u19) (mB hM hne) 0 rfl rfl [0, 1, 2, 3, 4, 5, 6, 7, 8, 9, 10, 11, 12, 13, 14, 15] [] [0, 1, 2, 3, 4, 5, 6, 7, 8, 9, 10, 11, 12, 13, 14, 15] rfl rfl ⟨rfl, rfl, rfl⟩ rfl (w2 := fun u20 => wMS G h h_items h_lanes h_sizes h_firms h_kinds h_now h_before h_images h_tape h_trace h_readFirms h_readKinds h_readAt h_rows h_bests u20.2) (fun _ => rfl) rfl (Nat.le_of_ble_eq_true rfl) ⟨rfl, rfl⟩ ⟨Nat.le_of_ble_eq_true rfl, Nat.le_of_ble_eq_true rfl⟩ ⟨Nat.zero_le _, Nat.zero_le _⟩ hl.1 (st' := fun u20 => [.int u20.1]) (fun _ => rfl) (fun u20 H locs huu20 Y => ?_)
            replace hM := mS hM huu20
            exact RT (u20.1, u20.2) _ _ _ _ _ hM (Or.inl ⟨rfl, rfl, _, rfl⟩) (X.d (k := 29) rfl) Y
        · replace hM := mE hM c8
          refine r_ldc (pc' := 36) X mw688 16 rfl rfl ?_
          exact RT ((-1000002 : Int32), u7.2) _ _ _ _ _ hM (Or.inl ⟨rfl, rfl, _, rfl⟩) (X.d (k := 17) rfl) Y
      · replace hM := mI hM c6
        refine r_ldc (pc' := 24) X mw546 10 rfl rfl ?_
        exact RT ((-1000001 : Int32), S0) _ _ _ _ _ hM (Or.inl ⟨rfl, rfl, _, rfl⟩) (X.d (k := 11) rfl) Y

def M_X8_chance (S0 : MS) (i1 : Int32) (i2 : Int32) (i3 : Int32) : Option (Int64 × MS) :=
  (if (ms_hasTable S0) = 0 then (some ((-1000002 : Int64), S0)) else ((M_X8_isFirm i1).bind (fun u2 => (if u2 = 0 then (some ((-1000001 : Int64), S0)) else ((M_X8_in ((i2).toInt64) (0 : Int64) (3 : Int64)).bind (fun u4 => (if u4 = 0 then (some ((-1000001 : Int64), S0)) else ((M_X8_in ((i3).toInt64) (0 : Int64) (1 : Int64)).bind (fun u6 => (if u6 = 0 then (some ((-1000001 : Int64), S0)) else ((M_X8_hasMen S0 i1).bind (fun u8 => (if u8 = 0 then (some ((-1000002 : Int64), S0)) else (jn (σ := Int32) (fun v10 => ((lp (σ := Int32 × Int32 × MS) (β := Int32 × MS) (fun rec11 st11 => (if v10 ≤ st11.2.1 then (some (st11.1, st11.2.2)) else ((M_X8_alone st11.2.2 i1).bind (fun u19 => ((lp (σ := Int32 × Int32 × MS) (β := MS) (fun rec20 st20 => (if i2 ≤ st20.2.1 then (some st20.2.2) else ((M_X8_goAlone st20.2.2 (0 : Int32) i1 (((st20.1 - st20.1 / (6 : Int32) * (6 : Int32)) + (1 : Int32)))).bind (fun u24 => (rec20 ((st20.1 / (6 : Int32)), (st20.2.1 + (1 : Int32)), u24)))))) 1000000 (st11.2.1, (0 : Int32), u19)).bind (fun b20 => ((M_X8_isDone b20 (0 : Int32) i1).bind (fun u21 => (if u21 = 0 then (rec11 ((st11.1 + (0 : Int32)), (st11.2.1 + (1 : Int32)), b20)) else (rec11 ((st11.1 + (1 : Int32)), (st11.2.1 + (1 : Int32)), b20))))))))))) 1000000 ((0 : Int32), (0 : Int32), S0)).bind (fun b11 => ((lp (σ := Int32 × Int32) (β := Int32) (fun rec12 st12 => (if st12.2 = 0 then (some st12.1) else (if ¬ st12.2 = 0 then (rec12 (st12.2, (st12.1 - st12.1 / st12.2 * st12.2))) else none))) 1000000 (b11.1, v10)).bind (fun b12 => (if i3 = 0 then (if ¬ b12 = 0 then (some (((b11.1 / b12)).toInt64, b11.2)) else none) else (if ¬ b12 = 0 then (some (((v10 / b12)).toInt64, b11.2)) else none))))))) (fun J10 => (if i2 = 0 then (J10 (1 : Int32)) else (if i2 = (1 : Int32) then (J10 (6 : Int32)) else (if i2 = (2 : Int32) then (J10 (36 : Int32)) else (J10 (216 : Int32))))))))))))))))))))
def q_X8_chance : Room := { frames := 7, cells := 0, slots := 0, locals := 207 }
set_option maxHeartbeats 4000000 in
set_option maxRecDepth 100000 in
theorem c_X8_chance (l : Launch) (G : gT) (h h_items h_lanes h_sizes h_firms h_kinds h_now h_before h_images h_tape h_trace h_readFirms h_readKinds h_readAt h_rows h_bests : Nat) (S0 : MS) (i1 : Int32) (i2 : Int32) (i3 : Int32) : CT l G yX8_chance cX8_chance 9 (some .long) q_X8_chance [.ref h, .int i1, .int i2, .int i3] (wMS G h h_items h_lanes h_sizes h_firms h_kinds h_now h_before h_images h_tape h_trace h_readFirms h_readKinds h_readAt h_rows h_bests S0) (M_X8_chance S0 i1 i2 i3) (fun u => some (.long u.1)) (fun u => wMS G h h_items h_lanes h_sizes h_firms h_kinds h_now h_before h_images h_tape h_trace h_readFirms h_readKinds h_readAt h_rows h_bests u.2) := by
  refine CT.of (P := PX8_chance) (by decide) dPX8_chance (Nat.le_of_ble_eq_true rfl) ?_
  intro p e s m args below meth c A Q ls hne X RT Y hl
  have hl : lv_has ls 9 [(0, .ref h), (1, .int i1), (2, .int i2), (3, .int i3)] := hl
  generalize hM : M_X8_chance S0 i1 i2 i3 = MM at hne RT
  unfold M_X8_chance at hM
  refine r_aload_n (pc' := 1) X hl 0 rfl rfl 0 rfl rfl ?_
  refine r_get (pc' := 4) (v := .int (ms_hasTable S0)) X Y 1 rfl rfl fRX8_162 0 rfl rfl ?_
  refine r_if_ne (pc' := 7) X 11 2 rfl rfl (by decide) (fun c1 => ?_) (fun c1 => ?_)
  · replace hM := mE hM c1
    refine r_iload_n (pc' := 12) X hl 1 rfl rfl 5 rfl rfl ?_
    refine r_callS0 (pc' := 15) (As := [.int i1]) (rest := []) X Y 6 rfl rfl mRX8_245 (c_X8_isFirm l G i1) (mB hM hne) rfl [] rfl rfl rfl (Nat.le_of_ble_eq_true rfl) ⟨rfl, rfl⟩ ⟨Nat.le_of_ble_eq_true rfl, Nat.le_of_ble_eq_true rfl⟩ ⟨Nat.zero_le _, Nat.zero_le _⟩ hl.1 (st' := fun u2 => [.int u2]) (fun _ => rfl) (fun u2 H locs huu2 Y => ?_)
    replace hM := mS hM huu2
    refine r_if_eq (pc' := 18) X 40 7 rfl rfl (by decide) (fun c3 => ?_) (fun c3 => ?_)
    · replace hM := mI hM c3
      refine r_ldc2 (pc' := 43) X mw778 20 rfl rfl ?_
      exact RT ((-1000001 : Int64), S0) _ _ _ _ _ hM (Or.inr (Or.inr (Or.inl ⟨rfl, rfl, _, rfl⟩))) (X.d (k := 21) rfl) Y
    · replace hM := mE hM c3
      refine r_iload_n (pc' := 19) X hl 2 rfl rfl 8 rfl rfl ?_
      refine r_i2l (pc' := 20) X 9 rfl rfl ?_
      refine r_lconst (pc' := 21) X (0 : Int64) 10 rfl rfl rfl ?_
      refine r_ldc2 (pc' := 24) X mw711 11 rfl rfl ?_
      refine r_callS0 (pc' := 27) (As := [.long (i2).toInt64, .long (0 : Int64), .long (3 : Int64)]) (rest := []) X Y 12 rfl rfl mRX8_66 (c_X8_in l G ((i2).toInt64) (0 : Int64) (3 : Int64)) (mB hM hne) rfl [] rfl rfl rfl (Nat.le_of_ble_eq_true rfl) ⟨rfl, rfl⟩ ⟨Nat.le_of_ble_eq_true rfl, Nat.le_of_ble_eq_true rfl⟩ ⟨Nat.zero_le _, Nat.zero_le _⟩ hl.1 (st' := fun u4 => [.int u4]) (fun _ => rfl) (fun u4 H locs huu4 Y => ?_)
      replace hM := mS hM huu4
      refine r_if_eq (pc' := 30) X 40 13 rfl rfl (by decide) (fun c5 => ?_) (fun c5 => ?_)
      · replace hM := mI hM c5
        refine r_ldc2 (pc' := 43) X mw778 20 rfl rfl ?_
        exact RT ((-1000001 : Int64), S0) _ _ _ _ _ hM (Or.inr (Or.inr (Or.inl ⟨rfl, rfl, _, rfl⟩))) (X.d (k := 21) rfl) Y
      · replace hM := mE hM c5
        refine r_iload_n (pc' := 31) X hl 3 rfl rfl 14 rfl rfl ?_
        refine r_i2l (pc' := 32) X 15 rfl rfl ?_
        refine r_lconst (pc' := 33) X (0 : Int64) 16 rfl rfl rfl ?_
        refine r_lconst (pc' := 34) X (1 : Int64) 17 rfl rfl rfl ?_
        refine r_callS0 (pc' := 37) (As := [.long (i3).toInt64, .long (0 : Int64), .long (1 : Int64)]) (rest := []) X Y 18 rfl rfl mRX8_66 (c_X8_in l G ((i3).toInt64) (0 : Int64) (1 : Int64)) (mB hM hne) rfl [] rfl rfl rfl (Nat.le_of_ble_eq_true rfl) ⟨rfl, rfl⟩ ⟨Nat.le_of_ble_eq_true rfl, Nat.le_of_ble_eq_true rfl⟩ ⟨Nat.zero_le _, Nat.zero_le _⟩ hl.1 (st' := fun u6 => [.int u6]) (fun _ => rfl) (fun u6 H locs huu6 Y => ?_)
        replace hM := mS hM huu6
        refine r_if_ne (pc' := 40) X 44 19 rfl rfl (by decide) (fun c7 => ?_) (fun c7 => ?_)
        · replace hM := mE hM c7
          refine r_aload_n (pc' := 45) X hl 0 rfl rfl 22 rfl rfl ?_
          refine r_iload_n (pc' := 46) X hl 1 rfl rfl 23 rfl rfl ?_
          refine r_callV0 (pc' := 49) (As := [.int i1]) (rest := []) X Y 24 rfl rfl mRX8_269 (c_X8_hasMen l G h h_items h_lanes h_sizes h_firms h_kinds h_now h_before h_images h_tape h_trace h_readFirms h_readKinds h_readAt h_rows h_bests S0 i1) (mB hM hne) 0 rfl rfl [0, 1, 2, 3, 4, 5, 6, 7, 8, 9, 10, 11, 12, 13, 14, 15] rfl rfl rfl (Nat.le_of_ble_eq_true rfl) ⟨rfl, rfl⟩ ⟨Nat.le_of_ble_eq_true rfl, Nat.le_of_ble_eq_true rfl⟩ ⟨Nat.zero_le _, Nat.zero_le _⟩ hl.1 (st' := fun u8 => [.int u8]) (fun _ => rfl) (fun u8 H locs huu8 Y => ?_)
          replace hM := mS hM huu8
          refine r_if_ne (pc' := 52) X 56 25 rfl rfl (by decide) (fun c9 => ?_) (fun c9 => ?_)
          · replace hM := mE hM c9
            refine r_iconst (pc' := 57) X (0 : Int32) 28 rfl rfl rfl ?_
            refine r_istore (pc' := 59) (L' := [(4, .int (0 : Int32)), (0, .ref h), (1, .int i1), (2, .int i2), (3, .int i3)]) X hl 29 rfl rfl (by decide) rfl (fun ls hl => ?_)
            refine r_iload_n (pc' := 60) X hl 3 rfl rfl 30 rfl rfl ?_
            obtain ⟨J10, hJ10, hM⟩ := mJ hM
            have KJ10 : ∀ (v10 : Int32) (H : Heap) (locs : List Loc) (ls : Array Slot), J10 v10 = MM → rY G A s (wMS G h h_items h_lanes h_sizes h_firms h_kinds h_now h_before h_images h_tape h_trace h_readFirms h_readKinds h_readAt h_rows h_bests S0) H locs → lv_has ls 9 [(0, .ref h), (1, .int i1), (2, .int i2), (3, .int i3), (4, .int (0 : Int32))] → W p l e q_X8_chance s m args below meth c H locs 0 0 Q (F0 m 90 ls [.int v10]) := by
              intro v10 H locs ls hM Y hl
              replace hM := (hJ10 _).symm.trans hM
              refine r_istore (pc' := 92) (L' := [(5, .int v10), (0, .ref h), (1, .int i1), (2, .int i2), (3, .int i3), (4, .int (0 : Int32))]) X hl 45 rfl rfl (by decide) rfl (fun ls hl => ?_)
              refine r_iconst (pc' := 93) X (0 : Int32) 46 rfl rfl rfl ?_
              refine r_istore (pc' := 95) (L' := [(6, .int (0 : Int32)), (5, .int v10), (0, .ref h), (1, .int i1), (2, .int i2), (3, .int i3), (4, .int (0 : Int32))]) X hl 47 rfl rfl (by decide) rfl (fun ls hl => ?_)
              obtain ⟨LL11, hL11, hne11, hX11⟩ := mL hM hne
              have KX11 : ∀ (b11 : Int32 × MS) (H : Heap) (locs : List Loc) (ls : Array Slot), some b11 = LL11 → rY G A s (wMS G h h_items h_lanes h_sizes h_firms h_kinds h_now h_before h_images h_tape h_trace h_readFirms h_readKinds h_readAt h_rows h_bests b11.2) H locs → lv_has ls 9 [(3, .int i3), (4, .int b11.1), (5, .int v10)] → W p l e q_X8_chance s m args below meth c H locs 0 0 Q (F0 m 171 ls []) := by
                intro b11 H locs ls hM Y hl
                replace hM := hX11 _ hM
                refine r_iload (pc' := 173) X hl 1 rfl 89 rfl rfl ?_
                refine r_istore (pc' := 175) (L' := [(6, .int b11.1), (3, .int i3), (4, .int b11.1), (5, .int v10)]) X hl 90 rfl rfl (by decide) rfl (fun ls hl => ?_)
                refine r_iload (pc' := 177) X hl 3 rfl 91 rfl rfl ?_
                refine r_istore (pc' := 179) (L' := [(7, .int v10), (6, .int b11.1), (3, .int i3), (4, .int b11.1), (5, .int v10)]) X hl 92 rfl rfl (by decide) rfl (fun ls hl => ?_)
                obtain ⟨LL12, hL12, hne12, hX12⟩ := mL hM hne
                have KX12 : ∀ (b12 : Int32) (H : Heap) (locs : List Loc) (ls : Array Slot), some b12 = LL12 → rY G A s (wMS G h h_items h_lanes h_sizes h_firms h_kinds h_now h_before h_images h_tape h_trace h_readFirms h_readKinds h_readAt h_rows h_bests b11.2) H locs → lv_has ls 9 [(3, .int i3), (4, .int b11.1), (5, .int v10), (6, .int b12)] → W p l e q_X8_chance s m args below meth c H locs 0 0 Q (F0 m 202 ls []) := by
                  intro b12 H locs ls hM Y hl
                  replace hM := hX12 _ hM
                  refine r_iload_n (pc' := 203) X hl 0 rfl rfl 104 rfl rfl ?_
                  refine r_if_ne (pc' := 206) X 215 105 rfl rfl (by decide) (fun c13 => ?_) (fun c13 => ?_)
                  · replace hM := mE hM c13
                    refine r_iload (pc' := 217) X hl 2 rfl 111 rfl rfl ?_
                    refine r_iload (pc' := 219) X hl 3 rfl 112 rfl rfl ?_
                    obtain ⟨g14, hM⟩ := mG hM hne
                    refine r_idiv (pc' := 220) X 113 rfl rfl g14 ?_
                    refine r_i2l (pc' := 221) X 114 rfl rfl ?_
                    exact RT (((v10 / b12)).toInt64, b11.2) _ _ _ _ _ hM (Or.inr (Or.inr (Or.inl ⟨rfl, rfl, _, rfl⟩))) (X.d (k := 115) rfl) Y
                  · replace hM := mI hM c13
                    refine r_iload (pc' := 208) X hl 1 rfl 106 rfl rfl ?_
                    refine r_iload (pc' := 210) X hl 3 rfl 107 rfl rfl ?_
                    obtain ⟨g15, hM⟩ := mG hM hne
                    refine r_idiv (pc' := 211) X 108 rfl rfl g15 ?_
                    refine r_i2l (pc' := 212) X 109 rfl rfl ?_
                    refine r_goto X 221 110 rfl (by decide) ?_
                    exact RT (((b11.1 / b12)).toInt64, b11.2) _ _ _ _ _ hM (Or.inr (Or.inr (Or.inl ⟨rfl, rfl, _, rfl⟩))) (X.d (k := 115) rfl) Y
                refine lp_rule (I := fun (st12 : Int32 × Int32) => ∀ (H : Heap) (locs : List Loc) (ls : Array Slot), rY G A s (wMS G h h_items h_lanes h_sizes h_firms h_kinds h_now h_before h_images h_tape h_trace h_readFirms h_readKinds h_readAt h_rows h_bests b11.2) H locs → lv_has ls 9 [(3, .int i3), (4, .int b11.1), (5, .int v10), (6, .int st12.1), (7, .int st12.2)] → W p l e q_X8_chance s m args below meth c H locs 0 0 Q (F0 m 179 ls [])) hne12 (fun rec12 st12 IH12 hM => ?_) _ _ hL12 _ _ _ Y (lv_sub hl [2, 3, 4, 1, 0] rfl)
                intro H locs ls Y hl
                refine r_iload (pc' := 181) X hl 4 rfl 93 rfl rfl ?_
                refine r_if_eq (pc' := 184) X 202 94 rfl rfl (by decide) (fun c16 => ?_) (fun c16 => ?_)
                · replace hM := mI hM c16
                  exact KX12 _ _ _ _ hM Y (lv_sub hl [0, 1, 2, 3] rfl)
                · replace hM := mE hM c16
                  refine r_iload (pc' := 186) X hl 3 rfl 95 rfl rfl ?_
                  refine r_iload (pc' := 188) X hl 4 rfl 96 rfl rfl ?_
                  obtain ⟨g17, hM⟩ := mG hM hne12
                  refine r_irem (pc' := 189) X 97 rfl rfl g17 ?_
                  refine r_istore (pc' := 191) (L' := [(8, .int (st12.1 - st12.1 / st12.2 * st12.2)), (3, .int i3), (4, .int b11.1), (5, .int v10), (6, .int st12.1), (7, .int st12.2)]) X hl 98 rfl rfl (by decide) rfl (fun ls hl => ?_)
                  refine r_iload (pc' := 193) X hl 5 rfl 99 rfl rfl ?_
                  refine r_istore (pc' := 195) (L' := [(6, .int st12.2), (8, .int (st12.1 - st12.1 / st12.2 * st12.2)), (3, .int i3), (4, .int b11.1), (5, .int v10), (7, .int st12.2)]) X hl 100 rfl rfl (by decide) rfl (fun ls hl => ?_)
                  refine r_iload (pc' := 197) X hl 1 rfl 101 rfl rfl ?_
                  refine r_istore (pc' := 199) (L' := [(7, .int (st12.1 - st12.1 / st12.2 * st12.2)), (6, .int st12.2), (8, .int (st12.1 - st12.1 / st12.2 * st12.2)), (3, .int i3), (4, .int b11.1), (5, .int v10)]) X hl 102 rfl rfl (by decide) rfl (fun ls hl => ?_)
                  refine r_goto X 179 103 rfl (by decide) ?_
                  exact IH12 _ hM _ _ _ Y (lv_sub hl [3, 4, 5, 1, 0] rfl)
              refine lp_rule (I := fun (st11 : Int32 × Int32 × MS) => ∀ (H : Heap) (locs : List Loc) (ls : Array Slot), rY G A s (wMS G h h_items h_lanes h_sizes h_firms h_kinds h_now h_before h_images h_tape h_trace h_readFirms h_readKinds h_readAt h_rows h_bests st11.2.2) H locs → lv_has ls 9 [(0, .ref h), (1, .int i1), (2, .int i2), (3, .int i3), (4, .int st11.1), (5, .int v10), (6, .int st11.2.1)] → W p l e q_X8_chance s m args below meth c H locs 0 0 Q (F0 m 95 ls [])) hne11 (fun rec11 st11 IH11 hM => ?_) _ _ hL11 _ _ _ Y (lv_sub hl [2, 3, 4, 5, 6, 1, 0] rfl)
              intro H locs ls Y hl
              refine r_iload (pc' := 97) X hl 6 rfl 48 rfl rfl ?_
              refine r_iload (pc' := 99) X hl 5 rfl 49 rfl rfl ?_
              refine r_icmp_ge (pc' := 102) X 171 50 rfl rfl (by decide) (fun c18 => ?_) (fun c18 => ?_)
              · replace hM := mI hM c18
                exact KX11 _ _ _ _ hM Y (lv_sub hl [3, 4, 5] rfl)
              · replace hM := mE hM c18
                refine r_aload_n (pc' := 103) X hl 0 rfl rfl 51 rfl rfl ?_
                refine r_iload_n (pc' := 104) X hl 1 rfl rfl 52 rfl rfl ?_
                refine r_callV (pc' := 107) (As := [.int i1]) (rest := []) X Y 53 rfl rfl mRX8_272 (c_X8_alone l G h h_items h_lanes h_sizes h_firms h_kinds h_now h_before h_images h_tape h_trace h_readFirms h_readKinds h_readAt h_rows h_bests st11.2.2 i1) (mB hM hne11) 0 rfl rfl [0, 1, 2, 3, 4, 5, 6, 7, 8, 9, 10, 11, 12, 13, 14, 15] [] [0, 1, 2, 3, 4, 5, 6, 7, 8, 9, 10, 11, 12, 13, 14, 15] rfl rfl ⟨rfl, rfl, rfl⟩ rfl (w2 := fun u19 => wMS G h h_items h_lanes h_sizes h_firms h_kinds h_now h_before h_images h_tape h_trace h_readFirms h_readKinds h_readAt h_rows h_bests u19) (fun _ => rfl) rfl (Nat.le_of_ble_eq_true rfl) ⟨rfl, rfl⟩ ⟨Nat.le_of_ble_eq_true rfl, Nat.le_of_ble_eq_true rfl⟩ ⟨Nat.zero_le _, Nat.zero_le _⟩ hl.1 (st' := fun u19 => []) (fun _ => rfl) (fun u19 H locs huu19 Y => ?_)
                replace hM := mS hM huu19
                refine r_iload (pc' := 109) X hl 6 rfl 54 rfl rfl ?_
                refine r_istore (pc' := 111) (L' := [(7, .int st11.2.1), (0, .ref h), (1, .int i1), (2, .int i2), (3, .int i3), (4, .int st11.1), (5, .int v10), (6, .int st11.2.1)]) X hl 55 rfl rfl (by decide) rfl (fun ls hl => ?_)
                refine r_iconst (pc' := 112) X (0 : Int32) 56 rfl rfl rfl ?_
                refine r_istore (pc' := 114) (L' := [(8, .int (0 : Int32)), (7, .int st11.2.1), (0, .ref h), (1, .int i1), (2, .int i2), (3, .int i3), (4, .int st11.1), (5, .int v10), (6, .int st11.2.1)]) X hl 57 rfl rfl (by decide) rfl (fun ls hl => ?_)
                obtain ⟨LL20, hL20, hne20, hX20⟩ := mL hM hne11
                have KX20 : ∀ (b20 : MS) (H : Heap) (locs : List Loc) (ls : Array Slot), some b20 = LL20 → rY G A s (wMS G h h_items h_lanes h_sizes h_firms h_kinds h_now h_before h_images h_tape h_trace h_readFirms h_readKinds h_readAt h_rows h_bests b20) H locs → lv_has ls 9 [(0, .ref h), (1, .int i1), (2, .int i2), (3, .int i3), (4, .int st11.1), (5, .int v10), (6, .int st11.2.1)] → W p l e q_X8_chance s m args below meth c H locs 0 0 Q (F0 m 146 ls []) := by
                  intro b20 H locs ls hM Y hl
                  replace hM := hX20 _ hM
                  refine r_iload (pc' := 148) X hl 4 rfl 76 rfl rfl ?_
                  refine r_aload_n (pc' := 149) X hl 0 rfl rfl 77 rfl rfl ?_
                  refine r_iconst (pc' := 150) X (0 : Int32) 78 rfl rfl rfl ?_
                  refine r_iload_n (pc' := 151) X hl 1 rfl rfl 79 rfl rfl ?_
                  refine r_callV0 (pc' := 154) (As := [.int (0 : Int32), .int i1]) (rest := [.int st11.1]) X Y 80 rfl rfl mRX8_275 (c_X8_isDone l G h h_items h_lanes h_sizes h_firms h_kinds h_now h_before h_images h_tape h_trace h_readFirms h_readKinds h_readAt h_rows h_bests b20 (0 : Int32) i1) (mB hM hne11) 0 rfl rfl [0, 1, 2, 3, 4, 5, 6, 7, 8, 9, 10, 11, 12, 13, 14, 15] rfl rfl rfl (Nat.le_of_ble_eq_true rfl) ⟨rfl, rfl⟩ ⟨Nat.le_of_ble_eq_true rfl, Nat.le_of_ble_eq_true rfl⟩ ⟨Nat.zero_le _, Nat.zero_le _⟩ hl.1 (st' := fun u21 => [.int u21, .int st11.1]) (fun _ => rfl) (fun u21 H locs huu21 Y => ?_)
                  replace hM := mS hM huu21
                  refine r_if_eq (pc' := 157) X 161 81 rfl rfl (by decide) (fun c22 => ?_) (fun c22 => ?_)
                  · replace hM := mI hM c22
                    refine r_iconst (pc' := 162) X (0 : Int32) 84 rfl rfl rfl ?_
                    refine r_iadd (pc' := 163) X 85 rfl rfl ?_
                    refine r_istore (pc' := 165) (L' := [(4, .int (st11.1 + (0 : Int32))), (0, .ref h), (1, .int i1), (2, .int i2), (3, .int i3), (5, .int v10), (6, .int st11.2.1)]) X hl 86 rfl rfl (by decide) rfl (fun ls hl => ?_)
                    refine r_iinc (pc' := 168) (L' := [(6, .int (st11.2.1 + (1 : Int32))), (4, .int (st11.1 + (0 : Int32))), (0, .ref h), (1, .int i1), (2, .int i2), (3, .int i3), (5, .int v10)]) X (st11.2.1 + (1 : Int32)) hl 6 rfl rfl 87 rfl rfl (by decide) rfl (fun ls hl => ?_)
                    refine r_goto X 95 88 rfl (by decide) ?_
                    exact IH11 _ hM _ _ _ Y (lv_sub hl [2, 3, 4, 5, 1, 6, 0] rfl)
                  · replace hM := mE hM c22
                    refine r_iconst (pc' := 158) X (1 : Int32) 82 rfl rfl rfl ?_
                    refine r_goto X 162 83 rfl (by decide) ?_
                    refine r_iadd (pc' := 163) X 85 rfl rfl ?_
                    refine r_istore (pc' := 165) (L' := [(4, .int (st11.1 + (1 : Int32))), (0, .ref h), (1, .int i1), (2, .int i2), (3, .int i3), (5, .int v10), (6, .int st11.2.1)]) X hl 86 rfl rfl (by decide) rfl (fun ls hl => ?_)
                    refine r_iinc (pc' := 168) (L' := [(6, .int (st11.2.1 + (1 : Int32))), (4, .int (st11.1 + (1 : Int32))), (0, .ref h), (1, .int i1), (2, .int i2), (3, .int i3), (5, .int v10)]) X (st11.2.1 + (1 : Int32)) hl 6 rfl rfl 87 rfl rfl (by decide) rfl (fun ls hl => ?_)
                    refine r_goto X 95 88 rfl (by decide) ?_
                    exact IH11 _ hM _ _ _ Y (lv_sub hl [2, 3, 4, 5, 1, 6, 0] rfl)
                refine lp_rule (I := fun (st20 : Int32 × Int32 × MS) => ∀ (H : Heap) (locs : List Loc) (ls : Array Slot), rY G A s (wMS G h h_items h_lanes h_sizes h_firms h_kinds h_now h_before h_images h_tape h_trace h_readFirms h_readKinds h_readAt h_rows h_bests st20.2.2) H locs → lv_has ls 9 [(0, .ref h), (1, .int i1), (2, .int i2), (3, .int i3), (4, .int st11.1), (5, .int v10), (6, .int st11.2.1), (7, .int st20.1), (8, .int st20.2.1)] → W p l e q_X8_chance s m args below meth c H locs 0 0 Q (F0 m 114 ls [])) hne20 (fun rec20 st20 IH20 hM => ?_) _ _ hL20 _ _ _ Y (lv_sub hl [2, 3, 4, 5, 6, 7, 8, 1, 0] rfl)
                intro H locs ls Y hl
                refine r_iload (pc' := 116) X hl 8 rfl 58 rfl rfl ?_
                refine r_iload_n (pc' := 117) X hl 2 rfl rfl 59 rfl rfl ?_
                refine r_icmp_ge (pc' := 120) X 146 60 rfl rfl (by decide) (fun c23 => ?_) (fun c23 => ?_)
                · replace hM := mI hM c23
                  exact KX20 _ _ _ _ hM Y (lv_sub hl [0, 1, 2, 3, 4, 5, 6] rfl)
                · replace hM := mE hM c23
                  refine r_aload_n (pc' := 121) X hl 0 rfl rfl 61 rfl rfl ?_
                  refine r_iconst (pc' := 122) X (0 : Int32) 62 rfl rfl rfl ?_
                  refine r_iload_n (pc' := 123) X hl 1 rfl rfl 63 rfl rfl ?_
                  refine r_iload (pc' := 125) X hl 7 rfl 64 rfl rfl ?_
                  refine r_bipush (pc' := 127) X (6 : Int32) 65 rfl rfl rfl ?_
                  refine r_irem (pc' := 128) X 66 rfl rfl (by decide) ?_
                  refine r_iconst (pc' := 129) X (1 : Int32) 67 rfl rfl rfl ?_
                  refine r_iadd (pc' := 130) X 68 rfl rfl ?_
                  refine r_callV (pc' := 133) (As := [.int (0 : Int32), .int i1, .int ((st20.1 - st20.1 / (6 : Int32) * (6 : Int32)) + (1 : Int32))]) (rest := []) X Y 69 rfl rfl mRX8_278 (c_X8_goAlone l G h h_items h_lanes h_sizes h_firms h_kinds h_now h_before h_images h_tape h_trace h_readFirms h_readKinds h_readAt h_rows h_bests st20.2.2 (0 : Int32) i1 (((st20.1 - st20.1 / (6 : Int32) * (6 : Int32)) + (1 : Int32)))) (mB hM hne20) 0 rfl rfl [0, 1, 2, 3, 4, 5, 6, 7, 8, 9, 10, 11, 12, 13, 14, 15] [] [0, 1, 2, 3, 4, 5, 6, 7, 8, 9, 10, 11, 12, 13, 14, 15] rfl rfl ⟨rfl, rfl, rfl⟩ rfl (w2 := fun u24 => wMS G h h_items h_lanes h_sizes h_firms h_kinds h_now h_before h_images h_tape h_trace h_readFirms h_readKinds h_readAt h_rows h_bests u24) (fun _ => rfl) rfl (Nat.le_of_ble_eq_true rfl) ⟨rfl, rfl⟩ ⟨Nat.le_of_ble_eq_true rfl, Nat.le_of_ble_eq_true rfl⟩ ⟨Nat.zero_le _, Nat.zero_le _⟩ hl.1 (st' := fun u24 => []) (fun _ => rfl) (fun u24 H locs huu24 Y => ?_)
                  replace hM := mS hM huu24
                  refine r_iload (pc' := 135) X hl 7 rfl 70 rfl rfl ?_
                  refine r_bipush (pc' := 137) X (6 : Int32) 71 rfl rfl rfl ?_
                  refine r_idiv (pc' := 138) X 72 rfl rfl (by decide) ?_
                  refine r_istore (pc' := 140) (L' := [(7, .int (st20.1 / (6 : Int32))), (0, .ref h), (1, .int i1), (2, .int i2), (3, .int i3), (4, .int st11.1), (5, .int v10), (6, .int st11.2.1), (8, .int st20.2.1)]) X hl 73 rfl rfl (by decide) rfl (fun ls hl => ?_)
                  refine r_iinc (pc' := 143) (L' := [(8, .int (st20.2.1 + (1 : Int32))), (7, .int (st20.1 / (6 : Int32))), (0, .ref h), (1, .int i1), (2, .int i2), (3, .int i3), (4, .int st11.1), (5, .int v10), (6, .int st11.2.1)]) X (st20.2.1 + (1 : Int32)) hl 8 rfl rfl 74 rfl rfl (by decide) rfl (fun ls hl => ?_)
                  refine r_goto X 114 75 rfl (by decide) ?_
                  exact IH20 _ hM _ _ _ Y (lv_sub hl [2, 3, 4, 5, 6, 7, 8, 1, 0] rfl)
            refine r_if_ne (pc' := 63) X 67 31 rfl rfl (by decide) (fun c25 => ?_) (fun c25 => ?_)
            · replace hM := mE hM c25
              refine r_iload_n (pc' := 68) X hl 3 rfl rfl 34 rfl rfl ?_
              refine r_iconst (pc' := 69) X (1 : Int32) 35 rfl rfl rfl ?_
              refine r_icmp_ne (pc' := 72) X 77 36 rfl rfl (by decide) (fun c26 => ?_) (fun c26 => ?_)
              · replace hM := mE hM c26
                refine r_iload_n (pc' := 78) X hl 3 rfl rfl 39 rfl rfl ?_
                refine r_iconst (pc' := 79) X (2 : Int32) 40 rfl rfl rfl ?_
                refine r_icmp_ne (pc' := 82) X 87 41 rfl rfl (by decide) (fun c27 => ?_) (fun c27 => ?_)
                · replace hM := mE hM c27
                  refine r_sipush (pc' := 90) X (216 : Int32) 44 rfl rfl rfl ?_
                  exact KJ10 (216 : Int32) _ _ _ hM Y (lv_sub hl [1, 2, 3, 4, 0] rfl)
                · replace hM := mI hM c27
                  refine r_bipush (pc' := 84) X (36 : Int32) 42 rfl rfl rfl ?_
                  refine r_goto X 90 43 rfl (by decide) ?_
                  exact KJ10 (36 : Int32) _ _ _ hM Y (lv_sub hl [1, 2, 3, 4, 0] rfl)
              · replace hM := mI hM c26
                refine r_bipush (pc' := 74) X (6 : Int32) 37 rfl rfl rfl ?_
                refine r_goto X 90 38 rfl (by decide) ?_
                exact KJ10 (6 : Int32) _ _ _ hM Y (lv_sub hl [1, 2, 3, 4, 0] rfl)
            · replace hM := mI hM c25
              refine r_iconst (pc' := 64) X (1 : Int32) 32 rfl rfl rfl ?_
              refine r_goto X 90 33 rfl (by decide) ?_
              exact KJ10 (1 : Int32) _ _ _ hM Y (lv_sub hl [1, 2, 3, 4, 0] rfl)
          · replace hM := mI hM c9
            refine r_ldc2 (pc' := 55) X mw777 26 rfl rfl ?_
            exact RT ((-1000002 : Int64), S0) _ _ _ _ _ hM (Or.inr (Or.inr (Or.inl ⟨rfl, rfl, _, rfl⟩))) (X.d (k := 27) rfl) Y
        · replace hM := mI hM c7
          refine r_ldc2 (pc' := 43) X mw778 20 rfl rfl ?_
          exact RT ((-1000001 : Int64), S0) _ _ _ _ _ hM (Or.inr (Or.inr (Or.inl ⟨rfl, rfl, _, rfl⟩))) (X.d (k := 21) rfl) Y
  · replace hM := mI hM c1
    refine r_ldc2 (pc' := 10) X mw777 3 rfl rfl ?_
    exact RT ((-1000002 : Int64), S0) _ _ _ _ _ hM (Or.inr (Or.inr (Or.inl ⟨rfl, rfl, _, rfl⟩))) (X.d (k := 4) rfl) Y

def M_X8_drawn (S0 : MS) (i1 : Int32) (i2 : Int32) (i3 : Int32) : Option (Int32 × MS) :=
  (if (ms_hasTable S0) = 0 then (some ((-1000002 : Int32), S0)) else ((M_X8_in ((i1).toInt64) (0 : Int64) (60 : Int64)).bind (fun u2 => (if u2 = 0 then (some ((-1000001 : Int32), S0)) else ((M_X8_in ((i2).toInt64) (1 : Int64) (999999 : Int64)).bind (fun u4 => (if u4 = 0 then (some ((-1000001 : Int32), S0)) else ((M_X8_in ((i3).toInt64) (0 : Int64) (1 : Int64)).bind (fun u6 => (if u6 = 0 then (some ((-1000001 : Int32), S0)) else ((M_X8_aside S0 (0 : Int32)).bind (fun u8 => ((lp (σ := Int64 × Int32 × MS) (β := MS) (fun rec9 st9 => (if i1 ≤ st9.2.1 then (some st9.2.2) else ((M_X8_won st9.2.2 (0 : Int32)).bind (fun u17 => (if u17 = (-1000000 : Int32) then ((M_X8_goRuled st9.2.2 (0 : Int32) ((((((st9.1 * (16807 : Int64)) - (st9.1 * (16807 : Int64)) / (2147483647 : Int64) * (2147483647 : Int64)) - ((st9.1 * (16807 : Int64)) - (st9.1 * (16807 : Int64)) / (2147483647 : Int64) * (2147483647 : Int64)) / (6 : Int64) * (6 : Int64))).toInt32 + (1 : Int32)))).bind (fun u19 => (rec9 (((st9.1 * (16807 : Int64)) - (st9.1 * (16807 : Int64)) / (2147483647 : Int64) * (2147483647 : Int64)), (st9.2.1 + (1 : Int32)), u19.2)))) else (rec9 (((st9.1 * (16807 : Int64)) - (st9.1 * (16807 : Int64)) / (2147483647 : Int64) * (2147483647 : Int64)), (st9.2.1 + (1 : Int32)), st9.2.2))))))) 1000000 ((i2).toInt64, (0 : Int32), u8)).bind (fun b9 => ((lp (σ := Int32 × Int32) (β := Int32) (fun rec10 st10 => (if (ms_men b9) ≤ st10.2 then (some st10.1) else ((M_X8_at b9 (0 : Int32) st10.2).bind (fun u14 => (if u14 = (99 : Int32) then (rec10 ((st10.1 ||| ((1 : Int32) <<< (st10.2 &&& 31))), (st10.2 + (1 : Int32)))) else (rec10 ((st10.1 ||| (0 : Int32)), (st10.2 + (1 : Int32))))))))) 1000000 ((0 : Int32), (0 : Int32))).bind (fun b10 => (if i3 = 0 then ((M_X8_lead b9 (0 : Int32) (0 : Int32)).bind (fun u12 => (some (u12, b9)))) else (some (b10, b9)))))))))))))))))))
def q_X8_drawn : Room := { frames := 7, cells := 0, slots := 0, locals := 206 }
set_option maxHeartbeats 4000000 in
set_option maxRecDepth 100000 in
theorem c_X8_drawn (l : Launch) (G : gT) (h h_items h_lanes h_sizes h_firms h_kinds h_now h_before h_images h_tape h_trace h_readFirms h_readKinds h_readAt h_rows h_bests : Nat) (S0 : MS) (i1 : Int32) (i2 : Int32) (i3 : Int32) : CT l G yX8_drawn cX8_drawn 8 (some .int) q_X8_drawn [.ref h, .int i1, .int i2, .int i3] (wMS G h h_items h_lanes h_sizes h_firms h_kinds h_now h_before h_images h_tape h_trace h_readFirms h_readKinds h_readAt h_rows h_bests S0) (M_X8_drawn S0 i1 i2 i3) (fun u => some (.int u.1)) (fun u => wMS G h h_items h_lanes h_sizes h_firms h_kinds h_now h_before h_images h_tape h_trace h_readFirms h_readKinds h_readAt h_rows h_bests u.2) := by
  refine CT.of (P := PX8_drawn) (by decide) dPX8_drawn (Nat.le_of_ble_eq_true rfl) ?_
  intro p e s m args below meth c A Q ls hne X RT Y hl
  have hl : lv_has ls 8 [(0, .ref h), (1, .int i1), (2, .int i2), (3, .int i3)] := hl
  generalize hM : M_X8_drawn S0 i1 i2 i3 = MM at hne RT
  unfold M_X8_drawn at hM
  refine r_aload_n (pc' := 1) X hl 0 rfl rfl 0 rfl rfl ?_
  refine r_get (pc' := 4) (v := .int (ms_hasTable S0)) X Y 1 rfl rfl fRX8_162 0 rfl rfl ?_
  refine r_if_ne (pc' := 7) X 10 2 rfl rfl (by decide) (fun c1 => ?_) (fun c1 => ?_)
  · replace hM := mE hM c1
    refine r_iload_n (pc' := 11) X hl 1 rfl rfl 5 rfl rfl ?_
    refine r_i2l (pc' := 12) X 6 rfl rfl ?_
    refine r_lconst (pc' := 13) X (0 : Int64) 7 rfl rfl rfl ?_
    refine r_ldc2 (pc' := 16) X mw780 8 rfl rfl ?_
    refine r_callS0 (pc' := 19) (As := [.long (i1).toInt64, .long (0 : Int64), .long (60 : Int64)]) (rest := []) X Y 9 rfl rfl mRX8_66 (c_X8_in l G ((i1).toInt64) (0 : Int64) (60 : Int64)) (mB hM hne) rfl [] rfl rfl rfl (Nat.le_of_ble_eq_true rfl) ⟨rfl, rfl⟩ ⟨Nat.le_of_ble_eq_true rfl, Nat.le_of_ble_eq_true rfl⟩ ⟨Nat.zero_le _, Nat.zero_le _⟩ hl.1 (st' := fun u2 => [.int u2]) (fun _ => rfl) (fun u2 H locs huu2 Y => ?_)
    replace hM := mS hM huu2
    refine r_if_eq (pc' := 22) X 44 10 rfl rfl (by decide) (fun c3 => ?_) (fun c3 => ?_)
    · replace hM := mI hM c3
      refine r_ldc (pc' := 46) X mw546 23 rfl rfl ?_
      exact RT ((-1000001 : Int32), S0) _ _ _ _ _ hM (Or.inl ⟨rfl, rfl, _, rfl⟩) (X.d (k := 24) rfl) Y
    · replace hM := mE hM c3
      refine r_iload_n (pc' := 23) X hl 2 rfl rfl 11 rfl rfl ?_
      refine r_i2l (pc' := 24) X 12 rfl rfl ?_
      refine r_lconst (pc' := 25) X (1 : Int64) 13 rfl rfl rfl ?_
      refine r_ldc2 (pc' := 28) X mw781 14 rfl rfl ?_
      refine r_callS0 (pc' := 31) (As := [.long (i2).toInt64, .long (1 : Int64), .long (999999 : Int64)]) (rest := []) X Y 15 rfl rfl mRX8_66 (c_X8_in l G ((i2).toInt64) (1 : Int64) (999999 : Int64)) (mB hM hne) rfl [] rfl rfl rfl (Nat.le_of_ble_eq_true rfl) ⟨rfl, rfl⟩ ⟨Nat.le_of_ble_eq_true rfl, Nat.le_of_ble_eq_true rfl⟩ ⟨Nat.zero_le _, Nat.zero_le _⟩ hl.1 (st' := fun u4 => [.int u4]) (fun _ => rfl) (fun u4 H locs huu4 Y => ?_)
      replace hM := mS hM huu4
      refine r_if_eq (pc' := 34) X 44 16 rfl rfl (by decide) (fun c5 => ?_) (fun c5 => ?_)
      · replace hM := mI hM c5
        refine r_ldc (pc' := 46) X mw546 23 rfl rfl ?_
        exact RT ((-1000001 : Int32), S0) _ _ _ _ _ hM (Or.inl ⟨rfl, rfl, _, rfl⟩) (X.d (k := 24) rfl) Y
      · replace hM := mE hM c5
        refine r_iload_n (pc' := 35) X hl 3 rfl rfl 17 rfl rfl ?_
        refine r_i2l (pc' := 36) X 18 rfl rfl ?_
        refine r_lconst (pc' := 37) X (0 : Int64) 19 rfl rfl rfl ?_
        refine r_lconst (pc' := 38) X (1 : Int64) 20 rfl rfl rfl ?_
        refine r_callS0 (pc' := 41) (As := [.long (i3).toInt64, .long (0 : Int64), .long (1 : Int64)]) (rest := []) X Y 21 rfl rfl mRX8_66 (c_X8_in l G ((i3).toInt64) (0 : Int64) (1 : Int64)) (mB hM hne) rfl [] rfl rfl rfl (Nat.le_of_ble_eq_true rfl) ⟨rfl, rfl⟩ ⟨Nat.le_of_ble_eq_true rfl, Nat.le_of_ble_eq_true rfl⟩ ⟨Nat.zero_le _, Nat.zero_le _⟩ hl.1 (st' := fun u6 => [.int u6]) (fun _ => rfl) (fun u6 H locs huu6 Y => ?_)
        replace hM := mS hM huu6
        refine r_if_ne (pc' := 44) X 47 22 rfl rfl (by decide) (fun c7 => ?_) (fun c7 => ?_)
        · replace hM := mE hM c7
          refine r_aload_n (pc' := 48) X hl 0 rfl rfl 25 rfl rfl ?_
          refine r_iconst (pc' := 49) X (0 : Int32) 26 rfl rfl rfl ?_
          refine r_callV (pc' := 52) (As := [.int (0 : Int32)]) (rest := []) X Y 27 rfl rfl mRX8_202 (c_X8_aside l G h h_items h_lanes h_sizes h_firms h_kinds h_now h_before h_images h_tape h_trace h_readFirms h_readKinds h_readAt h_rows h_bests S0 (0 : Int32)) (mB hM hne) 0 rfl rfl [0, 1, 2, 3, 4, 5, 6, 7, 8, 9, 10, 11, 12, 13, 14, 15] [] [0, 1, 2, 3, 4, 5, 6, 7, 8, 9, 10, 11, 12, 13, 14, 15] rfl rfl ⟨rfl, rfl, rfl⟩ rfl (w2 := fun u8 => wMS G h h_items h_lanes h_sizes h_firms h_kinds h_now h_before h_images h_tape h_trace h_readFirms h_readKinds h_readAt h_rows h_bests u8) (fun _ => rfl) rfl (Nat.le_of_ble_eq_true rfl) ⟨rfl, rfl⟩ ⟨Nat.le_of_ble_eq_true rfl, Nat.le_of_ble_eq_true rfl⟩ ⟨Nat.zero_le _, Nat.zero_le _⟩ hl.1 (st' := fun u8 => []) (fun _ => rfl) (fun u8 H locs huu8 Y => ?_)
          replace hM := mS hM huu8
          refine r_iload_n (pc' := 53) X hl 2 rfl rfl 28 rfl rfl ?_
          refine r_i2l (pc' := 54) X 29 rfl rfl ?_
          refine r_lstore (pc' := 56) (L' := [(4, .long (i2).toInt64), (0, .ref h), (1, .int i1), (2, .int i2), (3, .int i3)]) X hl 30 rfl rfl (by decide) rfl (fun ls hl => ?_)
          refine r_iconst (pc' := 57) X (0 : Int32) 31 rfl rfl rfl ?_
          refine r_istore (pc' := 59) (L' := [(6, .int (0 : Int32)), (4, .long (i2).toInt64), (0, .ref h), (1, .int i1), (2, .int i2), (3, .int i3)]) X hl 32 rfl rfl (by decide) rfl (fun ls hl => ?_)
          obtain ⟨LL9, hL9, hne9, hX9⟩ := mL hM hne
          have KX9 : ∀ (b9 : MS) (H : Heap) (locs : List Loc) (ls : Array Slot), some b9 = LL9 → rY G A s (wMS G h h_items h_lanes h_sizes h_firms h_kinds h_now h_before h_images h_tape h_trace h_readFirms h_readKinds h_readAt h_rows h_bests b9) H locs → lv_has ls 8 [(0, .ref h), (3, .int i3)] → W p l e q_X8_drawn s m args below meth c H locs 0 0 Q (F0 m 108 ls []) := by
            intro b9 H locs ls hM Y hl
            replace hM := hX9 _ hM
            refine r_iconst (pc' := 109) X (0 : Int32) 59 rfl rfl rfl ?_
            refine r_istore (pc' := 111) (L' := [(6, .int (0 : Int32)), (0, .ref h), (3, .int i3)]) X hl 60 rfl rfl (by decide) rfl (fun ls hl => ?_)
            refine r_iconst (pc' := 112) X (0 : Int32) 61 rfl rfl rfl ?_
            refine r_istore (pc' := 114) (L' := [(7, .int (0 : Int32)), (6, .int (0 : Int32)), (0, .ref h), (3, .int i3)]) X hl 62 rfl rfl (by decide) rfl (fun ls hl => ?_)
            obtain ⟨LL10, hL10, hne10, hX10⟩ := mL hM hne
            have KX10 : ∀ (b10 : Int32) (H : Heap) (locs : List Loc) (ls : Array Slot), some b10 = LL10 → rY G A s (wMS G h h_items h_lanes h_sizes h_firms h_kinds h_now h_before h_images h_tape h_trace h_readFirms h_readKinds h_readAt h_rows h_bests b9) H locs → lv_has ls 8 [(0, .ref h), (3, .int i3), (6, .int b10)] → W p l e q_X8_drawn s m args below meth c H locs 0 0 Q (F0 m 154 ls []) := by
              intro b10 H locs ls hM Y hl
              replace hM := hX10 _ hM
              refine r_iload_n (pc' := 155) X hl 1 rfl rfl 83 rfl rfl ?_
              refine r_if_ne (pc' := 158) X 167 84 rfl rfl (by decide) (fun c11 => ?_) (fun c11 => ?_)
              · replace hM := mE hM c11
                refine r_iload (pc' := 169) X hl 2 rfl 90 rfl rfl ?_
                exact RT (b10, b9) _ _ _ _ _ hM (Or.inl ⟨rfl, rfl, _, rfl⟩) (X.d (k := 91) rfl) Y
              · replace hM := mI hM c11
                refine r_aload_n (pc' := 159) X hl 0 rfl rfl 85 rfl rfl ?_
                refine r_iconst (pc' := 160) X (0 : Int32) 86 rfl rfl rfl ?_
                refine r_iconst (pc' := 161) X (0 : Int32) 87 rfl rfl rfl ?_
                refine r_callV0 (pc' := 164) (As := [.int (0 : Int32), .int (0 : Int32)]) (rest := []) X Y 88 rfl rfl mRX8_248 (c_X8_lead l G h h_items h_lanes h_sizes h_firms h_kinds h_now h_before h_images h_tape h_trace h_readFirms h_readKinds h_readAt h_rows h_bests b9 (0 : Int32) (0 : Int32)) (mB hM hne) 0 rfl rfl [0, 1, 2, 3, 4, 5, 6, 7, 8, 9, 10, 11, 12, 13, 14, 15] rfl rfl rfl (Nat.le_of_ble_eq_true rfl) ⟨rfl, rfl⟩ ⟨Nat.le_of_ble_eq_true rfl, Nat.le_of_ble_eq_true rfl⟩ ⟨Nat.zero_le _, Nat.zero_le _⟩ hl.1 (st' := fun u12 => [.int u12]) (fun _ => rfl) (fun u12 H locs huu12 Y => ?_)
                replace hM := mS hM huu12
                refine r_goto X 169 89 rfl (by decide) ?_
                exact RT (u12, b9) _ _ _ _ _ hM (Or.inl ⟨rfl, rfl, _, rfl⟩) (X.d (k := 91) rfl) Y
            refine lp_rule (I := fun (st10 : Int32 × Int32) => ∀ (H : Heap) (locs : List Loc) (ls : Array Slot), rY G A s (wMS G h h_items h_lanes h_sizes h_firms h_kinds h_now h_before h_images h_tape h_trace h_readFirms h_readKinds h_readAt h_rows h_bests b9) H locs → lv_has ls 8 [(0, .ref h), (3, .int i3), (6, .int st10.1), (7, .int st10.2)] → W p l e q_X8_drawn s m args below meth c H locs 0 0 Q (F0 m 114 ls [])) hne10 (fun rec10 st10 IH10 hM => ?_) _ _ hL10 _ _ _ Y (lv_sub hl [2, 3, 1, 0] rfl)
            intro H locs ls Y hl
            refine r_iload (pc' := 116) X hl 3 rfl 63 rfl rfl ?_
            refine r_aload_n (pc' := 117) X hl 0 rfl rfl 64 rfl rfl ?_
            refine r_get (pc' := 120) (v := .int (ms_men b9)) X Y 65 rfl rfl fRX8_159 0 rfl rfl ?_
            refine r_icmp_ge (pc' := 123) X 154 66 rfl rfl (by decide) (fun c13 => ?_) (fun c13 => ?_)
            · replace hM := mI hM c13
              exact KX10 _ _ _ _ hM Y (lv_sub hl [0, 1, 2] rfl)
            · replace hM := mE hM c13
              refine r_iload (pc' := 125) X hl 2 rfl 67 rfl rfl ?_
              refine r_aload_n (pc' := 126) X hl 0 rfl rfl 68 rfl rfl ?_
              refine r_iconst (pc' := 127) X (0 : Int32) 69 rfl rfl rfl ?_
              refine r_iload (pc' := 129) X hl 3 rfl 70 rfl rfl ?_
              refine r_callV0 (pc' := 132) (As := [.int (0 : Int32), .int st10.2]) (rest := [.int st10.1]) X Y 71 rfl rfl mRX8_169 (c_X8_at l G h h_items h_lanes h_sizes h_firms h_kinds h_now h_before h_images h_tape h_trace h_readFirms h_readKinds h_readAt h_rows h_bests b9 (0 : Int32) st10.2) (mB hM hne10) 0 rfl rfl [0, 1, 2, 3, 4, 5, 6, 7, 8, 9, 10, 11, 12, 13, 14, 15] rfl rfl rfl (Nat.le_of_ble_eq_true rfl) ⟨rfl, rfl⟩ ⟨Nat.le_of_ble_eq_true rfl, Nat.le_of_ble_eq_true rfl⟩ ⟨Nat.zero_le _, Nat.zero_le _⟩ hl.1 (st' := fun u14 => [.int u14, .int st10.1]) (fun _ => rfl) (fun u14 H locs huu14 Y => ?_)
              replace hM := mS hM huu14
              refine r_bipush (pc' := 134) X (99 : Int32) 72 rfl rfl rfl ?_
              refine r_icmp_ne (pc' := 137) X 144 73 rfl rfl (by decide) (fun c15 => ?_) (fun c15 => ?_)
              · replace hM := mE hM c15
                refine r_iconst (pc' := 145) X (0 : Int32) 78 rfl rfl rfl ?_
                refine r_ior (pc' := 146) X 79 rfl rfl ?_
                refine r_istore (pc' := 148) (L' := [(6, .int (st10.1 ||| (0 : Int32))), (0, .ref h), (3, .int i3), (7, .int st10.2)]) X hl 80 rfl rfl (by decide) rfl (fun ls hl => ?_)
                refine r_iinc (pc' := 151) (L' := [(7, .int (st10.2 + (1 : Int32))), (6, .int (st10.1 ||| (0 : Int32))), (0, .ref h), (3, .int i3)]) X (st10.2 + (1 : Int32)) hl 3 rfl rfl 81 rfl rfl (by decide) rfl (fun ls hl => ?_)
                refine r_goto X 114 82 rfl (by decide) ?_
                exact IH10 _ hM _ _ _ Y (lv_sub hl [2, 3, 1, 0] rfl)
              · replace hM := mI hM c15
                refine r_iconst (pc' := 138) X (1 : Int32) 74 rfl rfl rfl ?_
                refine r_iload (pc' := 140) X hl 3 rfl 75 rfl rfl ?_
                refine r_ishl (pc' := 141) X 76 rfl rfl ?_
                refine r_goto X 145 77 rfl (by decide) ?_
                refine r_ior (pc' := 146) X 79 rfl rfl ?_
                refine r_istore (pc' := 148) (L' := [(6, .int (st10.1 ||| ((1 : Int32) <<< (st10.2 &&& 31)))), (0, .ref h), (3, .int i3), (7, .int st10.2)]) X hl 80 rfl rfl (by decide) rfl (fun ls hl => ?_)
                refine r_iinc (pc' := 151) (L' := [(7, .int (st10.2 + (1 : Int32))), (6, .int (st10.1 ||| ((1 : Int32) <<< (st10.2 &&& 31)))), (0, .ref h), (3, .int i3)]) X (st10.2 + (1 : Int32)) hl 3 rfl rfl 81 rfl rfl (by decide) rfl (fun ls hl => ?_)
                refine r_goto X 114 82 rfl (by decide) ?_
                exact IH10 _ hM _ _ _ Y (lv_sub hl [2, 3, 1, 0] rfl)
          refine lp_rule (I := fun (st9 : Int64 × Int32 × MS) => ∀ (H : Heap) (locs : List Loc) (ls : Array Slot), rY G A s (wMS G h h_items h_lanes h_sizes h_firms h_kinds h_now h_before h_images h_tape h_trace h_readFirms h_readKinds h_readAt h_rows h_bests st9.2.2) H locs → lv_has ls 8 [(0, .ref h), (1, .int i1), (3, .int i3), (4, .long st9.1), (6, .int st9.2.1)] → W p l e q_X8_drawn s m args below meth c H locs 0 0 Q (F0 m 59 ls [])) hne9 (fun rec9 st9 IH9 hM => ?_) _ _ hL9 _ _ _ Y (lv_sub hl [2, 3, 5, 1, 0] rfl)
          intro H locs ls Y hl
          refine r_iload (pc' := 61) X hl 4 rfl 33 rfl rfl ?_
          refine r_iload_n (pc' := 62) X hl 1 rfl rfl 34 rfl rfl ?_
          refine r_icmp_ge (pc' := 65) X 108 35 rfl rfl (by decide) (fun c16 => ?_) (fun c16 => ?_)
          · replace hM := mI hM c16
            exact KX9 _ _ _ _ hM Y (lv_sub hl [0, 2] rfl)
          · replace hM := mE hM c16
            refine r_lload (pc' := 67) X hl 3 rfl 36 rfl rfl ?_
            refine r_ldc2 (pc' := 70) X mw782 37 rfl rfl ?_
            refine r_lmul (pc' := 71) X 38 rfl rfl ?_
            refine r_ldc2 (pc' := 74) X mw783 39 rfl rfl ?_
            refine r_lrem (pc' := 75) X 40 rfl rfl (by decide) ?_
            refine r_lstore (pc' := 77) (L' := [(4, .long ((st9.1 * (16807 : Int64)) - (st9.1 * (16807 : Int64)) / (2147483647 : Int64) * (2147483647 : Int64))), (0, .ref h), (1, .int i1), (3, .int i3), (6, .int st9.2.1)]) X hl 41 rfl rfl (by decide) rfl (fun ls hl => ?_)
            refine r_aload_n (pc' := 78) X hl 1 rfl rfl 42 rfl rfl ?_
            refine r_iconst (pc' := 79) X (0 : Int32) 43 rfl rfl rfl ?_
            refine r_callV0 (pc' := 82) (As := [.int (0 : Int32)]) (rest := []) X Y 44 rfl rfl mRX8_206 (c_X8_won l G h h_items h_lanes h_sizes h_firms h_kinds h_now h_before h_images h_tape h_trace h_readFirms h_readKinds h_readAt h_rows h_bests st9.2.2 (0 : Int32)) (mB hM hne9) 0 rfl rfl [0, 1, 2, 3, 4, 5, 6, 7, 8, 9, 10, 11, 12, 13, 14, 15] rfl rfl rfl (Nat.le_of_ble_eq_true rfl) ⟨rfl, rfl⟩ ⟨Nat.le_of_ble_eq_true rfl, Nat.le_of_ble_eq_true rfl⟩ ⟨Nat.zero_le _, Nat.zero_le _⟩ hl.1 (st' := fun u17 => [.int u17]) (fun _ => rfl) (fun u17 H locs huu17 Y => ?_)
            replace hM := mS hM huu17
            refine r_ldc (pc' := 84) X mw530 45 rfl rfl ?_
            refine r_icmp_ne (pc' := 87) X 102 46 rfl rfl (by decide) (fun c18 => ?_) (fun c18 => ?_)
            · replace hM := mE hM c18
              refine r_iinc (pc' := 105) (L' := [(6, .int (st9.2.1 + (1 : Int32))), (4, .long ((st9.1 * (16807 : Int64)) - (st9.1 * (16807 : Int64)) / (2147483647 : Int64) * (2147483647 : Int64))), (0, .ref h), (1, .int i1), (3, .int i3)]) X (st9.2.1 + (1 : Int32)) hl 4 rfl rfl 57 rfl rfl (by decide) rfl (fun ls hl => ?_)
              refine r_goto X 59 58 rfl (by decide) ?_
              exact IH9 _ hM _ _ _ Y (lv_sub hl [2, 3, 4, 1, 0] rfl)
            · replace hM := mI hM c18
              refine r_aload_n (pc' := 88) X hl 1 rfl rfl 47 rfl rfl ?_
              refine r_iconst (pc' := 89) X (0 : Int32) 48 rfl rfl rfl ?_
              refine r_lload (pc' := 91) X hl 0 rfl 49 rfl rfl ?_
              refine r_ldc2 (pc' := 94) X mw683 50 rfl rfl ?_
              refine r_lrem (pc' := 95) X 51 rfl rfl (by decide) ?_
              refine r_l2i (pc' := 96) X 52 rfl rfl ?_
              refine r_iconst (pc' := 97) X (1 : Int32) 53 rfl rfl rfl ?_
              refine r_iadd (pc' := 98) X 54 rfl rfl ?_
              refine r_callV (pc' := 101) (As := [.int (0 : Int32), .int (((((st9.1 * (16807 : Int64)) - (st9.1 * (16807 : Int64)) / (2147483647 : Int64) * (2147483647 : Int64)) - ((st9.1 * (16807 : Int64)) - (st9.1 * (16807 : Int64)) / (2147483647 : Int64) * (2147483647 : Int64)) / (6 : Int64) * (6 : Int64))).toInt32 + (1 : Int32))]) (rest := []) X Y 55 rfl rfl mRX8_234 (c_X8_goRuled l G h h_items h_lanes h_sizes h_firms h_kinds h_now h_before h_images h_tape h_trace h_readFirms h_readKinds h_readAt h_rows h_bests st9.2.2 (0 : Int32) ((((((st9.1 * (16807 : Int64)) - (st9.1 * (16807 : Int64)) / (2147483647 : Int64) * (2147483647 : Int64)) - ((st9.1 * (16807 : Int64)) - (st9.1 * (16807 : Int64)) / (2147483647 : Int64) * (2147483647 : Int64)) / (6 : Int64) * (6 : Int64))).toInt32 + (1 : Int32)))) (mB hM hne9) 0 rfl rfl [0, 1, 2, 3, 4, 5, 6, 7, 8, 9, 10, 11, 12, 13, 14, 15] [] [0, 1, 2, 3, 4, 5, 6, 7, 8, 9, 10, 11, 12, 13, 14, 15] rfl rfl ⟨rfl, rfl, rfl⟩ rfl (w2 := fun u19 => wMS G h h_items h_lanes h_sizes h_firms h_kinds h_now h_before h_images h_tape h_trace h_readFirms h_readKinds h_readAt h_rows h_bests u19.2) (fun _ => rfl) rfl (Nat.le_of_ble_eq_true rfl) ⟨rfl, rfl⟩ ⟨Nat.le_of_ble_eq_true rfl, Nat.le_of_ble_eq_true rfl⟩ ⟨Nat.zero_le _, Nat.zero_le _⟩ hl.1 (st' := fun u19 => [.int u19.1]) (fun _ => rfl) (fun u19 H locs huu19 Y => ?_)
              replace hM := mS hM huu19
              refine r_pop (pc' := 102) X 56 rfl rfl rfl ?_
              refine r_iinc (pc' := 105) (L' := [(6, .int (st9.2.1 + (1 : Int32))), (4, .long ((st9.1 * (16807 : Int64)) - (st9.1 * (16807 : Int64)) / (2147483647 : Int64) * (2147483647 : Int64))), (0, .ref h), (1, .int i1), (3, .int i3)]) X (st9.2.1 + (1 : Int32)) hl 4 rfl rfl 57 rfl rfl (by decide) rfl (fun ls hl => ?_)
              refine r_goto X 59 58 rfl (by decide) ?_
              exact IH9 _ hM _ _ _ Y (lv_sub hl [2, 3, 4, 1, 0] rfl)
        · replace hM := mI hM c7
          refine r_ldc (pc' := 46) X mw546 23 rfl rfl ?_
          exact RT ((-1000001 : Int32), S0) _ _ _ _ _ hM (Or.inl ⟨rfl, rfl, _, rfl⟩) (X.d (k := 24) rfl) Y
  · replace hM := mI hM c1
    refine r_ldc (pc' := 9) X mw688 3 rfl rfl ?_
    exact RT ((-1000002 : Int32), S0) _ _ _ _ _ hM (Or.inl ⟨rfl, rfl, _, rfl⟩) (X.d (k := 4) rfl) Y

def M_X8_image (S0 : MS) (i1 : Int32) : Option (Int32 × MS) :=
  ((M_X8_in ((i1).toInt64) (0 : Int64) (1 : Int64)).bind (fun u1 => (if u1 = 0 then (some ((-1000001 : Int32), S0)) else (if (ms_hasTable S0) = 0 then (some ((-1000002 : Int32), S0)) else ((lp (σ := Int32 × (Nat → Int32)) (β := (Nat → Int32)) (fun rec4 st4 => (if (8 : Int32) ≤ st4.1 then (some st4.2) else (if inb st4.1 8 = true then (if inb (((32 : Int32) * i1) + st4.1) 64 = true then (rec4 ((st4.1 + (1 : Int32)), (upd st4.2 ((((32 : Int32) * i1) + st4.1)).toNatClampNeg (((10 : Int32) * ((ms_kinds S0) (st4.1).toNatClampNeg)) + ((ms_firms S0) (st4.1).toNatClampNeg))))) else none) else none))) 1000000 ((0 : Int32), (ms_images S0))).bind (fun b4 => ((lp (σ := Int32 × (Nat → Int32)) (β := (Nat → Int32)) (fun rec5 st5 => (if (12 : Int32) ≤ st5.1 then (some st5.2) else (if inb st5.1 12 = true then (if inb ((((32 : Int32) * i1) + (8 : Int32)) + st5.1) 64 = true then (rec5 ((st5.1 + (1 : Int32)), (upd st5.2 (((((32 : Int32) * i1) + (8 : Int32)) + st5.1)).toNatClampNeg ((ms_now S0) (st5.1).toNatClampNeg)))) else none) else none))) 1000000 ((0 : Int32), b4)).bind (fun b5 => (if inb (((32 : Int32) * i1) + (20 : Int32)) 64 = true then (if inb (((32 : Int32) * i1) + (21 : Int32)) 64 = true then (if inb (((32 : Int32) * i1) + (22 : Int32)) 64 = true then (some ((1 : Int32), ((ms_status S0), (ms_points S0), (ms_home S0), (ms_men S0), (ms_hasTable S0), (ms_acts S0), ((ms_imaged S0) ||| ((1 : Int32) <<< (i1 &&& 31))), (ms_length S0), (ms_fault S0), (ms_traced S0), (ms_spot S0), (ms_begins S0), (ms_token S0), (ms_number S0), (ms_readPoints S0), (ms_readHome S0), (ms_readMen S0), (ms_otherOne S0), (ms_otherKind S0), (ms_items S0), (ms_lanes S0), (ms_sizes S0), (ms_firms S0), (ms_kinds S0), (ms_now S0), (ms_before S0), (upd (upd (upd b5 ((((32 : Int32) * i1) + (20 : Int32))).toNatClampNeg (ms_points S0)) ((((32 : Int32) * i1) + (21 : Int32))).toNatClampNeg (ms_home S0)) ((((32 : Int32) * i1) + (22 : Int32))).toNatClampNeg (ms_men S0)), (ms_tape S0), (ms_trace S0), (ms_readFirms S0), (ms_readKinds S0), (ms_readAt S0), (ms_rows S0), (ms_bests S0)))) else none) else none) else none)))))))))
def q_X8_image : Room := { frames := 2, cells := 0, slots := 0, locals := 85 }
set_option maxHeartbeats 4000000 in
set_option maxRecDepth 100000 in
theorem c_X8_image (l : Launch) (G : gT) (h h_items h_lanes h_sizes h_firms h_kinds h_now h_before h_images h_tape h_trace h_readFirms h_readKinds h_readAt h_rows h_bests : Nat) (S0 : MS) (i1 : Int32) : CT l G yX8_image cX8_image 4 (some .int) q_X8_image [.ref h, .int i1] (wMS G h h_items h_lanes h_sizes h_firms h_kinds h_now h_before h_images h_tape h_trace h_readFirms h_readKinds h_readAt h_rows h_bests S0) (M_X8_image S0 i1) (fun u => some (.int u.1)) (fun u => wMS G h h_items h_lanes h_sizes h_firms h_kinds h_now h_before h_images h_tape h_trace h_readFirms h_readKinds h_readAt h_rows h_bests u.2) := by
  refine CT.of (P := PX8_image) (by decide) dPX8_image (Nat.le_of_ble_eq_true rfl) ?_
  intro p e s m args below meth c A Q ls hne X RT Y hl
  have hl : lv_has ls 4 [(0, .ref h), (1, .int i1)] := hl
  generalize hM : M_X8_image S0 i1 = MM at hne RT
  unfold M_X8_image at hM
  refine r_iload_n (pc' := 1) X hl 1 rfl rfl 0 rfl rfl ?_
  refine r_i2l (pc' := 2) X 1 rfl rfl ?_
  refine r_lconst (pc' := 3) X (0 : Int64) 2 rfl rfl rfl ?_
  refine r_lconst (pc' := 4) X (1 : Int64) 3 rfl rfl rfl ?_
  refine r_callS0 (pc' := 7) (As := [.long (i1).toInt64, .long (0 : Int64), .long (1 : Int64)]) (rest := []) X Y 4 rfl rfl mRX8_66 (c_X8_in l G ((i1).toInt64) (0 : Int64) (1 : Int64)) (mB hM hne) rfl [] rfl rfl rfl (Nat.le_of_ble_eq_true rfl) ⟨rfl, rfl⟩ ⟨Nat.le_of_ble_eq_true rfl, Nat.le_of_ble_eq_true rfl⟩ ⟨Nat.zero_le _, Nat.zero_le _⟩ hl.1 (st' := fun u1 => [.int u1]) (fun _ => rfl) (fun u1 H locs huu1 Y => ?_)
  replace hM := mS hM huu1
  refine r_if_ne (pc' := 10) X 13 5 rfl rfl (by decide) (fun c2 => ?_) (fun c2 => ?_)
  · replace hM := mE hM c2
    refine r_aload_n (pc' := 14) X hl 0 rfl rfl 8 rfl rfl ?_
    refine r_get (pc' := 17) (v := .int (ms_hasTable S0)) X Y 9 rfl rfl fRX8_162 0 rfl rfl ?_
    refine r_if_ne (pc' := 20) X 23 10 rfl rfl (by decide) (fun c3 => ?_) (fun c3 => ?_)
    · replace hM := mE hM c3
      refine r_bipush (pc' := 25) X (32 : Int32) 13 rfl rfl rfl ?_
      refine r_iload_n (pc' := 26) X hl 1 rfl rfl 14 rfl rfl ?_
      refine r_imul (pc' := 27) X 15 rfl rfl ?_
      refine r_istore_n (pc' := 28) (L' := [(2, .int ((32 : Int32) * i1)), (0, .ref h), (1, .int i1)]) X hl rfl 16 rfl rfl (by decide) rfl (fun ls hl => ?_)
      refine r_iconst (pc' := 29) X (0 : Int32) 17 rfl rfl rfl ?_
      refine r_istore_n (pc' := 30) (L' := [(3, .int (0 : Int32)), (2, .int ((32 : Int32) * i1)), (0, .ref h), (1, .int i1)]) X hl rfl 18 rfl rfl (by decide) rfl (fun ls hl => ?_)
      obtain ⟨LL4, hL4, hne4, hX4⟩ := mL hM hne
      have KX4 : ∀ (b4 : (Nat → Int32)) (H : Heap) (locs : List Loc) (ls : Array Slot), some b4 = LL4 → rY G A s (wMS G h h_items h_lanes h_sizes h_firms h_kinds h_now h_before h_images h_tape h_trace h_readFirms h_readKinds h_readAt h_rows h_bests ((ms_status S0), (ms_points S0), (ms_home S0), (ms_men S0), (ms_hasTable S0), (ms_acts S0), (ms_imaged S0), (ms_length S0), (ms_fault S0), (ms_traced S0), (ms_spot S0), (ms_begins S0), (ms_token S0), (ms_number S0), (ms_readPoints S0), (ms_readHome S0), (ms_readMen S0), (ms_otherOne S0), (ms_otherKind S0), (ms_items S0), (ms_lanes S0), (ms_sizes S0), (ms_firms S0), (ms_kinds S0), (ms_now S0), (ms_before S0), b4, (ms_tape S0), (ms_trace S0), (ms_readFirms S0), (ms_readKinds S0), (ms_readAt S0), (ms_rows S0), (ms_bests S0))) H locs → lv_has ls 4 [(0, .ref h), (1, .int i1), (2, .int ((32 : Int32) * i1))] → W p l e q_X8_image s m args below meth c H locs 0 0 Q (F0 m 66 ls []) := by
        intro b4 H locs ls hM Y hl
        replace hM := hX4 _ hM
        refine r_iconst (pc' := 67) X (0 : Int32) 41 rfl rfl rfl ?_
        refine r_istore_n (pc' := 68) (L' := [(3, .int (0 : Int32)), (0, .ref h), (1, .int i1), (2, .int ((32 : Int32) * i1))]) X hl rfl 42 rfl rfl (by decide) rfl (fun ls hl => ?_)
        obtain ⟨LL5, hL5, hne5, hX5⟩ := mL hM hne
        have KX5 : ∀ (b5 : (Nat → Int32)) (H : Heap) (locs : List Loc) (ls : Array Slot), some b5 = LL5 → rY G A s (wMS G h h_items h_lanes h_sizes h_firms h_kinds h_now h_before h_images h_tape h_trace h_readFirms h_readKinds h_readAt h_rows h_bests ((ms_status S0), (ms_points S0), (ms_home S0), (ms_men S0), (ms_hasTable S0), (ms_acts S0), (ms_imaged S0), (ms_length S0), (ms_fault S0), (ms_traced S0), (ms_spot S0), (ms_begins S0), (ms_token S0), (ms_number S0), (ms_readPoints S0), (ms_readHome S0), (ms_readMen S0), (ms_otherOne S0), (ms_otherKind S0), (ms_items S0), (ms_lanes S0), (ms_sizes S0), (ms_firms S0), (ms_kinds S0), (ms_now S0), (ms_before S0), b5, (ms_tape S0), (ms_trace S0), (ms_readFirms S0), (ms_readKinds S0), (ms_readAt S0), (ms_rows S0), (ms_bests S0))) H locs → lv_has ls 4 [(0, .ref h), (1, .int i1), (2, .int ((32 : Int32) * i1))] → W p l e q_X8_image s m args below meth c H locs 0 0 Q (F0 m 97 ls []) := by
          intro b5 H locs ls hM Y hl
          replace hM := hX5 _ hM
          refine r_aload_n (pc' := 98) X hl 0 rfl rfl 60 rfl rfl ?_
          refine r_get (pc' := 101) (v := .ref h_images) X Y 61 rfl rfl fRX8_31 0 rfl rfl ?_
          refine r_iload_n (pc' := 102) X hl 2 rfl rfl 62 rfl rfl ?_
          refine r_bipush (pc' := 104) X (20 : Int32) 63 rfl rfl rfl ?_
          refine r_iadd (pc' := 105) X 64 rfl rfl ?_
          refine r_aload_n (pc' := 106) X hl 0 rfl rfl 65 rfl rfl ?_
          refine r_get (pc' := 109) (v := .int (ms_points S0)) X Y 66 rfl rfl fRX8_153 0 rfl rfl ?_
          obtain ⟨g6, hM⟩ := mG hM hne
          refine r_iast (pc' := 110) (ws' := wMS G h h_items h_lanes h_sizes h_firms h_kinds h_now h_before h_images h_tape h_trace h_readFirms h_readKinds h_readAt h_rows h_bests ((ms_status S0), (ms_points S0), (ms_home S0), (ms_men S0), (ms_hasTable S0), (ms_acts S0), (ms_imaged S0), (ms_length S0), (ms_fault S0), (ms_traced S0), (ms_spot S0), (ms_begins S0), (ms_token S0), (ms_number S0), (ms_readPoints S0), (ms_readHome S0), (ms_readMen S0), (ms_otherOne S0), (ms_otherKind S0), (ms_items S0), (ms_lanes S0), (ms_sizes S0), (ms_firms S0), (ms_kinds S0), (ms_now S0), (ms_before S0), (upd b5 ((((32 : Int32) * i1) + (20 : Int32))).toNatClampNeg (ms_points S0)), (ms_tape S0), (ms_trace S0), (ms_readFirms S0), (ms_readKinds S0), (ms_readAt S0), (ms_rows S0), (ms_bests S0))) X Y 67 rfl rfl 8 rfl (vin g6) rfl (fun H locs Y => ?_)
          refine r_aload_n (pc' := 111) X hl 0 rfl rfl 68 rfl rfl ?_
          refine r_get (pc' := 114) (v := .ref h_images) X Y 69 rfl rfl fRX8_31 0 rfl rfl ?_
          refine r_iload_n (pc' := 115) X hl 2 rfl rfl 70 rfl rfl ?_
          refine r_bipush (pc' := 117) X (21 : Int32) 71 rfl rfl rfl ?_
          refine r_iadd (pc' := 118) X 72 rfl rfl ?_
          refine r_aload_n (pc' := 119) X hl 0 rfl rfl 73 rfl rfl ?_
          refine r_get (pc' := 122) (v := .int (ms_home S0)) X Y 74 rfl rfl fRX8_156 0 rfl rfl ?_
          obtain ⟨g7, hM⟩ := mG hM hne
          refine r_iast (pc' := 123) (ws' := wMS G h h_items h_lanes h_sizes h_firms h_kinds h_now h_before h_images h_tape h_trace h_readFirms h_readKinds h_readAt h_rows h_bests ((ms_status S0), (ms_points S0), (ms_home S0), (ms_men S0), (ms_hasTable S0), (ms_acts S0), (ms_imaged S0), (ms_length S0), (ms_fault S0), (ms_traced S0), (ms_spot S0), (ms_begins S0), (ms_token S0), (ms_number S0), (ms_readPoints S0), (ms_readHome S0), (ms_readMen S0), (ms_otherOne S0), (ms_otherKind S0), (ms_items S0), (ms_lanes S0), (ms_sizes S0), (ms_firms S0), (ms_kinds S0), (ms_now S0), (ms_before S0), (upd (upd b5 ((((32 : Int32) * i1) + (20 : Int32))).toNatClampNeg (ms_points S0)) ((((32 : Int32) * i1) + (21 : Int32))).toNatClampNeg (ms_home S0)), (ms_tape S0), (ms_trace S0), (ms_readFirms S0), (ms_readKinds S0), (ms_readAt S0), (ms_rows S0), (ms_bests S0))) X Y 75 rfl rfl 8 rfl (vin g7) rfl (fun H locs Y => ?_)
          refine r_aload_n (pc' := 124) X hl 0 rfl rfl 76 rfl rfl ?_
          refine r_get (pc' := 127) (v := .ref h_images) X Y 77 rfl rfl fRX8_31 0 rfl rfl ?_
          refine r_iload_n (pc' := 128) X hl 2 rfl rfl 78 rfl rfl ?_
          refine r_bipush (pc' := 130) X (22 : Int32) 79 rfl rfl rfl ?_
          refine r_iadd (pc' := 131) X 80 rfl rfl ?_
          refine r_aload_n (pc' := 132) X hl 0 rfl rfl 81 rfl rfl ?_
          refine r_get (pc' := 135) (v := .int (ms_men S0)) X Y 82 rfl rfl fRX8_159 0 rfl rfl ?_
          obtain ⟨g8, hM⟩ := mG hM hne
          refine r_iast (pc' := 136) (ws' := wMS G h h_items h_lanes h_sizes h_firms h_kinds h_now h_before h_images h_tape h_trace h_readFirms h_readKinds h_readAt h_rows h_bests ((ms_status S0), (ms_points S0), (ms_home S0), (ms_men S0), (ms_hasTable S0), (ms_acts S0), (ms_imaged S0), (ms_length S0), (ms_fault S0), (ms_traced S0), (ms_spot S0), (ms_begins S0), (ms_token S0), (ms_number S0), (ms_readPoints S0), (ms_readHome S0), (ms_readMen S0), (ms_otherOne S0), (ms_otherKind S0), (ms_items S0), (ms_lanes S0), (ms_sizes S0), (ms_firms S0), (ms_kinds S0), (ms_now S0), (ms_before S0), (upd (upd (upd b5 ((((32 : Int32) * i1) + (20 : Int32))).toNatClampNeg (ms_points S0)) ((((32 : Int32) * i1) + (21 : Int32))).toNatClampNeg (ms_home S0)) ((((32 : Int32) * i1) + (22 : Int32))).toNatClampNeg (ms_men S0)), (ms_tape S0), (ms_trace S0), (ms_readFirms S0), (ms_readKinds S0), (ms_readAt S0), (ms_rows S0), (ms_bests S0))) X Y 83 rfl rfl 8 rfl (vin g8) rfl (fun H locs Y => ?_)
          refine r_aload_n (pc' := 137) X hl 0 rfl rfl 84 rfl rfl ?_
          refine r_dup (pc' := 138) X 85 rfl rfl rfl ?_
          refine r_get (pc' := 141) (v := .int (ms_imaged S0)) X Y 86 rfl rfl fRX8_299 0 rfl rfl ?_
          refine r_iconst (pc' := 142) X (1 : Int32) 87 rfl rfl rfl ?_
          refine r_iload_n (pc' := 143) X hl 1 rfl rfl 88 rfl rfl ?_
          refine r_ishl (pc' := 144) X 89 rfl rfl ?_
          refine r_ior (pc' := 145) X 90 rfl rfl ?_
          refine r_put (pc' := 148) (ws' := wMS G h h_items h_lanes h_sizes h_firms h_kinds h_now h_before h_images h_tape h_trace h_readFirms h_readKinds h_readAt h_rows h_bests ((ms_status S0), (ms_points S0), (ms_home S0), (ms_men S0), (ms_hasTable S0), (ms_acts S0), ((ms_imaged S0) ||| ((1 : Int32) <<< (i1 &&& 31))), (ms_length S0), (ms_fault S0), (ms_traced S0), (ms_spot S0), (ms_begins S0), (ms_token S0), (ms_number S0), (ms_readPoints S0), (ms_readHome S0), (ms_readMen S0), (ms_otherOne S0), (ms_otherKind S0), (ms_items S0), (ms_lanes S0), (ms_sizes S0), (ms_firms S0), (ms_kinds S0), (ms_now S0), (ms_before S0), (upd (upd (upd b5 ((((32 : Int32) * i1) + (20 : Int32))).toNatClampNeg (ms_points S0)) ((((32 : Int32) * i1) + (21 : Int32))).toNatClampNeg (ms_home S0)) ((((32 : Int32) * i1) + (22 : Int32))).toNatClampNeg (ms_men S0)), (ms_tape S0), (ms_trace S0), (ms_readFirms S0), (ms_readKinds S0), (ms_readAt S0), (ms_rows S0), (ms_bests S0))) X Y 91 rfl rfl fRX8_299 0 rfl rfl rfl (Nat.le_of_ble_eq_true rfl) rfl (fun H locs Y => ?_)
          refine r_iconst (pc' := 149) X (1 : Int32) 92 rfl rfl rfl ?_
          exact RT ((1 : Int32), ((ms_status S0), (ms_points S0), (ms_home S0), (ms_men S0), (ms_hasTable S0), (ms_acts S0), ((ms_imaged S0) ||| ((1 : Int32) <<< (i1 &&& 31))), (ms_length S0), (ms_fault S0), (ms_traced S0), (ms_spot S0), (ms_begins S0), (ms_token S0), (ms_number S0), (ms_readPoints S0), (ms_readHome S0), (ms_readMen S0), (ms_otherOne S0), (ms_otherKind S0), (ms_items S0), (ms_lanes S0), (ms_sizes S0), (ms_firms S0), (ms_kinds S0), (ms_now S0), (ms_before S0), (upd (upd (upd b5 ((((32 : Int32) * i1) + (20 : Int32))).toNatClampNeg (ms_points S0)) ((((32 : Int32) * i1) + (21 : Int32))).toNatClampNeg (ms_home S0)) ((((32 : Int32) * i1) + (22 : Int32))).toNatClampNeg (ms_men S0)), (ms_tape S0), (ms_trace S0), (ms_readFirms S0), (ms_readKinds S0), (ms_readAt S0), (ms_rows S0), (ms_bests S0))) _ _ _ _ _ hM (Or.inl ⟨rfl, rfl, _, rfl⟩) (X.d (k := 93) rfl) Y
        refine lp_rule (I := fun (st5 : Int32 × (Nat → Int32)) => ∀ (H : Heap) (locs : List Loc) (ls : Array Slot), rY G A s (wMS G h h_items h_lanes h_sizes h_firms h_kinds h_now h_before h_images h_tape h_trace h_readFirms h_readKinds h_readAt h_rows h_bests ((ms_status S0), (ms_points S0), (ms_home S0), (ms_men S0), (ms_hasTable S0), (ms_acts S0), (ms_imaged S0), (ms_length S0), (ms_fault S0), (ms_traced S0), (ms_spot S0), (ms_begins S0), (ms_token S0), (ms_number S0), (ms_readPoints S0), (ms_readHome S0), (ms_readMen S0), (ms_otherOne S0), (ms_otherKind S0), (ms_items S0), (ms_lanes S0), (ms_sizes S0), (ms_firms S0), (ms_kinds S0), (ms_now S0), (ms_before S0), st5.2, (ms_tape S0), (ms_trace S0), (ms_readFirms S0), (ms_readKinds S0), (ms_readAt S0), (ms_rows S0), (ms_bests S0))) H locs → lv_has ls 4 [(0, .ref h), (1, .int i1), (2, .int ((32 : Int32) * i1)), (3, .int st5.1)] → W p l e q_X8_image s m args below meth c H locs 0 0 Q (F0 m 68 ls [])) hne5 (fun rec5 st5 IH5 hM => ?_) _ _ hL5 _ _ _ Y (lv_sub hl [1, 2, 3, 0] rfl)
        intro H locs ls Y hl
        refine r_iload_n (pc' := 69) X hl 3 rfl rfl 43 rfl rfl ?_
        refine r_bipush (pc' := 71) X (12 : Int32) 44 rfl rfl rfl ?_
        refine r_icmp_ge (pc' := 74) X 97 45 rfl rfl (by decide) (fun c9 => ?_) (fun c9 => ?_)
        · replace hM := mI hM c9
          exact KX5 _ _ _ _ hM Y (lv_sub hl [0, 1, 2] rfl)
        · replace hM := mE hM c9
          refine r_aload_n (pc' := 75) X hl 0 rfl rfl 46 rfl rfl ?_
          refine r_get (pc' := 78) (v := .ref h_images) X Y 47 rfl rfl fRX8_31 0 rfl rfl ?_
          refine r_iload_n (pc' := 79) X hl 2 rfl rfl 48 rfl rfl ?_
          refine r_bipush (pc' := 81) X (8 : Int32) 49 rfl rfl rfl ?_
          refine r_iadd (pc' := 82) X 50 rfl rfl ?_
          refine r_iload_n (pc' := 83) X hl 3 rfl rfl 51 rfl rfl ?_
          refine r_iadd (pc' := 84) X 52 rfl rfl ?_
          refine r_aload_n (pc' := 85) X hl 0 rfl rfl 53 rfl rfl ?_
          refine r_get (pc' := 88) (v := .ref h_now) X Y 54 rfl rfl fRX8_25 0 rfl rfl ?_
          refine r_iload_n (pc' := 89) X hl 3 rfl rfl 55 rfl rfl ?_
          obtain ⟨g10, hM⟩ := mG hM hne5
          refine r_iald (pc' := 90) X Y 56 rfl rfl 6 rfl (vin g10) ?_
          obtain ⟨g11, hM⟩ := mG hM hne5
          refine r_iast (pc' := 91) (ws' := wMS G h h_items h_lanes h_sizes h_firms h_kinds h_now h_before h_images h_tape h_trace h_readFirms h_readKinds h_readAt h_rows h_bests ((ms_status S0), (ms_points S0), (ms_home S0), (ms_men S0), (ms_hasTable S0), (ms_acts S0), (ms_imaged S0), (ms_length S0), (ms_fault S0), (ms_traced S0), (ms_spot S0), (ms_begins S0), (ms_token S0), (ms_number S0), (ms_readPoints S0), (ms_readHome S0), (ms_readMen S0), (ms_otherOne S0), (ms_otherKind S0), (ms_items S0), (ms_lanes S0), (ms_sizes S0), (ms_firms S0), (ms_kinds S0), (ms_now S0), (ms_before S0), (upd st5.2 (((((32 : Int32) * i1) + (8 : Int32)) + st5.1)).toNatClampNeg ((ms_now S0) (st5.1).toNatClampNeg)), (ms_tape S0), (ms_trace S0), (ms_readFirms S0), (ms_readKinds S0), (ms_readAt S0), (ms_rows S0), (ms_bests S0))) X Y 57 rfl rfl 8 rfl (vin g11) rfl (fun H locs Y => ?_)
          refine r_iinc (pc' := 94) (L' := [(3, .int (st5.1 + (1 : Int32))), (0, .ref h), (1, .int i1), (2, .int ((32 : Int32) * i1))]) X (st5.1 + (1 : Int32)) hl 3 rfl rfl 58 rfl rfl (by decide) rfl (fun ls hl => ?_)
          refine r_goto X 68 59 rfl (by decide) ?_
          exact IH5 _ hM _ _ _ Y (lv_sub hl [1, 2, 3, 0] rfl)
      refine lp_rule (I := fun (st4 : Int32 × (Nat → Int32)) => ∀ (H : Heap) (locs : List Loc) (ls : Array Slot), rY G A s (wMS G h h_items h_lanes h_sizes h_firms h_kinds h_now h_before h_images h_tape h_trace h_readFirms h_readKinds h_readAt h_rows h_bests ((ms_status S0), (ms_points S0), (ms_home S0), (ms_men S0), (ms_hasTable S0), (ms_acts S0), (ms_imaged S0), (ms_length S0), (ms_fault S0), (ms_traced S0), (ms_spot S0), (ms_begins S0), (ms_token S0), (ms_number S0), (ms_readPoints S0), (ms_readHome S0), (ms_readMen S0), (ms_otherOne S0), (ms_otherKind S0), (ms_items S0), (ms_lanes S0), (ms_sizes S0), (ms_firms S0), (ms_kinds S0), (ms_now S0), (ms_before S0), st4.2, (ms_tape S0), (ms_trace S0), (ms_readFirms S0), (ms_readKinds S0), (ms_readAt S0), (ms_rows S0), (ms_bests S0))) H locs → lv_has ls 4 [(0, .ref h), (1, .int i1), (2, .int ((32 : Int32) * i1)), (3, .int st4.1)] → W p l e q_X8_image s m args below meth c H locs 0 0 Q (F0 m 30 ls [])) hne4 (fun rec4 st4 IH4 hM => ?_) _ _ hL4 _ _ _ Y (lv_sub hl [2, 3, 1, 0] rfl)
      intro H locs ls Y hl
      refine r_iload_n (pc' := 31) X hl 3 rfl rfl 19 rfl rfl ?_
      refine r_bipush (pc' := 33) X (8 : Int32) 20 rfl rfl rfl ?_
      refine r_icmp_ge (pc' := 36) X 66 21 rfl rfl (by decide) (fun c12 => ?_) (fun c12 => ?_)
      · replace hM := mI hM c12
        exact KX4 _ _ _ _ hM Y (lv_sub hl [0, 1, 2] rfl)
      · replace hM := mE hM c12
        refine r_aload_n (pc' := 37) X hl 0 rfl rfl 22 rfl rfl ?_
        refine r_get (pc' := 40) (v := .ref h_images) X Y 23 rfl rfl fRX8_31 0 rfl rfl ?_
        refine r_iload_n (pc' := 41) X hl 2 rfl rfl 24 rfl rfl ?_
        refine r_iload_n (pc' := 42) X hl 3 rfl rfl 25 rfl rfl ?_
        refine r_iadd (pc' := 43) X 26 rfl rfl ?_
        refine r_bipush (pc' := 45) X (10 : Int32) 27 rfl rfl rfl ?_
        refine r_aload_n (pc' := 46) X hl 0 rfl rfl 28 rfl rfl ?_
        refine r_get (pc' := 49) (v := .ref h_kinds) X Y 29 rfl rfl fRX8_22 0 rfl rfl ?_
        refine r_iload_n (pc' := 50) X hl 3 rfl rfl 30 rfl rfl ?_
        obtain ⟨g13, hM⟩ := mG hM hne4
        refine r_iald (pc' := 51) X Y 31 rfl rfl 5 rfl (vin g13) ?_
        refine r_imul (pc' := 52) X 32 rfl rfl ?_
        refine r_aload_n (pc' := 53) X hl 0 rfl rfl 33 rfl rfl ?_
        refine r_get (pc' := 56) (v := .ref h_firms) X Y 34 rfl rfl fRX8_19 0 rfl rfl ?_
        refine r_iload_n (pc' := 57) X hl 3 rfl rfl 35 rfl rfl ?_
        refine r_iald (pc' := 58) X Y 36 rfl rfl 4 rfl (vin g13) ?_
        refine r_iadd (pc' := 59) X 37 rfl rfl ?_
        obtain ⟨g14, hM⟩ := mG hM hne4
        refine r_iast (pc' := 60) (ws' := wMS G h h_items h_lanes h_sizes h_firms h_kinds h_now h_before h_images h_tape h_trace h_readFirms h_readKinds h_readAt h_rows h_bests ((ms_status S0), (ms_points S0), (ms_home S0), (ms_men S0), (ms_hasTable S0), (ms_acts S0), (ms_imaged S0), (ms_length S0), (ms_fault S0), (ms_traced S0), (ms_spot S0), (ms_begins S0), (ms_token S0), (ms_number S0), (ms_readPoints S0), (ms_readHome S0), (ms_readMen S0), (ms_otherOne S0), (ms_otherKind S0), (ms_items S0), (ms_lanes S0), (ms_sizes S0), (ms_firms S0), (ms_kinds S0), (ms_now S0), (ms_before S0), (upd st4.2 ((((32 : Int32) * i1) + st4.1)).toNatClampNeg (((10 : Int32) * ((ms_kinds S0) (st4.1).toNatClampNeg)) + ((ms_firms S0) (st4.1).toNatClampNeg))), (ms_tape S0), (ms_trace S0), (ms_readFirms S0), (ms_readKinds S0), (ms_readAt S0), (ms_rows S0), (ms_bests S0))) X Y 38 rfl rfl 8 rfl (vin g14) rfl (fun H locs Y => ?_)
        refine r_iinc (pc' := 63) (L' := [(3, .int (st4.1 + (1 : Int32))), (0, .ref h), (1, .int i1), (2, .int ((32 : Int32) * i1))]) X (st4.1 + (1 : Int32)) hl 3 rfl rfl 39 rfl rfl (by decide) rfl (fun ls hl => ?_)
        refine r_goto X 30 40 rfl (by decide) ?_
        exact IH4 _ hM _ _ _ Y (lv_sub hl [1, 2, 3, 0] rfl)
    · replace hM := mI hM c3
      refine r_ldc (pc' := 22) X mw688 11 rfl rfl ?_
      exact RT ((-1000002 : Int32), S0) _ _ _ _ _ hM (Or.inl ⟨rfl, rfl, _, rfl⟩) (X.d (k := 12) rfl) Y
  · replace hM := mI hM c2
    refine r_ldc (pc' := 12) X mw546 6 rfl rfl ?_
    exact RT ((-1000001 : Int32), S0) _ _ _ _ _ hM (Or.inl ⟨rfl, rfl, _, rfl⟩) (X.d (k := 7) rfl) Y

def M_X8_restore (S0 : MS) (i1 : Int32) : Option (Int32 × MS) :=
  ((M_X8_in ((i1).toInt64) (0 : Int64) (1 : Int64)).bind (fun u1 => (if u1 = 0 then (some ((-1000001 : Int32), S0)) else ((M_X8_has (ms_imaged S0) i1).bind (fun u3 => (if u3 = 0 then (some ((-1000002 : Int32), S0)) else ((lp (σ := Int32 × (Nat → Int32) × (Nat → Int32)) (β := (Nat → Int32) × (Nat → Int32)) (fun rec5 st5 => (if (8 : Int32) ≤ st5.1 then (some (st5.2.1, st5.2.2)) else (if inb (((32 : Int32) * i1) + st5.1) 64 = true then (if inb st5.1 8 = true then (rec5 ((st5.1 + (1 : Int32)), (upd st5.2.1 (st5.1).toNatClampNeg (((ms_images S0) ((((32 : Int32) * i1) + st5.1)).toNatClampNeg) - ((ms_images S0) ((((32 : Int32) * i1) + st5.1)).toNatClampNeg) / (10 : Int32) * (10 : Int32))), (upd st5.2.2 (st5.1).toNatClampNeg (((ms_images S0) ((((32 : Int32) * i1) + st5.1)).toNatClampNeg) / (10 : Int32))))) else none) else none))) 1000000 ((0 : Int32), (ms_firms S0), (ms_kinds S0))).bind (fun b5 => ((lp (σ := Int32 × (Nat → Int32)) (β := (Nat → Int32)) (fun rec6 st6 => (if (12 : Int32) ≤ st6.1 then (some st6.2) else (if inb ((((32 : Int32) * i1) + (8 : Int32)) + st6.1) 64 = true then (if inb st6.1 12 = true then (rec6 ((st6.1 + (1 : Int32)), (upd st6.2 (st6.1).toNatClampNeg ((ms_images S0) (((((32 : Int32) * i1) + (8 : Int32)) + st6.1)).toNatClampNeg)))) else none) else none))) 1000000 ((0 : Int32), (ms_now S0))).bind (fun b6 => (if inb (((32 : Int32) * i1) + (20 : Int32)) 64 = true then (if inb (((32 : Int32) * i1) + (21 : Int32)) 64 = true then (if inb (((32 : Int32) * i1) + (22 : Int32)) 64 = true then (some ((1 : Int32), ((ms_status S0), ((ms_images S0) ((((32 : Int32) * i1) + (20 : Int32))).toNatClampNeg), ((ms_images S0) ((((32 : Int32) * i1) + (21 : Int32))).toNatClampNeg), ((ms_images S0) ((((32 : Int32) * i1) + (22 : Int32))).toNatClampNeg), (ms_hasTable S0), (0 : Int32), (ms_imaged S0), (ms_length S0), (ms_fault S0), (ms_traced S0), (ms_spot S0), (ms_begins S0), (ms_token S0), (ms_number S0), (ms_readPoints S0), (ms_readHome S0), (ms_readMen S0), (ms_otherOne S0), (ms_otherKind S0), (ms_items S0), (ms_lanes S0), (ms_sizes S0), b5.1, b5.2, b6, (ms_before S0), (ms_images S0), (ms_tape S0), (ms_trace S0), (ms_readFirms S0), (ms_readKinds S0), (ms_readAt S0), (ms_rows S0), (ms_bests S0)))) else none) else none) else none)))))))))))
def q_X8_restore : Room := { frames := 2, cells := 0, slots := 0, locals := 85 }
set_option maxHeartbeats 4000000 in
set_option maxRecDepth 100000 in
theorem c_X8_restore (l : Launch) (G : gT) (h h_items h_lanes h_sizes h_firms h_kinds h_now h_before h_images h_tape h_trace h_readFirms h_readKinds h_readAt h_rows h_bests : Nat) (S0 : MS) (i1 : Int32) : CT l G yX8_restore cX8_restore 4 (some .int) q_X8_restore [.ref h, .int i1] (wMS G h h_items h_lanes h_sizes h_firms h_kinds h_now h_before h_images h_tape h_trace h_readFirms h_readKinds h_readAt h_rows h_bests S0) (M_X8_restore S0 i1) (fun u => some (.int u.1)) (fun u => wMS G h h_items h_lanes h_sizes h_firms h_kinds h_now h_before h_images h_tape h_trace h_readFirms h_readKinds h_readAt h_rows h_bests u.2) := by
  refine CT.of (P := PX8_restore) (by decide) dPX8_restore (Nat.le_of_ble_eq_true rfl) ?_
  intro p e s m args below meth c A Q ls hne X RT Y hl
  have hl : lv_has ls 4 [(0, .ref h), (1, .int i1)] := hl
  generalize hM : M_X8_restore S0 i1 = MM at hne RT
  unfold M_X8_restore at hM
  refine r_iload_n (pc' := 1) X hl 1 rfl rfl 0 rfl rfl ?_
  refine r_i2l (pc' := 2) X 1 rfl rfl ?_
  refine r_lconst (pc' := 3) X (0 : Int64) 2 rfl rfl rfl ?_
  refine r_lconst (pc' := 4) X (1 : Int64) 3 rfl rfl rfl ?_
  refine r_callS0 (pc' := 7) (As := [.long (i1).toInt64, .long (0 : Int64), .long (1 : Int64)]) (rest := []) X Y 4 rfl rfl mRX8_66 (c_X8_in l G ((i1).toInt64) (0 : Int64) (1 : Int64)) (mB hM hne) rfl [] rfl rfl rfl (Nat.le_of_ble_eq_true rfl) ⟨rfl, rfl⟩ ⟨Nat.le_of_ble_eq_true rfl, Nat.le_of_ble_eq_true rfl⟩ ⟨Nat.zero_le _, Nat.zero_le _⟩ hl.1 (st' := fun u1 => [.int u1]) (fun _ => rfl) (fun u1 H locs huu1 Y => ?_)
  replace hM := mS hM huu1
  refine r_if_ne (pc' := 10) X 13 5 rfl rfl (by decide) (fun c2 => ?_) (fun c2 => ?_)
  · replace hM := mE hM c2
    refine r_aload_n (pc' := 14) X hl 0 rfl rfl 8 rfl rfl ?_
    refine r_get (pc' := 17) (v := .int (ms_imaged S0)) X Y 9 rfl rfl fRX8_299 0 rfl rfl ?_
    refine r_iload_n (pc' := 18) X hl 1 rfl rfl 10 rfl rfl ?_
    refine r_callS0 (pc' := 21) (As := [.int (ms_imaged S0), .int i1]) (rest := []) X Y 11 rfl rfl mRX8_302 (c_X8_has l G (ms_imaged S0) i1) (mB hM hne) rfl [] rfl rfl rfl (Nat.le_of_ble_eq_true rfl) ⟨rfl, rfl⟩ ⟨Nat.le_of_ble_eq_true rfl, Nat.le_of_ble_eq_true rfl⟩ ⟨Nat.zero_le _, Nat.zero_le _⟩ hl.1 (st' := fun u3 => [.int u3]) (fun _ => rfl) (fun u3 H locs huu3 Y => ?_)
    replace hM := mS hM huu3
    refine r_if_ne (pc' := 24) X 27 12 rfl rfl (by decide) (fun c4 => ?_) (fun c4 => ?_)
    · replace hM := mE hM c4
      refine r_bipush (pc' := 29) X (32 : Int32) 15 rfl rfl rfl ?_
      refine r_iload_n (pc' := 30) X hl 1 rfl rfl 16 rfl rfl ?_
      refine r_imul (pc' := 31) X 17 rfl rfl ?_
      refine r_istore_n (pc' := 32) (L' := [(2, .int ((32 : Int32) * i1)), (0, .ref h), (1, .int i1)]) X hl rfl 18 rfl rfl (by decide) rfl (fun ls hl => ?_)
      refine r_iconst (pc' := 33) X (0 : Int32) 19 rfl rfl rfl ?_
      refine r_istore_n (pc' := 34) (L' := [(3, .int (0 : Int32)), (2, .int ((32 : Int32) * i1)), (0, .ref h), (1, .int i1)]) X hl rfl 20 rfl rfl (by decide) rfl (fun ls hl => ?_)
      obtain ⟨LL5, hL5, hne5, hX5⟩ := mL hM hne
      have KX5 : ∀ (b5 : (Nat → Int32) × (Nat → Int32)) (H : Heap) (locs : List Loc) (ls : Array Slot), some b5 = LL5 → rY G A s (wMS G h h_items h_lanes h_sizes h_firms h_kinds h_now h_before h_images h_tape h_trace h_readFirms h_readKinds h_readAt h_rows h_bests ((ms_status S0), (ms_points S0), (ms_home S0), (ms_men S0), (ms_hasTable S0), (ms_acts S0), (ms_imaged S0), (ms_length S0), (ms_fault S0), (ms_traced S0), (ms_spot S0), (ms_begins S0), (ms_token S0), (ms_number S0), (ms_readPoints S0), (ms_readHome S0), (ms_readMen S0), (ms_otherOne S0), (ms_otherKind S0), (ms_items S0), (ms_lanes S0), (ms_sizes S0), b5.1, b5.2, (ms_now S0), (ms_before S0), (ms_images S0), (ms_tape S0), (ms_trace S0), (ms_readFirms S0), (ms_readKinds S0), (ms_readAt S0), (ms_rows S0), (ms_bests S0))) H locs → lv_has ls 4 [(0, .ref h), (2, .int ((32 : Int32) * i1))] → W p l e q_X8_restore s m args below meth c H locs 0 0 Q (F0 m 80 ls []) := by
        intro b5 H locs ls hM Y hl
        replace hM := hX5 _ hM
        refine r_iconst (pc' := 81) X (0 : Int32) 50 rfl rfl rfl ?_
        refine r_istore_n (pc' := 82) (L' := [(3, .int (0 : Int32)), (0, .ref h), (2, .int ((32 : Int32) * i1))]) X hl rfl 51 rfl rfl (by decide) rfl (fun ls hl => ?_)
        obtain ⟨LL6, hL6, hne6, hX6⟩ := mL hM hne
        have KX6 : ∀ (b6 : (Nat → Int32)) (H : Heap) (locs : List Loc) (ls : Array Slot), some b6 = LL6 → rY G A s (wMS G h h_items h_lanes h_sizes h_firms h_kinds h_now h_before h_images h_tape h_trace h_readFirms h_readKinds h_readAt h_rows h_bests ((ms_status S0), (ms_points S0), (ms_home S0), (ms_men S0), (ms_hasTable S0), (ms_acts S0), (ms_imaged S0), (ms_length S0), (ms_fault S0), (ms_traced S0), (ms_spot S0), (ms_begins S0), (ms_token S0), (ms_number S0), (ms_readPoints S0), (ms_readHome S0), (ms_readMen S0), (ms_otherOne S0), (ms_otherKind S0), (ms_items S0), (ms_lanes S0), (ms_sizes S0), b5.1, b5.2, b6, (ms_before S0), (ms_images S0), (ms_tape S0), (ms_trace S0), (ms_readFirms S0), (ms_readKinds S0), (ms_readAt S0), (ms_rows S0), (ms_bests S0))) H locs → lv_has ls 4 [(0, .ref h), (2, .int ((32 : Int32) * i1))] → W p l e q_X8_restore s m args below meth c H locs 0 0 Q (F0 m 111 ls []) := by
          intro b6 H locs ls hM Y hl
          replace hM := hX6 _ hM
          refine r_aload_n (pc' := 112) X hl 0 rfl rfl 69 rfl rfl ?_
          refine r_aload_n (pc' := 113) X hl 0 rfl rfl 70 rfl rfl ?_
          refine r_get (pc' := 116) (v := .ref h_images) X Y 71 rfl rfl fRX8_31 0 rfl rfl ?_
          refine r_iload_n (pc' := 117) X hl 1 rfl rfl 72 rfl rfl ?_
          refine r_bipush (pc' := 119) X (20 : Int32) 73 rfl rfl rfl ?_
          refine r_iadd (pc' := 120) X 74 rfl rfl ?_
          obtain ⟨g7, hM⟩ := mG hM hne
          refine r_iald (pc' := 121) X Y 75 rfl rfl 8 rfl (vin g7) ?_
          refine r_put (pc' := 124) (ws' := wMS G h h_items h_lanes h_sizes h_firms h_kinds h_now h_before h_images h_tape h_trace h_readFirms h_readKinds h_readAt h_rows h_bests ((ms_status S0), ((ms_images S0) ((((32 : Int32) * i1) + (20 : Int32))).toNatClampNeg), (ms_home S0), (ms_men S0), (ms_hasTable S0), (ms_acts S0), (ms_imaged S0), (ms_length S0), (ms_fault S0), (ms_traced S0), (ms_spot S0), (ms_begins S0), (ms_token S0), (ms_number S0), (ms_readPoints S0), (ms_readHome S0), (ms_readMen S0), (ms_otherOne S0), (ms_otherKind S0), (ms_items S0), (ms_lanes S0), (ms_sizes S0), b5.1, b5.2, b6, (ms_before S0), (ms_images S0), (ms_tape S0), (ms_trace S0), (ms_readFirms S0), (ms_readKinds S0), (ms_readAt S0), (ms_rows S0), (ms_bests S0))) X Y 76 rfl rfl fRX8_153 0 rfl rfl rfl (Nat.le_of_ble_eq_true rfl) rfl (fun H locs Y => ?_)
          refine r_aload_n (pc' := 125) X hl 0 rfl rfl 77 rfl rfl ?_
          refine r_aload_n (pc' := 126) X hl 0 rfl rfl 78 rfl rfl ?_
          refine r_get (pc' := 129) (v := .ref h_images) X Y 79 rfl rfl fRX8_31 0 rfl rfl ?_
          refine r_iload_n (pc' := 130) X hl 1 rfl rfl 80 rfl rfl ?_
          refine r_bipush (pc' := 132) X (21 : Int32) 81 rfl rfl rfl ?_
          refine r_iadd (pc' := 133) X 82 rfl rfl ?_
          obtain ⟨g8, hM⟩ := mG hM hne
          refine r_iald (pc' := 134) X Y 83 rfl rfl 8 rfl (vin g8) ?_
          refine r_put (pc' := 137) (ws' := wMS G h h_items h_lanes h_sizes h_firms h_kinds h_now h_before h_images h_tape h_trace h_readFirms h_readKinds h_readAt h_rows h_bests ((ms_status S0), ((ms_images S0) ((((32 : Int32) * i1) + (20 : Int32))).toNatClampNeg), ((ms_images S0) ((((32 : Int32) * i1) + (21 : Int32))).toNatClampNeg), (ms_men S0), (ms_hasTable S0), (ms_acts S0), (ms_imaged S0), (ms_length S0), (ms_fault S0), (ms_traced S0), (ms_spot S0), (ms_begins S0), (ms_token S0), (ms_number S0), (ms_readPoints S0), (ms_readHome S0), (ms_readMen S0), (ms_otherOne S0), (ms_otherKind S0), (ms_items S0), (ms_lanes S0), (ms_sizes S0), b5.1, b5.2, b6, (ms_before S0), (ms_images S0), (ms_tape S0), (ms_trace S0), (ms_readFirms S0), (ms_readKinds S0), (ms_readAt S0), (ms_rows S0), (ms_bests S0))) X Y 84 rfl rfl fRX8_156 0 rfl rfl rfl (Nat.le_of_ble_eq_true rfl) rfl (fun H locs Y => ?_)
          refine r_aload_n (pc' := 138) X hl 0 rfl rfl 85 rfl rfl ?_
          refine r_aload_n (pc' := 139) X hl 0 rfl rfl 86 rfl rfl ?_
          refine r_get (pc' := 142) (v := .ref h_images) X Y 87 rfl rfl fRX8_31 0 rfl rfl ?_
          refine r_iload_n (pc' := 143) X hl 1 rfl rfl 88 rfl rfl ?_
          refine r_bipush (pc' := 145) X (22 : Int32) 89 rfl rfl rfl ?_
          refine r_iadd (pc' := 146) X 90 rfl rfl ?_
          obtain ⟨g9, hM⟩ := mG hM hne
          refine r_iald (pc' := 147) X Y 91 rfl rfl 8 rfl (vin g9) ?_
          refine r_put (pc' := 150) (ws' := wMS G h h_items h_lanes h_sizes h_firms h_kinds h_now h_before h_images h_tape h_trace h_readFirms h_readKinds h_readAt h_rows h_bests ((ms_status S0), ((ms_images S0) ((((32 : Int32) * i1) + (20 : Int32))).toNatClampNeg), ((ms_images S0) ((((32 : Int32) * i1) + (21 : Int32))).toNatClampNeg), ((ms_images S0) ((((32 : Int32) * i1) + (22 : Int32))).toNatClampNeg), (ms_hasTable S0), (ms_acts S0), (ms_imaged S0), (ms_length S0), (ms_fault S0), (ms_traced S0), (ms_spot S0), (ms_begins S0), (ms_token S0), (ms_number S0), (ms_readPoints S0), (ms_readHome S0), (ms_readMen S0), (ms_otherOne S0), (ms_otherKind S0), (ms_items S0), (ms_lanes S0), (ms_sizes S0), b5.1, b5.2, b6, (ms_before S0), (ms_images S0), (ms_tape S0), (ms_trace S0), (ms_readFirms S0), (ms_readKinds S0), (ms_readAt S0), (ms_rows S0), (ms_bests S0))) X Y 92 rfl rfl fRX8_159 0 rfl rfl rfl (Nat.le_of_ble_eq_true rfl) rfl (fun H locs Y => ?_)
          refine r_aload_n (pc' := 151) X hl 0 rfl rfl 93 rfl rfl ?_
          refine r_iconst (pc' := 152) X (0 : Int32) 94 rfl rfl rfl ?_
          refine r_put (pc' := 155) (ws' := wMS G h h_items h_lanes h_sizes h_firms h_kinds h_now h_before h_images h_tape h_trace h_readFirms h_readKinds h_readAt h_rows h_bests ((ms_status S0), ((ms_images S0) ((((32 : Int32) * i1) + (20 : Int32))).toNatClampNeg), ((ms_images S0) ((((32 : Int32) * i1) + (21 : Int32))).toNatClampNeg), ((ms_images S0) ((((32 : Int32) * i1) + (22 : Int32))).toNatClampNeg), (ms_hasTable S0), (0 : Int32), (ms_imaged S0), (ms_length S0), (ms_fault S0), (ms_traced S0), (ms_spot S0), (ms_begins S0), (ms_token S0), (ms_number S0), (ms_readPoints S0), (ms_readHome S0), (ms_readMen S0), (ms_otherOne S0), (ms_otherKind S0), (ms_items S0), (ms_lanes S0), (ms_sizes S0), b5.1, b5.2, b6, (ms_before S0), (ms_images S0), (ms_tape S0), (ms_trace S0), (ms_readFirms S0), (ms_readKinds S0), (ms_readAt S0), (ms_rows S0), (ms_bests S0))) X Y 95 rfl rfl fRX8_166 0 rfl rfl rfl (Nat.le_of_ble_eq_true rfl) rfl (fun H locs Y => ?_)
          refine r_iconst (pc' := 156) X (1 : Int32) 96 rfl rfl rfl ?_
          exact RT ((1 : Int32), ((ms_status S0), ((ms_images S0) ((((32 : Int32) * i1) + (20 : Int32))).toNatClampNeg), ((ms_images S0) ((((32 : Int32) * i1) + (21 : Int32))).toNatClampNeg), ((ms_images S0) ((((32 : Int32) * i1) + (22 : Int32))).toNatClampNeg), (ms_hasTable S0), (0 : Int32), (ms_imaged S0), (ms_length S0), (ms_fault S0), (ms_traced S0), (ms_spot S0), (ms_begins S0), (ms_token S0), (ms_number S0), (ms_readPoints S0), (ms_readHome S0), (ms_readMen S0), (ms_otherOne S0), (ms_otherKind S0), (ms_items S0), (ms_lanes S0), (ms_sizes S0), b5.1, b5.2, b6, (ms_before S0), (ms_images S0), (ms_tape S0), (ms_trace S0), (ms_readFirms S0), (ms_readKinds S0), (ms_readAt S0), (ms_rows S0), (ms_bests S0))) _ _ _ _ _ hM (Or.inl ⟨rfl, rfl, _, rfl⟩) (X.d (k := 97) rfl) Y
        refine lp_rule (I := fun (st6 : Int32 × (Nat → Int32)) => ∀ (H : Heap) (locs : List Loc) (ls : Array Slot), rY G A s (wMS G h h_items h_lanes h_sizes h_firms h_kinds h_now h_before h_images h_tape h_trace h_readFirms h_readKinds h_readAt h_rows h_bests ((ms_status S0), (ms_points S0), (ms_home S0), (ms_men S0), (ms_hasTable S0), (ms_acts S0), (ms_imaged S0), (ms_length S0), (ms_fault S0), (ms_traced S0), (ms_spot S0), (ms_begins S0), (ms_token S0), (ms_number S0), (ms_readPoints S0), (ms_readHome S0), (ms_readMen S0), (ms_otherOne S0), (ms_otherKind S0), (ms_items S0), (ms_lanes S0), (ms_sizes S0), b5.1, b5.2, st6.2, (ms_before S0), (ms_images S0), (ms_tape S0), (ms_trace S0), (ms_readFirms S0), (ms_readKinds S0), (ms_readAt S0), (ms_rows S0), (ms_bests S0))) H locs → lv_has ls 4 [(0, .ref h), (2, .int ((32 : Int32) * i1)), (3, .int st6.1)] → W p l e q_X8_restore s m args below meth c H locs 0 0 Q (F0 m 82 ls [])) hne6 (fun rec6 st6 IH6 hM => ?_) _ _ hL6 _ _ _ Y (lv_sub hl [1, 2, 0] rfl)
        intro H locs ls Y hl
        refine r_iload_n (pc' := 83) X hl 2 rfl rfl 52 rfl rfl ?_
        refine r_bipush (pc' := 85) X (12 : Int32) 53 rfl rfl rfl ?_
        refine r_icmp_ge (pc' := 88) X 111 54 rfl rfl (by decide) (fun c10 => ?_) (fun c10 => ?_)
        · replace hM := mI hM c10
          exact KX6 _ _ _ _ hM Y (lv_sub hl [0, 1] rfl)
        · replace hM := mE hM c10
          refine r_aload_n (pc' := 89) X hl 0 rfl rfl 55 rfl rfl ?_
          refine r_get (pc' := 92) (v := .ref h_now) X Y 56 rfl rfl fRX8_25 0 rfl rfl ?_
          refine r_iload_n (pc' := 93) X hl 2 rfl rfl 57 rfl rfl ?_
          refine r_aload_n (pc' := 94) X hl 0 rfl rfl 58 rfl rfl ?_
          refine r_get (pc' := 97) (v := .ref h_images) X Y 59 rfl rfl fRX8_31 0 rfl rfl ?_
          refine r_iload_n (pc' := 98) X hl 1 rfl rfl 60 rfl rfl ?_
          refine r_bipush (pc' := 100) X (8 : Int32) 61 rfl rfl rfl ?_
          refine r_iadd (pc' := 101) X 62 rfl rfl ?_
          refine r_iload_n (pc' := 102) X hl 2 rfl rfl 63 rfl rfl ?_
          refine r_iadd (pc' := 103) X 64 rfl rfl ?_
          obtain ⟨g11, hM⟩ := mG hM hne6
          refine r_iald (pc' := 104) X Y 65 rfl rfl 8 rfl (vin g11) ?_
          obtain ⟨g12, hM⟩ := mG hM hne6
          refine r_iast (pc' := 105) (ws' := wMS G h h_items h_lanes h_sizes h_firms h_kinds h_now h_before h_images h_tape h_trace h_readFirms h_readKinds h_readAt h_rows h_bests ((ms_status S0), (ms_points S0), (ms_home S0), (ms_men S0), (ms_hasTable S0), (ms_acts S0), (ms_imaged S0), (ms_length S0), (ms_fault S0), (ms_traced S0), (ms_spot S0), (ms_begins S0), (ms_token S0), (ms_number S0), (ms_readPoints S0), (ms_readHome S0), (ms_readMen S0), (ms_otherOne S0), (ms_otherKind S0), (ms_items S0), (ms_lanes S0), (ms_sizes S0), b5.1, b5.2, (upd st6.2 (st6.1).toNatClampNeg ((ms_images S0) (((((32 : Int32) * i1) + (8 : Int32)) + st6.1)).toNatClampNeg)), (ms_before S0), (ms_images S0), (ms_tape S0), (ms_trace S0), (ms_readFirms S0), (ms_readKinds S0), (ms_readAt S0), (ms_rows S0), (ms_bests S0))) X Y 66 rfl rfl 6 rfl (vin g12) rfl (fun H locs Y => ?_)
          refine r_iinc (pc' := 108) (L' := [(3, .int (st6.1 + (1 : Int32))), (0, .ref h), (2, .int ((32 : Int32) * i1))]) X (st6.1 + (1 : Int32)) hl 2 rfl rfl 67 rfl rfl (by decide) rfl (fun ls hl => ?_)
          refine r_goto X 82 68 rfl (by decide) ?_
          exact IH6 _ hM _ _ _ Y (lv_sub hl [1, 2, 0] rfl)
      refine lp_rule (I := fun (st5 : Int32 × (Nat → Int32) × (Nat → Int32)) => ∀ (H : Heap) (locs : List Loc) (ls : Array Slot), rY G A s (wMS G h h_items h_lanes h_sizes h_firms h_kinds h_now h_before h_images h_tape h_trace h_readFirms h_readKinds h_readAt h_rows h_bests ((ms_status S0), (ms_points S0), (ms_home S0), (ms_men S0), (ms_hasTable S0), (ms_acts S0), (ms_imaged S0), (ms_length S0), (ms_fault S0), (ms_traced S0), (ms_spot S0), (ms_begins S0), (ms_token S0), (ms_number S0), (ms_readPoints S0), (ms_readHome S0), (ms_readMen S0), (ms_otherOne S0), (ms_otherKind S0), (ms_items S0), (ms_lanes S0), (ms_sizes S0), st5.2.1, st5.2.2, (ms_now S0), (ms_before S0), (ms_images S0), (ms_tape S0), (ms_trace S0), (ms_readFirms S0), (ms_readKinds S0), (ms_readAt S0), (ms_rows S0), (ms_bests S0))) H locs → lv_has ls 4 [(0, .ref h), (2, .int ((32 : Int32) * i1)), (3, .int st5.1)] → W p l e q_X8_restore s m args below meth c H locs 0 0 Q (F0 m 34 ls [])) hne5 (fun rec5 st5 IH5 hM => ?_) _ _ hL5 _ _ _ Y (lv_sub hl [2, 1, 0] rfl)
      intro H locs ls Y hl
      refine r_iload_n (pc' := 35) X hl 2 rfl rfl 21 rfl rfl ?_
      refine r_bipush (pc' := 37) X (8 : Int32) 22 rfl rfl rfl ?_
      refine r_icmp_ge (pc' := 40) X 80 23 rfl rfl (by decide) (fun c13 => ?_) (fun c13 => ?_)
      · replace hM := mI hM c13
        exact KX5 _ _ _ _ hM Y (lv_sub hl [0, 1] rfl)
      · replace hM := mE hM c13
        refine r_aload_n (pc' := 41) X hl 0 rfl rfl 24 rfl rfl ?_
        refine r_get (pc' := 44) (v := .ref h_kinds) X Y 25 rfl rfl fRX8_22 0 rfl rfl ?_
        refine r_iload_n (pc' := 45) X hl 2 rfl rfl 26 rfl rfl ?_
        refine r_aload_n (pc' := 46) X hl 0 rfl rfl 27 rfl rfl ?_
        refine r_get (pc' := 49) (v := .ref h_images) X Y 28 rfl rfl fRX8_31 0 rfl rfl ?_
        refine r_iload_n (pc' := 50) X hl 1 rfl rfl 29 rfl rfl ?_
        refine r_iload_n (pc' := 51) X hl 2 rfl rfl 30 rfl rfl ?_
        refine r_iadd (pc' := 52) X 31 rfl rfl ?_
        obtain ⟨g14, hM⟩ := mG hM hne5
        refine r_iald (pc' := 53) X Y 32 rfl rfl 8 rfl (vin g14) ?_
        refine r_bipush (pc' := 55) X (10 : Int32) 33 rfl rfl rfl ?_
        refine r_idiv (pc' := 56) X 34 rfl rfl (by decide) ?_
        obtain ⟨g15, hM⟩ := mG hM hne5
        refine r_iast (pc' := 57) (ws' := wMS G h h_items h_lanes h_sizes h_firms h_kinds h_now h_before h_images h_tape h_trace h_readFirms h_readKinds h_readAt h_rows h_bests ((ms_status S0), (ms_points S0), (ms_home S0), (ms_men S0), (ms_hasTable S0), (ms_acts S0), (ms_imaged S0), (ms_length S0), (ms_fault S0), (ms_traced S0), (ms_spot S0), (ms_begins S0), (ms_token S0), (ms_number S0), (ms_readPoints S0), (ms_readHome S0), (ms_readMen S0), (ms_otherOne S0), (ms_otherKind S0), (ms_items S0), (ms_lanes S0), (ms_sizes S0), st5.2.1, (upd st5.2.2 (st5.1).toNatClampNeg (((ms_images S0) ((((32 : Int32) * i1) + st5.1)).toNatClampNeg) / (10 : Int32))), (ms_now S0), (ms_before S0), (ms_images S0), (ms_tape S0), (ms_trace S0), (ms_readFirms S0), (ms_readKinds S0), (ms_readAt S0), (ms_rows S0), (ms_bests S0))) X Y 35 rfl rfl 5 rfl (vin g15) rfl (fun H locs Y => ?_)
        refine r_aload_n (pc' := 58) X hl 0 rfl rfl 36 rfl rfl ?_
        refine r_get (pc' := 61) (v := .ref h_firms) X Y 37 rfl rfl fRX8_19 0 rfl rfl ?_
        refine r_iload_n (pc' := 62) X hl 2 rfl rfl 38 rfl rfl ?_
        refine r_aload_n (pc' := 63) X hl 0 rfl rfl 39 rfl rfl ?_
        refine r_get (pc' := 66) (v := .ref h_images) X Y 40 rfl rfl fRX8_31 0 rfl rfl ?_
        refine r_iload_n (pc' := 67) X hl 1 rfl rfl 41 rfl rfl ?_
        refine r_iload_n (pc' := 68) X hl 2 rfl rfl 42 rfl rfl ?_
        refine r_iadd (pc' := 69) X 43 rfl rfl ?_
        refine r_iald (pc' := 70) X Y 44 rfl rfl 8 rfl (vin g14) ?_
        refine r_bipush (pc' := 72) X (10 : Int32) 45 rfl rfl rfl ?_
        refine r_irem (pc' := 73) X 46 rfl rfl (by decide) ?_
        refine r_iast (pc' := 74) (ws' := wMS G h h_items h_lanes h_sizes h_firms h_kinds h_now h_before h_images h_tape h_trace h_readFirms h_readKinds h_readAt h_rows h_bests ((ms_status S0), (ms_points S0), (ms_home S0), (ms_men S0), (ms_hasTable S0), (ms_acts S0), (ms_imaged S0), (ms_length S0), (ms_fault S0), (ms_traced S0), (ms_spot S0), (ms_begins S0), (ms_token S0), (ms_number S0), (ms_readPoints S0), (ms_readHome S0), (ms_readMen S0), (ms_otherOne S0), (ms_otherKind S0), (ms_items S0), (ms_lanes S0), (ms_sizes S0), (upd st5.2.1 (st5.1).toNatClampNeg (((ms_images S0) ((((32 : Int32) * i1) + st5.1)).toNatClampNeg) - ((ms_images S0) ((((32 : Int32) * i1) + st5.1)).toNatClampNeg) / (10 : Int32) * (10 : Int32))), (upd st5.2.2 (st5.1).toNatClampNeg (((ms_images S0) ((((32 : Int32) * i1) + st5.1)).toNatClampNeg) / (10 : Int32))), (ms_now S0), (ms_before S0), (ms_images S0), (ms_tape S0), (ms_trace S0), (ms_readFirms S0), (ms_readKinds S0), (ms_readAt S0), (ms_rows S0), (ms_bests S0))) X Y 47 rfl rfl 4 rfl (vin g15) rfl (fun H locs Y => ?_)
        refine r_iinc (pc' := 77) (L' := [(3, .int (st5.1 + (1 : Int32))), (0, .ref h), (2, .int ((32 : Int32) * i1))]) X (st5.1 + (1 : Int32)) hl 2 rfl rfl 48 rfl rfl (by decide) rfl (fun ls hl => ?_)
        refine r_goto X 34 49 rfl (by decide) ?_
        exact IH5 _ hM _ _ _ Y (lv_sub hl [1, 2, 0] rfl)
    · replace hM := mI hM c4
      refine r_ldc (pc' := 26) X mw688 13 rfl rfl ?_
      exact RT ((-1000002 : Int32), S0) _ _ _ _ _ hM (Or.inl ⟨rfl, rfl, _, rfl⟩) (X.d (k := 14) rfl) Y
  · replace hM := mI hM c2
    refine r_ldc (pc' := 12) X mw546 6 rfl rfl ?_
    exact RT ((-1000001 : Int32), S0) _ _ _ _ _ hM (Or.inl ⟨rfl, rfl, _, rfl⟩) (X.d (k := 7) rfl) Y

def M_X8_kind (S0 : MS) (i1 : Int32) : Option (Int32) :=
  ((M_X8_isMan S0 i1).bind (fun u1 => (if u1 = 0 then (some (-1000001 : Int32)) else (if inb i1 8 = true then (some ((ms_kinds S0) (i1).toNatClampNeg)) else none))))
def q_X8_kind : Room := { frames := 3, cells := 0, slots := 0, locals := 106 }
set_option maxHeartbeats 4000000 in
set_option maxRecDepth 100000 in
theorem c_X8_kind (l : Launch) (G : gT) (h h_items h_lanes h_sizes h_firms h_kinds h_now h_before h_images h_tape h_trace h_readFirms h_readKinds h_readAt h_rows h_bests : Nat) (S0 : MS) (i1 : Int32) : CT l G yX8_kind cX8_kind 2 (some .int) q_X8_kind [.ref h, .int i1] (wMS G h h_items h_lanes h_sizes h_firms h_kinds h_now h_before h_images h_tape h_trace h_readFirms h_readKinds h_readAt h_rows h_bests S0) (M_X8_kind S0 i1) (fun u => some (.int u)) (fun u => wMS G h h_items h_lanes h_sizes h_firms h_kinds h_now h_before h_images h_tape h_trace h_readFirms h_readKinds h_readAt h_rows h_bests S0) := by
  refine CT.of (P := PX8_kind) (by decide) dPX8_kind (Nat.le_of_ble_eq_true rfl) ?_
  intro p e s m args below meth c A Q ls hne X RT Y hl
  have hl : lv_has ls 2 [(0, .ref h), (1, .int i1)] := hl
  generalize hM : M_X8_kind S0 i1 = MM at hne RT
  unfold M_X8_kind at hM
  refine r_aload_n (pc' := 1) X hl 0 rfl rfl 0 rfl rfl ?_
  refine r_iload_n (pc' := 2) X hl 1 rfl rfl 1 rfl rfl ?_
  refine r_callV0 (pc' := 5) (As := [.int i1]) (rest := []) X Y 2 rfl rfl mRX8_240 (c_X8_isMan l G h h_items h_lanes h_sizes h_firms h_kinds h_now h_before h_images h_tape h_trace h_readFirms h_readKinds h_readAt h_rows h_bests S0 i1) (mB hM hne) 0 rfl rfl [0, 1, 2, 3, 4, 5, 6, 7, 8, 9, 10, 11, 12, 13, 14, 15] rfl rfl rfl (Nat.le_of_ble_eq_true rfl) ⟨rfl, rfl⟩ ⟨Nat.le_of_ble_eq_true rfl, Nat.le_of_ble_eq_true rfl⟩ ⟨Nat.zero_le _, Nat.zero_le _⟩ hl.1 (st' := fun u1 => [.int u1]) (fun _ => rfl) (fun u1 H locs huu1 Y => ?_)
  replace hM := mS hM huu1
  refine r_if_eq (pc' := 8) X 17 3 rfl rfl (by decide) (fun c2 => ?_) (fun c2 => ?_)
  · replace hM := mI hM c2
    refine r_ldc (pc' := 19) X mw546 9 rfl rfl ?_
    exact RT (-1000001 : Int32) _ _ _ _ _ hM (Or.inl ⟨rfl, rfl, _, rfl⟩) (X.d (k := 10) rfl) Y
  · replace hM := mE hM c2
    refine r_aload_n (pc' := 9) X hl 0 rfl rfl 4 rfl rfl ?_
    refine r_get (pc' := 12) (v := .ref h_kinds) X Y 5 rfl rfl fRX8_22 0 rfl rfl ?_
    refine r_iload_n (pc' := 13) X hl 1 rfl rfl 6 rfl rfl ?_
    obtain ⟨g3, hM⟩ := mG hM hne
    refine r_iald (pc' := 14) X Y 7 rfl rfl 5 rfl (vin g3) ?_
    refine r_goto X 19 8 rfl (by decide) ?_
    exact RT ((ms_kinds S0) (i1).toNatClampNeg) _ _ _ _ _ hM (Or.inl ⟨rfl, rfl, _, rfl⟩) (X.d (k := 10) rfl) Y

def M_X8_as (S0 : MS) (i1 : Int32) (i2 : Int32) : Option (Int32 × MS) :=
  ((M_X8_isMan S0 i1).bind (fun u1 => (if u1 = 0 then (some ((-1000001 : Int32), S0)) else ((M_X8_in ((i2).toInt64) (0 : Int64) (5 : Int64)).bind (fun u3 => (if u3 = 0 then (some ((-1000001 : Int32), S0)) else (if inb i1 8 = true then (jn (σ := Int32) (fun v6 => (if v6 = 0 then ((M_X8_found S0 (3 : Int32)).bind (fun u8 => (some (u8.1, u8.2)))) else ((M_X8_well S0 i1).bind (fun u9 => (some (u9.1, u9.2)))))) (fun J6 => (jn (σ := Unit) (fun v10 => (J6 (1 : Int32))) (fun J10 => (if i2 = 0 then (J10 ()) else (if i2 = ((ms_kinds S0) (i1).toNatClampNeg) then (J10 ()) else (jn (σ := Unit) (fun v13 => (if i2 = (4 : Int32) then (if ((ms_kinds S0) (i1).toNatClampNeg) = (5 : Int32) then (J10 ()) else (J6 (0 : Int32))) else (J6 (0 : Int32)))) (fun J13 => (if i2 = (1 : Int32) then (if ((ms_kinds S0) (i1).toNatClampNeg) < (4 : Int32) then (J10 ()) else (J13 ())) else (J13 ())))))))))) else none)))))))
def q_X8_as : Room := { frames := 3, cells := 0, slots := 0, locals := 106 }
set_option maxHeartbeats 4000000 in
set_option maxRecDepth 100000 in
theorem c_X8_as (l : Launch) (G : gT) (h h_items h_lanes h_sizes h_firms h_kinds h_now h_before h_images h_tape h_trace h_readFirms h_readKinds h_readAt h_rows h_bests : Nat) (S0 : MS) (i1 : Int32) (i2 : Int32) : CT l G yX8_as cX8_as 5 (some .int) q_X8_as [.ref h, .int i1, .int i2] (wMS G h h_items h_lanes h_sizes h_firms h_kinds h_now h_before h_images h_tape h_trace h_readFirms h_readKinds h_readAt h_rows h_bests S0) (M_X8_as S0 i1 i2) (fun u => some (.int u.1)) (fun u => wMS G h h_items h_lanes h_sizes h_firms h_kinds h_now h_before h_images h_tape h_trace h_readFirms h_readKinds h_readAt h_rows h_bests u.2) := by
  refine CT.of (P := PX8_as) (by decide) dPX8_as (Nat.le_of_ble_eq_true rfl) ?_
  intro p e s m args below meth c A Q ls hne X RT Y hl
  have hl : lv_has ls 5 [(0, .ref h), (1, .int i1), (2, .int i2)] := hl
  generalize hM : M_X8_as S0 i1 i2 = MM at hne RT
  unfold M_X8_as at hM
  refine r_aload_n (pc' := 1) X hl 0 rfl rfl 0 rfl rfl ?_
  refine r_iload_n (pc' := 2) X hl 1 rfl rfl 1 rfl rfl ?_
  refine r_callV0 (pc' := 5) (As := [.int i1]) (rest := []) X Y 2 rfl rfl mRX8_240 (c_X8_isMan l G h h_items h_lanes h_sizes h_firms h_kinds h_now h_before h_images h_tape h_trace h_readFirms h_readKinds h_readAt h_rows h_bests S0 i1) (mB hM hne) 0 rfl rfl [0, 1, 2, 3, 4, 5, 6, 7, 8, 9, 10, 11, 12, 13, 14, 15] rfl rfl rfl (Nat.le_of_ble_eq_true rfl) ⟨rfl, rfl⟩ ⟨Nat.le_of_ble_eq_true rfl, Nat.le_of_ble_eq_true rfl⟩ ⟨Nat.zero_le _, Nat.zero_le _⟩ hl.1 (st' := fun u1 => [.int u1]) (fun _ => rfl) (fun u1 H locs huu1 Y => ?_)
  replace hM := mS hM huu1
  refine r_if_eq (pc' := 8) X 20 3 rfl rfl (by decide) (fun c2 => ?_) (fun c2 => ?_)
  · replace hM := mI hM c2
    refine r_ldc (pc' := 22) X mw546 10 rfl rfl ?_
    exact RT ((-1000001 : Int32), S0) _ _ _ _ _ hM (Or.inl ⟨rfl, rfl, _, rfl⟩) (X.d (k := 11) rfl) Y
  · replace hM := mE hM c2
    refine r_iload_n (pc' := 9) X hl 2 rfl rfl 4 rfl rfl ?_
    refine r_i2l (pc' := 10) X 5 rfl rfl ?_
    refine r_lconst (pc' := 11) X (0 : Int64) 6 rfl rfl rfl ?_
    refine r_ldc2 (pc' := 14) X mw792 7 rfl rfl ?_
    refine r_callS0 (pc' := 17) (As := [.long (i2).toInt64, .long (0 : Int64), .long (5 : Int64)]) (rest := []) X Y 8 rfl rfl mRX8_66 (c_X8_in l G ((i2).toInt64) (0 : Int64) (5 : Int64)) (mB hM hne) rfl [] rfl rfl rfl (Nat.le_of_ble_eq_true rfl) ⟨rfl, rfl⟩ ⟨Nat.le_of_ble_eq_true rfl, Nat.le_of_ble_eq_true rfl⟩ ⟨Nat.zero_le _, Nat.zero_le _⟩ hl.1 (st' := fun u3 => [.int u3]) (fun _ => rfl) (fun u3 H locs huu3 Y => ?_)
    replace hM := mS hM huu3
    refine r_if_ne (pc' := 20) X 23 9 rfl rfl (by decide) (fun c4 => ?_) (fun c4 => ?_)
    · replace hM := mE hM c4
      refine r_aload_n (pc' := 24) X hl 0 rfl rfl 12 rfl rfl ?_
      refine r_get (pc' := 27) (v := .ref h_kinds) X Y 13 rfl rfl fRX8_22 0 rfl rfl ?_
      refine r_iload_n (pc' := 28) X hl 1 rfl rfl 14 rfl rfl ?_
      obtain ⟨g5, hM⟩ := mG hM hne
      refine r_iald (pc' := 29) X Y 15 rfl rfl 5 rfl (vin g5) ?_
      refine r_istore_n (pc' := 30) (L' := [(3, .int ((ms_kinds S0) (i1).toNatClampNeg)), (0, .ref h), (1, .int i1), (2, .int i2)]) X hl rfl 16 rfl rfl (by decide) rfl (fun ls hl => ?_)
      refine r_iload_n (pc' := 31) X hl 3 rfl rfl 17 rfl rfl ?_
      obtain ⟨J6, hJ6, hM⟩ := mJ hM
      have KJ6 : ∀ (v6 : Int32) (H : Heap) (locs : List Loc) (ls : Array Slot), J6 v6 = MM → rY G A s (wMS G h h_items h_lanes h_sizes h_firms h_kinds h_now h_before h_images h_tape h_trace h_readFirms h_readKinds h_readAt h_rows h_bests S0) H locs → lv_has ls 5 [(0, .ref h), (1, .int i1)] → W p l e q_X8_as s m args below meth c H locs 0 0 Q (F0 m 64 ls [.int v6]) := by
        intro v6 H locs ls hM Y hl
        replace hM := (hJ6 _).symm.trans hM
        refine r_istore (pc' := 66) (L' := [(4, .int v6), (0, .ref h), (1, .int i1)]) X hl 37 rfl rfl (by decide) rfl (fun ls hl => ?_)
        refine r_iload (pc' := 68) X hl 0 rfl 38 rfl rfl ?_
        refine r_if_eq (pc' := 71) X 79 39 rfl rfl (by decide) (fun c7 => ?_) (fun c7 => ?_)
        · replace hM := mI hM c7
          refine r_aload_n (pc' := 80) X hl 1 rfl rfl 44 rfl rfl ?_
          refine r_iconst (pc' := 81) X (3 : Int32) 45 rfl rfl rfl ?_
          refine r_callV (pc' := 84) (As := [.int (3 : Int32)]) (rest := []) X Y 46 rfl rfl mRX8_77 (c_X8_found l G h h_items h_lanes h_sizes h_firms h_kinds h_now h_before h_images h_tape h_trace h_readFirms h_readKinds h_readAt h_rows h_bests S0 (3 : Int32)) (mB hM hne) 0 rfl rfl [0, 1, 2, 3, 4, 5, 6, 7, 8, 9, 10, 11, 12, 13, 14, 15] [] [0, 1, 2, 3, 4, 5, 6, 7, 8, 9, 10, 11, 12, 13, 14, 15] rfl rfl ⟨rfl, rfl, rfl⟩ rfl (w2 := fun u8 => wMS G h h_items h_lanes h_sizes h_firms h_kinds h_now h_before h_images h_tape h_trace h_readFirms h_readKinds h_readAt h_rows h_bests u8.2) (fun _ => rfl) rfl (Nat.le_of_ble_eq_true rfl) ⟨rfl, rfl⟩ ⟨Nat.le_of_ble_eq_true rfl, Nat.le_of_ble_eq_true rfl⟩ ⟨Nat.zero_le _, Nat.zero_le _⟩ hl.1 (st' := fun u8 => [.int u8.1]) (fun _ => rfl) (fun u8 H locs huu8 Y => ?_)
          replace hM := mS hM huu8
          exact RT (u8.1, u8.2) _ _ _ _ _ hM (Or.inl ⟨rfl, rfl, _, rfl⟩) (X.d (k := 47) rfl) Y
        · replace hM := mE hM c7
          refine r_aload_n (pc' := 72) X hl 1 rfl rfl 40 rfl rfl ?_
          refine r_iload_n (pc' := 73) X hl 2 rfl rfl 41 rfl rfl ?_
          refine r_callV (pc' := 76) (As := [.int i1]) (rest := []) X Y 42 rfl rfl mRX8_81 (c_X8_well l G h h_items h_lanes h_sizes h_firms h_kinds h_now h_before h_images h_tape h_trace h_readFirms h_readKinds h_readAt h_rows h_bests S0 i1) (mB hM hne) 0 rfl rfl [0, 1, 2, 3, 4, 5, 6, 7, 8, 9, 10, 11, 12, 13, 14, 15] [] [0, 1, 2, 3, 4, 5, 6, 7, 8, 9, 10, 11, 12, 13, 14, 15] rfl rfl ⟨rfl, rfl, rfl⟩ rfl (w2 := fun u9 => wMS G h h_items h_lanes h_sizes h_firms h_kinds h_now h_before h_images h_tape h_trace h_readFirms h_readKinds h_readAt h_rows h_bests u9.2) (fun _ => rfl) rfl (Nat.le_of_ble_eq_true rfl) ⟨rfl, rfl⟩ ⟨Nat.le_of_ble_eq_true rfl, Nat.le_of_ble_eq_true rfl⟩ ⟨Nat.zero_le _, Nat.zero_le _⟩ hl.1 (st' := fun u9 => [.int u9.1]) (fun _ => rfl) (fun u9 H locs huu9 Y => ?_)
          replace hM := mS hM huu9
          refine r_goto X 84 43 rfl (by decide) ?_
          exact RT (u9.1, u9.2) _ _ _ _ _ hM (Or.inl ⟨rfl, rfl, _, rfl⟩) (X.d (k := 47) rfl) Y
      obtain ⟨J10, hJ10, hM⟩ := mJ hM
      have KJ10 : ∀ (v10 : Unit) (H : Heap) (locs : List Loc) (ls : Array Slot), J10 v10 = MM → rY G A s (wMS G h h_items h_lanes h_sizes h_firms h_kinds h_now h_before h_images h_tape h_trace h_readFirms h_readKinds h_readAt h_rows h_bests S0) H locs → lv_has ls 5 [(0, .ref h), (1, .int i1)] → W p l e q_X8_as s m args below meth c H locs 0 0 Q (F0 m 59 ls []) := by
        intro v10 H locs ls hM Y hl
        replace hM := (hJ10 _).symm.trans hM
        refine r_iconst (pc' := 60) X (1 : Int32) 34 rfl rfl rfl ?_
        refine r_goto X 64 35 rfl (by decide) ?_
        exact KJ6 (1 : Int32) _ _ _ hM Y (lv_sub hl [0, 1] rfl)
      refine r_if_eq (pc' := 34) X 59 18 rfl rfl (by decide) (fun c11 => ?_) (fun c11 => ?_)
      · replace hM := mI hM c11
        exact KJ10 () _ _ _ hM Y (lv_sub hl [1, 2] rfl)
      · replace hM := mE hM c11
        refine r_iload_n (pc' := 35) X hl 3 rfl rfl 19 rfl rfl ?_
        refine r_iload_n (pc' := 36) X hl 0 rfl rfl 20 rfl rfl ?_
        refine r_icmp_eq (pc' := 39) X 59 21 rfl rfl (by decide) (fun c12 => ?_) (fun c12 => ?_)
        · replace hM := mI hM c12
          exact KJ10 () _ _ _ hM Y (lv_sub hl [1, 2] rfl)
        · replace hM := mE hM c12
          refine r_iload_n (pc' := 40) X hl 3 rfl rfl 22 rfl rfl ?_
          refine r_iconst (pc' := 41) X (1 : Int32) 23 rfl rfl rfl ?_
          obtain ⟨J13, hJ13, hM⟩ := mJ hM
          have KJ13 : ∀ (v13 : Unit) (H : Heap) (locs : List Loc) (ls : Array Slot), J13 v13 = MM → rY G A s (wMS G h h_items h_lanes h_sizes h_firms h_kinds h_now h_before h_images h_tape h_trace h_readFirms h_readKinds h_readAt h_rows h_bests S0) H locs → lv_has ls 5 [(0, .ref h), (1, .int i1), (2, .int i2), (3, .int ((ms_kinds S0) (i1).toNatClampNeg))] → W p l e q_X8_as s m args below meth c H locs 0 0 Q (F0 m 49 ls []) := by
            intro v13 H locs ls hM Y hl
            replace hM := (hJ13 _).symm.trans hM
            refine r_iload_n (pc' := 50) X hl 2 rfl rfl 28 rfl rfl ?_
            refine r_iconst (pc' := 51) X (4 : Int32) 29 rfl rfl rfl ?_
            refine r_icmp_ne (pc' := 54) X 63 30 rfl rfl (by decide) (fun c14 => ?_) (fun c14 => ?_)
            · replace hM := mE hM c14
              refine r_iconst (pc' := 64) X (0 : Int32) 36 rfl rfl rfl ?_
              exact KJ6 (0 : Int32) _ _ _ hM Y (lv_sub hl [0, 1] rfl)
            · replace hM := mI hM c14
              refine r_iload_n (pc' := 55) X hl 3 rfl rfl 31 rfl rfl ?_
              refine r_iconst (pc' := 56) X (5 : Int32) 32 rfl rfl rfl ?_
              refine r_icmp_ne (pc' := 59) X 63 33 rfl rfl (by decide) (fun c15 => ?_) (fun c15 => ?_)
              · replace hM := mE hM c15
                refine r_iconst (pc' := 64) X (0 : Int32) 36 rfl rfl rfl ?_
                exact KJ6 (0 : Int32) _ _ _ hM Y (lv_sub hl [0, 1] rfl)
              · replace hM := mI hM c15
                exact KJ10 () _ _ _ hM Y (lv_sub hl [0, 1] rfl)
          refine r_icmp_ne (pc' := 44) X 49 24 rfl rfl (by decide) (fun c16 => ?_) (fun c16 => ?_)
          · replace hM := mE hM c16
            exact KJ13 () _ _ _ hM Y (lv_sub hl [1, 2, 3, 0] rfl)
          · replace hM := mI hM c16
            refine r_iload_n (pc' := 45) X hl 0 rfl rfl 25 rfl rfl ?_
            refine r_iconst (pc' := 46) X (4 : Int32) 26 rfl rfl rfl ?_
            refine r_icmp_lt (pc' := 49) X 59 27 rfl rfl (by decide) (fun c17 => ?_) (fun c17 => ?_)
            · replace hM := mI hM c17
              exact KJ10 () _ _ _ hM Y (lv_sub hl [1, 2] rfl)
            · replace hM := mE hM c17
              exact KJ13 () _ _ _ hM Y (lv_sub hl [1, 2, 3, 0] rfl)
    · replace hM := mI hM c4
      refine r_ldc (pc' := 22) X mw546 10 rfl rfl ?_
      exact RT ((-1000001 : Int32), S0) _ _ _ _ _ hM (Or.inl ⟨rfl, rfl, _, rfl⟩) (X.d (k := 11) rfl) Y

def M_X8_leaves (S0 : MS) (i1 : Int32) : Option (MS) :=
  (if (16 : Int32) ≤ (ms_traced S0) then (some S0) else (if inb (ms_traced S0) 16 = true then (some ((ms_status S0), (ms_points S0), (ms_home S0), (ms_men S0), (ms_hasTable S0), (ms_acts S0), (ms_imaged S0), (ms_length S0), (ms_fault S0), ((ms_traced S0) + (1 : Int32)), (ms_spot S0), (ms_begins S0), (ms_token S0), (ms_number S0), (ms_readPoints S0), (ms_readHome S0), (ms_readMen S0), (ms_otherOne S0), (ms_otherKind S0), (ms_items S0), (ms_lanes S0), (ms_sizes S0), (ms_firms S0), (ms_kinds S0), (ms_now S0), (ms_before S0), (ms_images S0), (ms_tape S0), (upd (ms_trace S0) ((ms_traced S0)).toNatClampNeg i1), (ms_readFirms S0), (ms_readKinds S0), (ms_readAt S0), (ms_rows S0), (ms_bests S0))) else none))
def q_X8_leaves : Room := { frames := 1, cells := 0, slots := 0, locals := 60 }
set_option maxHeartbeats 4000000 in
set_option maxRecDepth 100000 in
theorem c_X8_leaves (l : Launch) (G : gT) (h h_items h_lanes h_sizes h_firms h_kinds h_now h_before h_images h_tape h_trace h_readFirms h_readKinds h_readAt h_rows h_bests : Nat) (S0 : MS) (i1 : Int32) : CT l G yX8_leaves cX8_leaves 2 none q_X8_leaves [.ref h, .int i1] (wMS G h h_items h_lanes h_sizes h_firms h_kinds h_now h_before h_images h_tape h_trace h_readFirms h_readKinds h_readAt h_rows h_bests S0) (M_X8_leaves S0 i1) (fun u => none) (fun u => wMS G h h_items h_lanes h_sizes h_firms h_kinds h_now h_before h_images h_tape h_trace h_readFirms h_readKinds h_readAt h_rows h_bests u) := by
  refine CT.of (P := PX8_leaves) (by decide) dPX8_leaves (Nat.le_of_ble_eq_true rfl) ?_
  intro p e s m args below meth c A Q ls hne X RT Y hl
  have hl : lv_has ls 2 [(0, .ref h), (1, .int i1)] := hl
  generalize hM : M_X8_leaves S0 i1 = MM at hne RT
  unfold M_X8_leaves at hM
  refine r_aload_n (pc' := 1) X hl 0 rfl rfl 0 rfl rfl ?_
  refine r_get (pc' := 4) (v := .int (ms_traced S0)) X Y 1 rfl rfl fRX8_307 0 rfl rfl ?_
  refine r_bipush (pc' := 6) X (16 : Int32) 2 rfl rfl rfl ?_
  refine r_icmp_ge (pc' := 9) X 29 3 rfl rfl (by decide) (fun c1 => ?_) (fun c1 => ?_)
  · replace hM := mI hM c1
    exact RT S0 _ _ _ _ _ hM (Or.inr (Or.inr (Or.inr (Or.inl ⟨rfl, rfl, rfl⟩)))) (X.d (k := 16) rfl) Y
  · replace hM := mE hM c1
    refine r_aload_n (pc' := 10) X hl 0 rfl rfl 4 rfl rfl ?_
    refine r_get (pc' := 13) (v := .ref h_trace) X Y 5 rfl rfl fRX8_37 0 rfl rfl ?_
    refine r_aload_n (pc' := 14) X hl 0 rfl rfl 6 rfl rfl ?_
    refine r_get (pc' := 17) (v := .int (ms_traced S0)) X Y 7 rfl rfl fRX8_307 0 rfl rfl ?_
    refine r_iload_n (pc' := 18) X hl 1 rfl rfl 8 rfl rfl ?_
    obtain ⟨g2, hM⟩ := mG hM hne
    refine r_iast (pc' := 19) (ws' := wMS G h h_items h_lanes h_sizes h_firms h_kinds h_now h_before h_images h_tape h_trace h_readFirms h_readKinds h_readAt h_rows h_bests ((ms_status S0), (ms_points S0), (ms_home S0), (ms_men S0), (ms_hasTable S0), (ms_acts S0), (ms_imaged S0), (ms_length S0), (ms_fault S0), (ms_traced S0), (ms_spot S0), (ms_begins S0), (ms_token S0), (ms_number S0), (ms_readPoints S0), (ms_readHome S0), (ms_readMen S0), (ms_otherOne S0), (ms_otherKind S0), (ms_items S0), (ms_lanes S0), (ms_sizes S0), (ms_firms S0), (ms_kinds S0), (ms_now S0), (ms_before S0), (ms_images S0), (ms_tape S0), (upd (ms_trace S0) ((ms_traced S0)).toNatClampNeg i1), (ms_readFirms S0), (ms_readKinds S0), (ms_readAt S0), (ms_rows S0), (ms_bests S0))) X Y 9 rfl rfl 10 rfl (vin g2) rfl (fun H locs Y => ?_)
    refine r_aload_n (pc' := 20) X hl 0 rfl rfl 10 rfl rfl ?_
    refine r_dup (pc' := 21) X 11 rfl rfl rfl ?_
    refine r_get (pc' := 24) (v := .int (ms_traced S0)) X Y 12 rfl rfl fRX8_307 0 rfl rfl ?_
    refine r_iconst (pc' := 25) X (1 : Int32) 13 rfl rfl rfl ?_
    refine r_iadd (pc' := 26) X 14 rfl rfl ?_
    refine r_put (pc' := 29) (ws' := wMS G h h_items h_lanes h_sizes h_firms h_kinds h_now h_before h_images h_tape h_trace h_readFirms h_readKinds h_readAt h_rows h_bests ((ms_status S0), (ms_points S0), (ms_home S0), (ms_men S0), (ms_hasTable S0), (ms_acts S0), (ms_imaged S0), (ms_length S0), (ms_fault S0), ((ms_traced S0) + (1 : Int32)), (ms_spot S0), (ms_begins S0), (ms_token S0), (ms_number S0), (ms_readPoints S0), (ms_readHome S0), (ms_readMen S0), (ms_otherOne S0), (ms_otherKind S0), (ms_items S0), (ms_lanes S0), (ms_sizes S0), (ms_firms S0), (ms_kinds S0), (ms_now S0), (ms_before S0), (ms_images S0), (ms_tape S0), (upd (ms_trace S0) ((ms_traced S0)).toNatClampNeg i1), (ms_readFirms S0), (ms_readKinds S0), (ms_readAt S0), (ms_rows S0), (ms_bests S0))) X Y 15 rfl rfl fRX8_307 0 rfl rfl rfl (Nat.le_of_ble_eq_true rfl) rfl (fun H locs Y => ?_)
    exact RT ((ms_status S0), (ms_points S0), (ms_home S0), (ms_men S0), (ms_hasTable S0), (ms_acts S0), (ms_imaged S0), (ms_length S0), (ms_fault S0), ((ms_traced S0) + (1 : Int32)), (ms_spot S0), (ms_begins S0), (ms_token S0), (ms_number S0), (ms_readPoints S0), (ms_readHome S0), (ms_readMen S0), (ms_otherOne S0), (ms_otherKind S0), (ms_items S0), (ms_lanes S0), (ms_sizes S0), (ms_firms S0), (ms_kinds S0), (ms_now S0), (ms_before S0), (ms_images S0), (ms_tape S0), (upd (ms_trace S0) ((ms_traced S0)).toNatClampNeg i1), (ms_readFirms S0), (ms_readKinds S0), (ms_readAt S0), (ms_rows S0), (ms_bests S0)) _ _ _ _ _ hM (Or.inr (Or.inr (Or.inr (Or.inl ⟨rfl, rfl, rfl⟩)))) (X.d (k := 16) rfl) Y

def M_X8_body10 (S0 : MS) (i1 : Int32) : Option (Int32 × MS) :=
  ((M_X8_leaves S0 (10 : Int32)).bind (fun u1 => (if inb i1 8 = true then (if inb i1 12 = true then ((M_X8_pipsAt u1 (((ms_firms u1) (i1).toNatClampNeg)) (((ms_now u1) (i1).toNatClampNeg))).bind (fun u4 => (some (u4, u1)))) else none) else none)))
def q_X8_body10 : Room := { frames := 2, cells := 0, slots := 0, locals := 82 }
set_option maxHeartbeats 4000000 in
set_option maxRecDepth 100000 in
theorem c_X8_body10 (l : Launch) (G : gT) (h h_items h_lanes h_sizes h_firms h_kinds h_now h_before h_images h_tape h_trace h_readFirms h_readKinds h_readAt h_rows h_bests : Nat) (S0 : MS) (i1 : Int32) : CT l G yX8_body10 cX8_body10 2 (some .int) q_X8_body10 [.ref h, .int i1] (wMS G h h_items h_lanes h_sizes h_firms h_kinds h_now h_before h_images h_tape h_trace h_readFirms h_readKinds h_readAt h_rows h_bests S0) (M_X8_body10 S0 i1) (fun u => some (.int u.1)) (fun u => wMS G h h_items h_lanes h_sizes h_firms h_kinds h_now h_before h_images h_tape h_trace h_readFirms h_readKinds h_readAt h_rows h_bests u.2) := by
  refine CT.of (P := PX8_body10) (by decide) dPX8_body10 (Nat.le_of_ble_eq_true rfl) ?_
  intro p e s m args below meth c A Q ls hne X RT Y hl
  have hl : lv_has ls 2 [(0, .ref h), (1, .int i1)] := hl
  generalize hM : M_X8_body10 S0 i1 = MM at hne RT
  unfold M_X8_body10 at hM
  refine r_aload_n (pc' := 1) X hl 0 rfl rfl 0 rfl rfl ?_
  refine r_bipush (pc' := 3) X (10 : Int32) 1 rfl rfl rfl ?_
  refine r_callV (pc' := 6) (As := [.int (10 : Int32)]) (rest := []) X Y 2 rfl rfl mRX8_310 (c_X8_leaves l G h h_items h_lanes h_sizes h_firms h_kinds h_now h_before h_images h_tape h_trace h_readFirms h_readKinds h_readAt h_rows h_bests S0 (10 : Int32)) (mB hM hne) 0 rfl rfl [0, 1, 2, 3, 4, 5, 6, 7, 8, 9, 10, 11, 12, 13, 14, 15] [] [0, 1, 2, 3, 4, 5, 6, 7, 8, 9, 10, 11, 12, 13, 14, 15] rfl rfl ⟨rfl, rfl, rfl⟩ rfl (w2 := fun u1 => wMS G h h_items h_lanes h_sizes h_firms h_kinds h_now h_before h_images h_tape h_trace h_readFirms h_readKinds h_readAt h_rows h_bests u1) (fun _ => rfl) rfl (Nat.le_of_ble_eq_true rfl) ⟨rfl, rfl⟩ ⟨Nat.le_of_ble_eq_true rfl, Nat.le_of_ble_eq_true rfl⟩ ⟨Nat.zero_le _, Nat.zero_le _⟩ hl.1 (st' := fun u1 => []) (fun _ => rfl) (fun u1 H locs huu1 Y => ?_)
  replace hM := mS hM huu1
  refine r_aload_n (pc' := 7) X hl 0 rfl rfl 3 rfl rfl ?_
  refine r_aload_n (pc' := 8) X hl 0 rfl rfl 4 rfl rfl ?_
  refine r_get (pc' := 11) (v := .ref h_firms) X Y 5 rfl rfl fRX8_19 0 rfl rfl ?_
  refine r_iload_n (pc' := 12) X hl 1 rfl rfl 6 rfl rfl ?_
  obtain ⟨g2, hM⟩ := mG hM hne
  refine r_iald (pc' := 13) X Y 7 rfl rfl 4 rfl (vin g2) ?_
  refine r_aload_n (pc' := 14) X hl 0 rfl rfl 8 rfl rfl ?_
  refine r_get (pc' := 17) (v := .ref h_now) X Y 9 rfl rfl fRX8_25 0 rfl rfl ?_
  refine r_iload_n (pc' := 18) X hl 1 rfl rfl 10 rfl rfl ?_
  obtain ⟨g3, hM⟩ := mG hM hne
  refine r_iald (pc' := 19) X Y 11 rfl rfl 6 rfl (vin g3) ?_
  refine r_callV0 (pc' := 22) (As := [.int ((ms_firms u1) (i1).toNatClampNeg), .int ((ms_now u1) (i1).toNatClampNeg)]) (rest := []) X Y 12 rfl rfl mRX8_172 (c_X8_pipsAt l G h h_items h_lanes h_sizes h_firms h_kinds h_now h_before h_images h_tape h_trace h_readFirms h_readKinds h_readAt h_rows h_bests u1 (((ms_firms u1) (i1).toNatClampNeg)) (((ms_now u1) (i1).toNatClampNeg))) (mB hM hne) 0 rfl rfl [0, 1, 2, 3, 4, 5, 6, 7, 8, 9, 10, 11, 12, 13, 14, 15] rfl rfl rfl (Nat.le_of_ble_eq_true rfl) ⟨rfl, rfl⟩ ⟨Nat.le_of_ble_eq_true rfl, Nat.le_of_ble_eq_true rfl⟩ ⟨Nat.zero_le _, Nat.zero_le _⟩ hl.1 (st' := fun u4 => [.int u4]) (fun _ => rfl) (fun u4 H locs huu4 Y => ?_)
  replace hM := mS hM huu4
  exact RT (u4, u1) _ _ _ _ _ hM (Or.inl ⟨rfl, rfl, _, rfl⟩) (X.d (k := 13) rfl) Y

def M_X8_body20 (S0 : MS) (i1 : Int32) : Option (Int32 × MS) :=
  ((M_X8_leaves S0 (20 : Int32)).bind (fun u1 => (some (i1, u1))))
def q_X8_body20 : Room := { frames := 2, cells := 0, slots := 0, locals := 81 }
set_option maxHeartbeats 4000000 in
set_option maxRecDepth 100000 in
theorem c_X8_body20 (l : Launch) (G : gT) (h h_items h_lanes h_sizes h_firms h_kinds h_now h_before h_images h_tape h_trace h_readFirms h_readKinds h_readAt h_rows h_bests : Nat) (S0 : MS) (i1 : Int32) : CT l G yX8_body20 cX8_body20 2 (some .int) q_X8_body20 [.ref h, .int i1] (wMS G h h_items h_lanes h_sizes h_firms h_kinds h_now h_before h_images h_tape h_trace h_readFirms h_readKinds h_readAt h_rows h_bests S0) (M_X8_body20 S0 i1) (fun u => some (.int u.1)) (fun u => wMS G h h_items h_lanes h_sizes h_firms h_kinds h_now h_before h_images h_tape h_trace h_readFirms h_readKinds h_readAt h_rows h_bests u.2) := by
  refine CT.of (P := PX8_body20) (by decide) dPX8_body20 (Nat.le_of_ble_eq_true rfl) ?_
  intro p e s m args below meth c A Q ls hne X RT Y hl
  have hl : lv_has ls 2 [(0, .ref h), (1, .int i1)] := hl
  generalize hM : M_X8_body20 S0 i1 = MM at hne RT
  unfold M_X8_body20 at hM
  refine r_aload_n (pc' := 1) X hl 0 rfl rfl 0 rfl rfl ?_
  refine r_bipush (pc' := 3) X (20 : Int32) 1 rfl rfl rfl ?_
  refine r_callV (pc' := 6) (As := [.int (20 : Int32)]) (rest := []) X Y 2 rfl rfl mRX8_310 (c_X8_leaves l G h h_items h_lanes h_sizes h_firms h_kinds h_now h_before h_images h_tape h_trace h_readFirms h_readKinds h_readAt h_rows h_bests S0 (20 : Int32)) (mB hM hne) 0 rfl rfl [0, 1, 2, 3, 4, 5, 6, 7, 8, 9, 10, 11, 12, 13, 14, 15] [] [0, 1, 2, 3, 4, 5, 6, 7, 8, 9, 10, 11, 12, 13, 14, 15] rfl rfl ⟨rfl, rfl, rfl⟩ rfl (w2 := fun u1 => wMS G h h_items h_lanes h_sizes h_firms h_kinds h_now h_before h_images h_tape h_trace h_readFirms h_readKinds h_readAt h_rows h_bests u1) (fun _ => rfl) rfl (Nat.le_of_ble_eq_true rfl) ⟨rfl, rfl⟩ ⟨Nat.le_of_ble_eq_true rfl, Nat.le_of_ble_eq_true rfl⟩ ⟨Nat.zero_le _, Nat.zero_le _⟩ hl.1 (st' := fun u1 => []) (fun _ => rfl) (fun u1 H locs huu1 Y => ?_)
  replace hM := mS hM huu1
  refine r_iload_n (pc' := 7) X hl 1 rfl rfl 3 rfl rfl ?_
  exact RT (i1, u1) _ _ _ _ _ hM (Or.inl ⟨rfl, rfl, _, rfl⟩) (X.d (k := 4) rfl) Y

def M_X8_body21 (S0 : MS) (i1 : Int32) : Option (Int32 × MS) :=
  ((M_X8_leaves S0 (21 : Int32)).bind (fun u1 => ((M_X8_body20 u1 i1).bind (fun u2 => (some ((u2.1 + ((ms_now u2.2) ((9 : Int32)).toNatClampNeg)), u2.2))))))
def q_X8_body21 : Room := { frames := 3, cells := 0, slots := 0, locals := 102 }
set_option maxHeartbeats 4000000 in
set_option maxRecDepth 100000 in
theorem c_X8_body21 (l : Launch) (G : gT) (h h_items h_lanes h_sizes h_firms h_kinds h_now h_before h_images h_tape h_trace h_readFirms h_readKinds h_readAt h_rows h_bests : Nat) (S0 : MS) (i1 : Int32) : CT l G yX8_body21 cX8_body21 2 (some .int) q_X8_body21 [.ref h, .int i1] (wMS G h h_items h_lanes h_sizes h_firms h_kinds h_now h_before h_images h_tape h_trace h_readFirms h_readKinds h_readAt h_rows h_bests S0) (M_X8_body21 S0 i1) (fun u => some (.int u.1)) (fun u => wMS G h h_items h_lanes h_sizes h_firms h_kinds h_now h_before h_images h_tape h_trace h_readFirms h_readKinds h_readAt h_rows h_bests u.2) := by
  refine CT.of (P := PX8_body21) (by decide) dPX8_body21 (Nat.le_of_ble_eq_true rfl) ?_
  intro p e s m args below meth c A Q ls hne X RT Y hl
  have hl : lv_has ls 2 [(0, .ref h), (1, .int i1)] := hl
  generalize hM : M_X8_body21 S0 i1 = MM at hne RT
  unfold M_X8_body21 at hM
  refine r_aload_n (pc' := 1) X hl 0 rfl rfl 0 rfl rfl ?_
  refine r_bipush (pc' := 3) X (21 : Int32) 1 rfl rfl rfl ?_
  refine r_callV (pc' := 6) (As := [.int (21 : Int32)]) (rest := []) X Y 2 rfl rfl mRX8_310 (c_X8_leaves l G h h_items h_lanes h_sizes h_firms h_kinds h_now h_before h_images h_tape h_trace h_readFirms h_readKinds h_readAt h_rows h_bests S0 (21 : Int32)) (mB hM hne) 0 rfl rfl [0, 1, 2, 3, 4, 5, 6, 7, 8, 9, 10, 11, 12, 13, 14, 15] [] [0, 1, 2, 3, 4, 5, 6, 7, 8, 9, 10, 11, 12, 13, 14, 15] rfl rfl ⟨rfl, rfl, rfl⟩ rfl (w2 := fun u1 => wMS G h h_items h_lanes h_sizes h_firms h_kinds h_now h_before h_images h_tape h_trace h_readFirms h_readKinds h_readAt h_rows h_bests u1) (fun _ => rfl) rfl (Nat.le_of_ble_eq_true rfl) ⟨rfl, rfl⟩ ⟨Nat.le_of_ble_eq_true rfl, Nat.le_of_ble_eq_true rfl⟩ ⟨Nat.zero_le _, Nat.zero_le _⟩ hl.1 (st' := fun u1 => []) (fun _ => rfl) (fun u1 H locs huu1 Y => ?_)
  replace hM := mS hM huu1
  refine r_aload_n (pc' := 7) X hl 0 rfl rfl 3 rfl rfl ?_
  refine r_iload_n (pc' := 8) X hl 1 rfl rfl 4 rfl rfl ?_
  refine r_callV (pc' := 11) (As := [.int i1]) (rest := []) X Y 5 rfl rfl mRX8_313 (c_X8_body20 l G h h_items h_lanes h_sizes h_firms h_kinds h_now h_before h_images h_tape h_trace h_readFirms h_readKinds h_readAt h_rows h_bests u1 i1) (mB hM hne) 0 rfl rfl [0, 1, 2, 3, 4, 5, 6, 7, 8, 9, 10, 11, 12, 13, 14, 15] [] [0, 1, 2, 3, 4, 5, 6, 7, 8, 9, 10, 11, 12, 13, 14, 15] rfl rfl ⟨rfl, rfl, rfl⟩ rfl (w2 := fun u2 => wMS G h h_items h_lanes h_sizes h_firms h_kinds h_now h_before h_images h_tape h_trace h_readFirms h_readKinds h_readAt h_rows h_bests u2.2) (fun _ => rfl) rfl (Nat.le_of_ble_eq_true rfl) ⟨rfl, rfl⟩ ⟨Nat.le_of_ble_eq_true rfl, Nat.le_of_ble_eq_true rfl⟩ ⟨Nat.zero_le _, Nat.zero_le _⟩ hl.1 (st' := fun u2 => [.int u2.1]) (fun _ => rfl) (fun u2 H locs huu2 Y => ?_)
  replace hM := mS hM huu2
  refine r_aload_n (pc' := 12) X hl 0 rfl rfl 6 rfl rfl ?_
  refine r_get (pc' := 15) (v := .ref h_now) X Y 7 rfl rfl fRX8_25 0 rfl rfl ?_
  refine r_bipush (pc' := 17) X (9 : Int32) 8 rfl rfl rfl ?_
  refine r_iald (pc' := 18) X Y 9 rfl rfl 6 rfl (vin rfl) ?_
  refine r_iadd (pc' := 19) X 10 rfl rfl ?_
  exact RT ((u2.1 + ((ms_now u2.2) ((9 : Int32)).toNatClampNeg)), u2.2) _ _ _ _ _ hM (Or.inl ⟨rfl, rfl, _, rfl⟩) (X.d (k := 11) rfl) Y

def M_X8_clerkMark (S0 : MS) (i1 : Int32) : Option (Int32 × MS) :=
  (if inb i1 8 = true then (if ((ms_kinds S0) (i1).toNatClampNeg) = (2 : Int32) then ((M_X8_leaves S0 (24 : Int32)).bind (fun u7 => ((M_X8_body21 u7 i1).bind (fun u8 => (some (((2 : Int32) * u8.1), u8.2)))))) else (if ((ms_kinds S0) (i1).toNatClampNeg) = (3 : Int32) then ((M_X8_leaves S0 (22 : Int32)).bind (fun u5 => ((M_X8_body21 u5 i1).bind (fun u6 => (some ((u6.1 - (1000 : Int32)), u6.2)))))) else ((M_X8_body21 S0 i1).bind (fun u4 => (some (u4.1, u4.2)))))) else none)
def q_X8_clerkMark : Room := { frames := 4, cells := 0, slots := 0, locals := 123 }
set_option maxHeartbeats 4000000 in
set_option maxRecDepth 100000 in
theorem c_X8_clerkMark (l : Launch) (G : gT) (h h_items h_lanes h_sizes h_firms h_kinds h_now h_before h_images h_tape h_trace h_readFirms h_readKinds h_readAt h_rows h_bests : Nat) (S0 : MS) (i1 : Int32) : CT l G yX8_clerkMark cX8_clerkMark 2 (some .int) q_X8_clerkMark [.ref h, .int i1] (wMS G h h_items h_lanes h_sizes h_firms h_kinds h_now h_before h_images h_tape h_trace h_readFirms h_readKinds h_readAt h_rows h_bests S0) (M_X8_clerkMark S0 i1) (fun u => some (.int u.1)) (fun u => wMS G h h_items h_lanes h_sizes h_firms h_kinds h_now h_before h_images h_tape h_trace h_readFirms h_readKinds h_readAt h_rows h_bests u.2) := by
  refine CT.of (P := PX8_clerkMark) (by decide) dPX8_clerkMark (Nat.le_of_ble_eq_true rfl) ?_
  intro p e s m args below meth c A Q ls hne X RT Y hl
  have hl : lv_has ls 2 [(0, .ref h), (1, .int i1)] := hl
  generalize hM : M_X8_clerkMark S0 i1 = MM at hne RT
  unfold M_X8_clerkMark at hM
  refine r_aload_n (pc' := 1) X hl 0 rfl rfl 0 rfl rfl ?_
  refine r_get (pc' := 4) (v := .ref h_kinds) X Y 1 rfl rfl fRX8_22 0 rfl rfl ?_
  refine r_iload_n (pc' := 5) X hl 1 rfl rfl 2 rfl rfl ?_
  obtain ⟨g1, hM⟩ := mG hM hne
  refine r_iald (pc' := 6) X Y 3 rfl rfl 5 rfl (vin g1) ?_
  refine r_iconst (pc' := 7) X (2 : Int32) 4 rfl rfl rfl ?_
  refine r_icmp_ne (pc' := 10) X 24 5 rfl rfl (by decide) (fun c2 => ?_) (fun c2 => ?_)
  · replace hM := mE hM c2
    refine r_aload_n (pc' := 25) X hl 0 rfl rfl 15 rfl rfl ?_
    refine r_get (pc' := 28) (v := .ref h_kinds) X Y 16 rfl rfl fRX8_22 0 rfl rfl ?_
    refine r_iload_n (pc' := 29) X hl 1 rfl rfl 17 rfl rfl ?_
    refine r_iald (pc' := 30) X Y 18 rfl rfl 5 rfl (vin g1) ?_
    refine r_iconst (pc' := 31) X (3 : Int32) 19 rfl rfl rfl ?_
    refine r_icmp_ne (pc' := 34) X 50 20 rfl rfl (by decide) (fun c3 => ?_) (fun c3 => ?_)
    · replace hM := mE hM c3
      refine r_aload_n (pc' := 51) X hl 0 rfl rfl 30 rfl rfl ?_
      refine r_iload_n (pc' := 52) X hl 1 rfl rfl 31 rfl rfl ?_
      refine r_callV (pc' := 55) (As := [.int i1]) (rest := []) X Y 32 rfl rfl mRX8_316 (c_X8_body21 l G h h_items h_lanes h_sizes h_firms h_kinds h_now h_before h_images h_tape h_trace h_readFirms h_readKinds h_readAt h_rows h_bests S0 i1) (mB hM hne) 0 rfl rfl [0, 1, 2, 3, 4, 5, 6, 7, 8, 9, 10, 11, 12, 13, 14, 15] [] [0, 1, 2, 3, 4, 5, 6, 7, 8, 9, 10, 11, 12, 13, 14, 15] rfl rfl ⟨rfl, rfl, rfl⟩ rfl (w2 := fun u4 => wMS G h h_items h_lanes h_sizes h_firms h_kinds h_now h_before h_images h_tape h_trace h_readFirms h_readKinds h_readAt h_rows h_bests u4.2) (fun _ => rfl) rfl (Nat.le_of_ble_eq_true rfl) ⟨rfl, rfl⟩ ⟨Nat.le_of_ble_eq_true rfl, Nat.le_of_ble_eq_true rfl⟩ ⟨Nat.zero_le _, Nat.zero_le _⟩ hl.1 (st' := fun u4 => [.int u4.1]) (fun _ => rfl) (fun u4 H locs huu4 Y => ?_)
      replace hM := mS hM huu4
      exact RT (u4.1, u4.2) _ _ _ _ _ hM (Or.inl ⟨rfl, rfl, _, rfl⟩) (X.d (k := 33) rfl) Y
    · replace hM := mI hM c3
      refine r_aload_n (pc' := 35) X hl 0 rfl rfl 21 rfl rfl ?_
      refine r_bipush (pc' := 37) X (22 : Int32) 22 rfl rfl rfl ?_
      refine r_callV (pc' := 40) (As := [.int (22 : Int32)]) (rest := []) X Y 23 rfl rfl mRX8_310 (c_X8_leaves l G h h_items h_lanes h_sizes h_firms h_kinds h_now h_before h_images h_tape h_trace h_readFirms h_readKinds h_readAt h_rows h_bests S0 (22 : Int32)) (mB hM hne) 0 rfl rfl [0, 1, 2, 3, 4, 5, 6, 7, 8, 9, 10, 11, 12, 13, 14, 15] [] [0, 1, 2, 3, 4, 5, 6, 7, 8, 9, 10, 11, 12, 13, 14, 15] rfl rfl ⟨rfl, rfl, rfl⟩ rfl (w2 := fun u5 => wMS G h h_items h_lanes h_sizes h_firms h_kinds h_now h_before h_images h_tape h_trace h_readFirms h_readKinds h_readAt h_rows h_bests u5) (fun _ => rfl) rfl (Nat.le_of_ble_eq_true rfl) ⟨rfl, rfl⟩ ⟨Nat.le_of_ble_eq_true rfl, Nat.le_of_ble_eq_true rfl⟩ ⟨Nat.zero_le _, Nat.zero_le _⟩ hl.1 (st' := fun u5 => []) (fun _ => rfl) (fun u5 H locs huu5 Y => ?_)
      replace hM := mS hM huu5
      refine r_aload_n (pc' := 41) X hl 0 rfl rfl 24 rfl rfl ?_
      refine r_iload_n (pc' := 42) X hl 1 rfl rfl 25 rfl rfl ?_
      refine r_callV (pc' := 45) (As := [.int i1]) (rest := []) X Y 26 rfl rfl mRX8_316 (c_X8_body21 l G h h_items h_lanes h_sizes h_firms h_kinds h_now h_before h_images h_tape h_trace h_readFirms h_readKinds h_readAt h_rows h_bests u5 i1) (mB hM hne) 0 rfl rfl [0, 1, 2, 3, 4, 5, 6, 7, 8, 9, 10, 11, 12, 13, 14, 15] [] [0, 1, 2, 3, 4, 5, 6, 7, 8, 9, 10, 11, 12, 13, 14, 15] rfl rfl ⟨rfl, rfl, rfl⟩ rfl (w2 := fun u6 => wMS G h h_items h_lanes h_sizes h_firms h_kinds h_now h_before h_images h_tape h_trace h_readFirms h_readKinds h_readAt h_rows h_bests u6.2) (fun _ => rfl) rfl (Nat.le_of_ble_eq_true rfl) ⟨rfl, rfl⟩ ⟨Nat.le_of_ble_eq_true rfl, Nat.le_of_ble_eq_true rfl⟩ ⟨Nat.zero_le _, Nat.zero_le _⟩ hl.1 (st' := fun u6 => [.int u6.1]) (fun _ => rfl) (fun u6 H locs huu6 Y => ?_)
      replace hM := mS hM huu6
      refine r_sipush (pc' := 48) X (1000 : Int32) 27 rfl rfl rfl ?_
      refine r_isub (pc' := 49) X 28 rfl rfl ?_
      exact RT ((u6.1 - (1000 : Int32)), u6.2) _ _ _ _ _ hM (Or.inl ⟨rfl, rfl, _, rfl⟩) (X.d (k := 29) rfl) Y
  · replace hM := mI hM c2
    refine r_aload_n (pc' := 11) X hl 0 rfl rfl 6 rfl rfl ?_
    refine r_bipush (pc' := 13) X (24 : Int32) 7 rfl rfl rfl ?_
    refine r_callV (pc' := 16) (As := [.int (24 : Int32)]) (rest := []) X Y 8 rfl rfl mRX8_310 (c_X8_leaves l G h h_items h_lanes h_sizes h_firms h_kinds h_now h_before h_images h_tape h_trace h_readFirms h_readKinds h_readAt h_rows h_bests S0 (24 : Int32)) (mB hM hne) 0 rfl rfl [0, 1, 2, 3, 4, 5, 6, 7, 8, 9, 10, 11, 12, 13, 14, 15] [] [0, 1, 2, 3, 4, 5, 6, 7, 8, 9, 10, 11, 12, 13, 14, 15] rfl rfl ⟨rfl, rfl, rfl⟩ rfl (w2 := fun u7 => wMS G h h_items h_lanes h_sizes h_firms h_kinds h_now h_before h_images h_tape h_trace h_readFirms h_readKinds h_readAt h_rows h_bests u7) (fun _ => rfl) rfl (Nat.le_of_ble_eq_true rfl) ⟨rfl, rfl⟩ ⟨Nat.le_of_ble_eq_true rfl, Nat.le_of_ble_eq_true rfl⟩ ⟨Nat.zero_le _, Nat.zero_le _⟩ hl.1 (st' := fun u7 => []) (fun _ => rfl) (fun u7 H locs huu7 Y => ?_)
    replace hM := mS hM huu7
    refine r_iconst (pc' := 17) X (2 : Int32) 9 rfl rfl rfl ?_
    refine r_aload_n (pc' := 18) X hl 0 rfl rfl 10 rfl rfl ?_
    refine r_iload_n (pc' := 19) X hl 1 rfl rfl 11 rfl rfl ?_
    refine r_callV (pc' := 22) (As := [.int i1]) (rest := [.int (2 : Int32)]) X Y 12 rfl rfl mRX8_316 (c_X8_body21 l G h h_items h_lanes h_sizes h_firms h_kinds h_now h_before h_images h_tape h_trace h_readFirms h_readKinds h_readAt h_rows h_bests u7 i1) (mB hM hne) 0 rfl rfl [0, 1, 2, 3, 4, 5, 6, 7, 8, 9, 10, 11, 12, 13, 14, 15] [] [0, 1, 2, 3, 4, 5, 6, 7, 8, 9, 10, 11, 12, 13, 14, 15] rfl rfl ⟨rfl, rfl, rfl⟩ rfl (w2 := fun u8 => wMS G h h_items h_lanes h_sizes h_firms h_kinds h_now h_before h_images h_tape h_trace h_readFirms h_readKinds h_readAt h_rows h_bests u8.2) (fun _ => rfl) rfl (Nat.le_of_ble_eq_true rfl) ⟨rfl, rfl⟩ ⟨Nat.le_of_ble_eq_true rfl, Nat.le_of_ble_eq_true rfl⟩ ⟨Nat.zero_le _, Nat.zero_le _⟩ hl.1 (st' := fun u8 => [.int u8.1, .int (2 : Int32)]) (fun _ => rfl) (fun u8 H locs huu8 Y => ?_)
    replace hM := mS hM huu8
    refine r_imul (pc' := 23) X 13 rfl rfl ?_
    exact RT (((2 : Int32) * u8.1), u8.2) _ _ _ _ _ hM (Or.inl ⟨rfl, rfl, _, rfl⟩) (X.d (k := 14) rfl) Y

def M_X8_body11 (S0 : MS) (i1 : Int32) : Option (Int32 × MS) :=
  ((M_X8_leaves S0 (11 : Int32)).bind (fun u1 => ((M_X8_body10 u1 i1).bind (fun u2 => ((M_X8_clerkMark u2.2 i1).bind (fun u3 => (some ((u2.1 + u3.1), u3.2))))))))
def q_X8_body11 : Room := { frames := 5, cells := 0, slots := 0, locals := 144 }
set_option maxHeartbeats 4000000 in
set_option maxRecDepth 100000 in
theorem c_X8_body11 (l : Launch) (G : gT) (h h_items h_lanes h_sizes h_firms h_kinds h_now h_before h_images h_tape h_trace h_readFirms h_readKinds h_readAt h_rows h_bests : Nat) (S0 : MS) (i1 : Int32) : CT l G yX8_body11 cX8_body11 3 (some .int) q_X8_body11 [.ref h, .int i1] (wMS G h h_items h_lanes h_sizes h_firms h_kinds h_now h_before h_images h_tape h_trace h_readFirms h_readKinds h_readAt h_rows h_bests S0) (M_X8_body11 S0 i1) (fun u => some (.int u.1)) (fun u => wMS G h h_items h_lanes h_sizes h_firms h_kinds h_now h_before h_images h_tape h_trace h_readFirms h_readKinds h_readAt h_rows h_bests u.2) := by
  refine CT.of (P := PX8_body11) (by decide) dPX8_body11 (Nat.le_of_ble_eq_true rfl) ?_
  intro p e s m args below meth c A Q ls hne X RT Y hl
  have hl : lv_has ls 3 [(0, .ref h), (1, .int i1)] := hl
  generalize hM : M_X8_body11 S0 i1 = MM at hne RT
  unfold M_X8_body11 at hM
  refine r_aload_n (pc' := 1) X hl 0 rfl rfl 0 rfl rfl ?_
  refine r_bipush (pc' := 3) X (11 : Int32) 1 rfl rfl rfl ?_
  refine r_callV (pc' := 6) (As := [.int (11 : Int32)]) (rest := []) X Y 2 rfl rfl mRX8_310 (c_X8_leaves l G h h_items h_lanes h_sizes h_firms h_kinds h_now h_before h_images h_tape h_trace h_readFirms h_readKinds h_readAt h_rows h_bests S0 (11 : Int32)) (mB hM hne) 0 rfl rfl [0, 1, 2, 3, 4, 5, 6, 7, 8, 9, 10, 11, 12, 13, 14, 15] [] [0, 1, 2, 3, 4, 5, 6, 7, 8, 9, 10, 11, 12, 13, 14, 15] rfl rfl ⟨rfl, rfl, rfl⟩ rfl (w2 := fun u1 => wMS G h h_items h_lanes h_sizes h_firms h_kinds h_now h_before h_images h_tape h_trace h_readFirms h_readKinds h_readAt h_rows h_bests u1) (fun _ => rfl) rfl (Nat.le_of_ble_eq_true rfl) ⟨rfl, rfl⟩ ⟨Nat.le_of_ble_eq_true rfl, Nat.le_of_ble_eq_true rfl⟩ ⟨Nat.zero_le _, Nat.zero_le _⟩ hl.1 (st' := fun u1 => []) (fun _ => rfl) (fun u1 H locs huu1 Y => ?_)
  replace hM := mS hM huu1
  refine r_aload_n (pc' := 7) X hl 0 rfl rfl 3 rfl rfl ?_
  refine r_iload_n (pc' := 8) X hl 1 rfl rfl 4 rfl rfl ?_
  refine r_callV (pc' := 11) (As := [.int i1]) (rest := []) X Y 5 rfl rfl mRX8_319 (c_X8_body10 l G h h_items h_lanes h_sizes h_firms h_kinds h_now h_before h_images h_tape h_trace h_readFirms h_readKinds h_readAt h_rows h_bests u1 i1) (mB hM hne) 0 rfl rfl [0, 1, 2, 3, 4, 5, 6, 7, 8, 9, 10, 11, 12, 13, 14, 15] [] [0, 1, 2, 3, 4, 5, 6, 7, 8, 9, 10, 11, 12, 13, 14, 15] rfl rfl ⟨rfl, rfl, rfl⟩ rfl (w2 := fun u2 => wMS G h h_items h_lanes h_sizes h_firms h_kinds h_now h_before h_images h_tape h_trace h_readFirms h_readKinds h_readAt h_rows h_bests u2.2) (fun _ => rfl) rfl (Nat.le_of_ble_eq_true rfl) ⟨rfl, rfl⟩ ⟨Nat.le_of_ble_eq_true rfl, Nat.le_of_ble_eq_true rfl⟩ ⟨Nat.zero_le _, Nat.zero_le _⟩ hl.1 (st' := fun u2 => [.int u2.1]) (fun _ => rfl) (fun u2 H locs huu2 Y => ?_)
  replace hM := mS hM huu2
  refine r_istore_n (pc' := 12) (L' := [(2, .int u2.1), (0, .ref h), (1, .int i1)]) X hl rfl 6 rfl rfl (by decide) rfl (fun ls hl => ?_)
  refine r_iload_n (pc' := 13) X hl 0 rfl rfl 7 rfl rfl ?_
  refine r_aload_n (pc' := 14) X hl 1 rfl rfl 8 rfl rfl ?_
  refine r_iload_n (pc' := 15) X hl 2 rfl rfl 9 rfl rfl ?_
  refine r_callV (pc' := 18) (As := [.int i1]) (rest := [.int u2.1]) X Y 10 rfl rfl mRX8_322 (c_X8_clerkMark l G h h_items h_lanes h_sizes h_firms h_kinds h_now h_before h_images h_tape h_trace h_readFirms h_readKinds h_readAt h_rows h_bests u2.2 i1) (mB hM hne) 0 rfl rfl [0, 1, 2, 3, 4, 5, 6, 7, 8, 9, 10, 11, 12, 13, 14, 15] [] [0, 1, 2, 3, 4, 5, 6, 7, 8, 9, 10, 11, 12, 13, 14, 15] rfl rfl ⟨rfl, rfl, rfl⟩ rfl (w2 := fun u3 => wMS G h h_items h_lanes h_sizes h_firms h_kinds h_now h_before h_images h_tape h_trace h_readFirms h_readKinds h_readAt h_rows h_bests u3.2) (fun _ => rfl) rfl (Nat.le_of_ble_eq_true rfl) ⟨rfl, rfl⟩ ⟨Nat.le_of_ble_eq_true rfl, Nat.le_of_ble_eq_true rfl⟩ ⟨Nat.zero_le _, Nat.zero_le _⟩ hl.1 (st' := fun u3 => [.int u3.1, .int u2.1]) (fun _ => rfl) (fun u3 H locs huu3 Y => ?_)
  replace hM := mS hM huu3
  refine r_iadd (pc' := 19) X 11 rfl rfl ?_
  exact RT ((u2.1 + u3.1), u3.2) _ _ _ _ _ hM (Or.inl ⟨rfl, rfl, _, rfl⟩) (X.d (k := 12) rfl) Y

def M_X8_body13 (S0 : MS) (i1 : Int32) : Option (Int32 × MS) :=
  ((M_X8_leaves S0 (13 : Int32)).bind (fun u1 => ((M_X8_body10 u1 i1).bind (fun u2 => (some ((u2.1 - (100 : Int32)), u2.2))))))
def q_X8_body13 : Room := { frames := 3, cells := 0, slots := 0, locals := 103 }
set_option maxHeartbeats 4000000 in
set_option maxRecDepth 100000 in
theorem c_X8_body13 (l : Launch) (G : gT) (h h_items h_lanes h_sizes h_firms h_kinds h_now h_before h_images h_tape h_trace h_readFirms h_readKinds h_readAt h_rows h_bests : Nat) (S0 : MS) (i1 : Int32) : CT l G yX8_body13 cX8_body13 2 (some .int) q_X8_body13 [.ref h, .int i1] (wMS G h h_items h_lanes h_sizes h_firms h_kinds h_now h_before h_images h_tape h_trace h_readFirms h_readKinds h_readAt h_rows h_bests S0) (M_X8_body13 S0 i1) (fun u => some (.int u.1)) (fun u => wMS G h h_items h_lanes h_sizes h_firms h_kinds h_now h_before h_images h_tape h_trace h_readFirms h_readKinds h_readAt h_rows h_bests u.2) := by
  refine CT.of (P := PX8_body13) (by decide) dPX8_body13 (Nat.le_of_ble_eq_true rfl) ?_
  intro p e s m args below meth c A Q ls hne X RT Y hl
  have hl : lv_has ls 2 [(0, .ref h), (1, .int i1)] := hl
  generalize hM : M_X8_body13 S0 i1 = MM at hne RT
  unfold M_X8_body13 at hM
  refine r_aload_n (pc' := 1) X hl 0 rfl rfl 0 rfl rfl ?_
  refine r_bipush (pc' := 3) X (13 : Int32) 1 rfl rfl rfl ?_
  refine r_callV (pc' := 6) (As := [.int (13 : Int32)]) (rest := []) X Y 2 rfl rfl mRX8_310 (c_X8_leaves l G h h_items h_lanes h_sizes h_firms h_kinds h_now h_before h_images h_tape h_trace h_readFirms h_readKinds h_readAt h_rows h_bests S0 (13 : Int32)) (mB hM hne) 0 rfl rfl [0, 1, 2, 3, 4, 5, 6, 7, 8, 9, 10, 11, 12, 13, 14, 15] [] [0, 1, 2, 3, 4, 5, 6, 7, 8, 9, 10, 11, 12, 13, 14, 15] rfl rfl ⟨rfl, rfl, rfl⟩ rfl (w2 := fun u1 => wMS G h h_items h_lanes h_sizes h_firms h_kinds h_now h_before h_images h_tape h_trace h_readFirms h_readKinds h_readAt h_rows h_bests u1) (fun _ => rfl) rfl (Nat.le_of_ble_eq_true rfl) ⟨rfl, rfl⟩ ⟨Nat.le_of_ble_eq_true rfl, Nat.le_of_ble_eq_true rfl⟩ ⟨Nat.zero_le _, Nat.zero_le _⟩ hl.1 (st' := fun u1 => []) (fun _ => rfl) (fun u1 H locs huu1 Y => ?_)
  replace hM := mS hM huu1
  refine r_aload_n (pc' := 7) X hl 0 rfl rfl 3 rfl rfl ?_
  refine r_iload_n (pc' := 8) X hl 1 rfl rfl 4 rfl rfl ?_
  refine r_callV (pc' := 11) (As := [.int i1]) (rest := []) X Y 5 rfl rfl mRX8_319 (c_X8_body10 l G h h_items h_lanes h_sizes h_firms h_kinds h_now h_before h_images h_tape h_trace h_readFirms h_readKinds h_readAt h_rows h_bests u1 i1) (mB hM hne) 0 rfl rfl [0, 1, 2, 3, 4, 5, 6, 7, 8, 9, 10, 11, 12, 13, 14, 15] [] [0, 1, 2, 3, 4, 5, 6, 7, 8, 9, 10, 11, 12, 13, 14, 15] rfl rfl ⟨rfl, rfl, rfl⟩ rfl (w2 := fun u2 => wMS G h h_items h_lanes h_sizes h_firms h_kinds h_now h_before h_images h_tape h_trace h_readFirms h_readKinds h_readAt h_rows h_bests u2.2) (fun _ => rfl) rfl (Nat.le_of_ble_eq_true rfl) ⟨rfl, rfl⟩ ⟨Nat.le_of_ble_eq_true rfl, Nat.le_of_ble_eq_true rfl⟩ ⟨Nat.zero_le _, Nat.zero_le _⟩ hl.1 (st' := fun u2 => [.int u2.1]) (fun _ => rfl) (fun u2 H locs huu2 Y => ?_)
  replace hM := mS hM huu2
  refine r_bipush (pc' := 13) X (100 : Int32) 6 rfl rfl rfl ?_
  refine r_isub (pc' := 14) X 7 rfl rfl ?_
  exact RT ((u2.1 - (100 : Int32)), u2.2) _ _ _ _ _ hM (Or.inl ⟨rfl, rfl, _, rfl⟩) (X.d (k := 8) rfl) Y

def M_X8_partnerSize (S0 : MS) (i1 : Int32) : Option (Int32 × MS) :=
  (if inb i1 8 = true then (if ((ms_kinds S0) (i1).toNatClampNeg) = (5 : Int32) then ((M_X8_leaves S0 (14 : Int32)).bind (fun u4 => ((M_X8_body13 u4 i1).bind (fun u5 => (some (((2 : Int32) * u5.1), u5.2)))))) else ((M_X8_body13 S0 i1).bind (fun u3 => (some (u3.1, u3.2))))) else none)
def q_X8_partnerSize : Room := { frames := 4, cells := 0, slots := 0, locals := 124 }
set_option maxHeartbeats 4000000 in
set_option maxRecDepth 100000 in
theorem c_X8_partnerSize (l : Launch) (G : gT) (h h_items h_lanes h_sizes h_firms h_kinds h_now h_before h_images h_tape h_trace h_readFirms h_readKinds h_readAt h_rows h_bests : Nat) (S0 : MS) (i1 : Int32) : CT l G yX8_partnerSize cX8_partnerSize 2 (some .int) q_X8_partnerSize [.ref h, .int i1] (wMS G h h_items h_lanes h_sizes h_firms h_kinds h_now h_before h_images h_tape h_trace h_readFirms h_readKinds h_readAt h_rows h_bests S0) (M_X8_partnerSize S0 i1) (fun u => some (.int u.1)) (fun u => wMS G h h_items h_lanes h_sizes h_firms h_kinds h_now h_before h_images h_tape h_trace h_readFirms h_readKinds h_readAt h_rows h_bests u.2) := by
  refine CT.of (P := PX8_partnerSize) (by decide) dPX8_partnerSize (Nat.le_of_ble_eq_true rfl) ?_
  intro p e s m args below meth c A Q ls hne X RT Y hl
  have hl : lv_has ls 2 [(0, .ref h), (1, .int i1)] := hl
  generalize hM : M_X8_partnerSize S0 i1 = MM at hne RT
  unfold M_X8_partnerSize at hM
  refine r_aload_n (pc' := 1) X hl 0 rfl rfl 0 rfl rfl ?_
  refine r_get (pc' := 4) (v := .ref h_kinds) X Y 1 rfl rfl fRX8_22 0 rfl rfl ?_
  refine r_iload_n (pc' := 5) X hl 1 rfl rfl 2 rfl rfl ?_
  obtain ⟨g1, hM⟩ := mG hM hne
  refine r_iald (pc' := 6) X Y 3 rfl rfl 5 rfl (vin g1) ?_
  refine r_iconst (pc' := 7) X (5 : Int32) 4 rfl rfl rfl ?_
  refine r_icmp_ne (pc' := 10) X 24 5 rfl rfl (by decide) (fun c2 => ?_) (fun c2 => ?_)
  · replace hM := mE hM c2
    refine r_aload_n (pc' := 25) X hl 0 rfl rfl 15 rfl rfl ?_
    refine r_iload_n (pc' := 26) X hl 1 rfl rfl 16 rfl rfl ?_
    refine r_callV (pc' := 29) (As := [.int i1]) (rest := []) X Y 17 rfl rfl mRX8_325 (c_X8_body13 l G h h_items h_lanes h_sizes h_firms h_kinds h_now h_before h_images h_tape h_trace h_readFirms h_readKinds h_readAt h_rows h_bests S0 i1) (mB hM hne) 0 rfl rfl [0, 1, 2, 3, 4, 5, 6, 7, 8, 9, 10, 11, 12, 13, 14, 15] [] [0, 1, 2, 3, 4, 5, 6, 7, 8, 9, 10, 11, 12, 13, 14, 15] rfl rfl ⟨rfl, rfl, rfl⟩ rfl (w2 := fun u3 => wMS G h h_items h_lanes h_sizes h_firms h_kinds h_now h_before h_images h_tape h_trace h_readFirms h_readKinds h_readAt h_rows h_bests u3.2) (fun _ => rfl) rfl (Nat.le_of_ble_eq_true rfl) ⟨rfl, rfl⟩ ⟨Nat.le_of_ble_eq_true rfl, Nat.le_of_ble_eq_true rfl⟩ ⟨Nat.zero_le _, Nat.zero_le _⟩ hl.1 (st' := fun u3 => [.int u3.1]) (fun _ => rfl) (fun u3 H locs huu3 Y => ?_)
    replace hM := mS hM huu3
    exact RT (u3.1, u3.2) _ _ _ _ _ hM (Or.inl ⟨rfl, rfl, _, rfl⟩) (X.d (k := 18) rfl) Y
  · replace hM := mI hM c2
    refine r_aload_n (pc' := 11) X hl 0 rfl rfl 6 rfl rfl ?_
    refine r_bipush (pc' := 13) X (14 : Int32) 7 rfl rfl rfl ?_
    refine r_callV (pc' := 16) (As := [.int (14 : Int32)]) (rest := []) X Y 8 rfl rfl mRX8_310 (c_X8_leaves l G h h_items h_lanes h_sizes h_firms h_kinds h_now h_before h_images h_tape h_trace h_readFirms h_readKinds h_readAt h_rows h_bests S0 (14 : Int32)) (mB hM hne) 0 rfl rfl [0, 1, 2, 3, 4, 5, 6, 7, 8, 9, 10, 11, 12, 13, 14, 15] [] [0, 1, 2, 3, 4, 5, 6, 7, 8, 9, 10, 11, 12, 13, 14, 15] rfl rfl ⟨rfl, rfl, rfl⟩ rfl (w2 := fun u4 => wMS G h h_items h_lanes h_sizes h_firms h_kinds h_now h_before h_images h_tape h_trace h_readFirms h_readKinds h_readAt h_rows h_bests u4) (fun _ => rfl) rfl (Nat.le_of_ble_eq_true rfl) ⟨rfl, rfl⟩ ⟨Nat.le_of_ble_eq_true rfl, Nat.le_of_ble_eq_true rfl⟩ ⟨Nat.zero_le _, Nat.zero_le _⟩ hl.1 (st' := fun u4 => []) (fun _ => rfl) (fun u4 H locs huu4 Y => ?_)
    replace hM := mS hM huu4
    refine r_iconst (pc' := 17) X (2 : Int32) 9 rfl rfl rfl ?_
    refine r_aload_n (pc' := 18) X hl 0 rfl rfl 10 rfl rfl ?_
    refine r_iload_n (pc' := 19) X hl 1 rfl rfl 11 rfl rfl ?_
    refine r_callV (pc' := 22) (As := [.int i1]) (rest := [.int (2 : Int32)]) X Y 12 rfl rfl mRX8_325 (c_X8_body13 l G h h_items h_lanes h_sizes h_firms h_kinds h_now h_before h_images h_tape h_trace h_readFirms h_readKinds h_readAt h_rows h_bests u4 i1) (mB hM hne) 0 rfl rfl [0, 1, 2, 3, 4, 5, 6, 7, 8, 9, 10, 11, 12, 13, 14, 15] [] [0, 1, 2, 3, 4, 5, 6, 7, 8, 9, 10, 11, 12, 13, 14, 15] rfl rfl ⟨rfl, rfl, rfl⟩ rfl (w2 := fun u5 => wMS G h h_items h_lanes h_sizes h_firms h_kinds h_now h_before h_images h_tape h_trace h_readFirms h_readKinds h_readAt h_rows h_bests u5.2) (fun _ => rfl) rfl (Nat.le_of_ble_eq_true rfl) ⟨rfl, rfl⟩ ⟨Nat.le_of_ble_eq_true rfl, Nat.le_of_ble_eq_true rfl⟩ ⟨Nat.zero_le _, Nat.zero_le _⟩ hl.1 (st' := fun u5 => [.int u5.1, .int (2 : Int32)]) (fun _ => rfl) (fun u5 H locs huu5 Y => ?_)
    replace hM := mS hM huu5
    refine r_imul (pc' := 23) X 13 rfl rfl ?_
    exact RT (((2 : Int32) * u5.1), u5.2) _ _ _ _ _ hM (Or.inl ⟨rfl, rfl, _, rfl⟩) (X.d (k := 14) rfl) Y

def M_X8_size (S0 : MS) (i1 : Int32) : Option (Int32 × MS) :=
  (if inb i1 8 = true then (if ((ms_kinds S0) (i1).toNatClampNeg) ≤ (3 : Int32) then (if ((ms_kinds S0) (i1).toNatClampNeg) = (2 : Int32) then ((M_X8_leaves S0 (12 : Int32)).bind (fun u5 => ((M_X8_body11 u5 i1).bind (fun u6 => (some ((-u6.1), u6.2)))))) else ((M_X8_body11 S0 i1).bind (fun u4 => (some (u4.1, u4.2))))) else ((M_X8_partnerSize S0 i1).bind (fun u7 => (some (u7.1, u7.2))))) else none)
def q_X8_size : Room := { frames := 6, cells := 0, slots := 0, locals := 166 }
set_option maxHeartbeats 4000000 in
set_option maxRecDepth 100000 in
theorem c_X8_size (l : Launch) (G : gT) (h h_items h_lanes h_sizes h_firms h_kinds h_now h_before h_images h_tape h_trace h_readFirms h_readKinds h_readAt h_rows h_bests : Nat) (S0 : MS) (i1 : Int32) : CT l G yX8_size cX8_size 2 (some .int) q_X8_size [.ref h, .int i1] (wMS G h h_items h_lanes h_sizes h_firms h_kinds h_now h_before h_images h_tape h_trace h_readFirms h_readKinds h_readAt h_rows h_bests S0) (M_X8_size S0 i1) (fun u => some (.int u.1)) (fun u => wMS G h h_items h_lanes h_sizes h_firms h_kinds h_now h_before h_images h_tape h_trace h_readFirms h_readKinds h_readAt h_rows h_bests u.2) := by
  refine CT.of (P := PX8_size) (by decide) dPX8_size (Nat.le_of_ble_eq_true rfl) ?_
  intro p e s m args below meth c A Q ls hne X RT Y hl
  have hl : lv_has ls 2 [(0, .ref h), (1, .int i1)] := hl
  generalize hM : M_X8_size S0 i1 = MM at hne RT
  unfold M_X8_size at hM
  refine r_aload_n (pc' := 1) X hl 0 rfl rfl 0 rfl rfl ?_
  refine r_get (pc' := 4) (v := .ref h_kinds) X Y 1 rfl rfl fRX8_22 0 rfl rfl ?_
  refine r_iload_n (pc' := 5) X hl 1 rfl rfl 2 rfl rfl ?_
  obtain ⟨g1, hM⟩ := mG hM hne
  refine r_iald (pc' := 6) X Y 3 rfl rfl 5 rfl (vin g1) ?_
  refine r_iconst (pc' := 7) X (3 : Int32) 4 rfl rfl rfl ?_
  refine r_icmp_le (pc' := 10) X 16 5 rfl rfl (by decide) (fun c2 => ?_) (fun c2 => ?_)
  · replace hM := mI hM c2
    refine r_aload_n (pc' := 17) X hl 0 rfl rfl 10 rfl rfl ?_
    refine r_get (pc' := 20) (v := .ref h_kinds) X Y 11 rfl rfl fRX8_22 0 rfl rfl ?_
    refine r_iload_n (pc' := 21) X hl 1 rfl rfl 12 rfl rfl ?_
    refine r_iald (pc' := 22) X Y 13 rfl rfl 5 rfl (vin g1) ?_
    refine r_iconst (pc' := 23) X (2 : Int32) 14 rfl rfl rfl ?_
    refine r_icmp_ne (pc' := 26) X 39 15 rfl rfl (by decide) (fun c3 => ?_) (fun c3 => ?_)
    · replace hM := mE hM c3
      refine r_aload_n (pc' := 40) X hl 0 rfl rfl 24 rfl rfl ?_
      refine r_iload_n (pc' := 41) X hl 1 rfl rfl 25 rfl rfl ?_
      refine r_callV (pc' := 44) (As := [.int i1]) (rest := []) X Y 26 rfl rfl mRX8_331 (c_X8_body11 l G h h_items h_lanes h_sizes h_firms h_kinds h_now h_before h_images h_tape h_trace h_readFirms h_readKinds h_readAt h_rows h_bests S0 i1) (mB hM hne) 0 rfl rfl [0, 1, 2, 3, 4, 5, 6, 7, 8, 9, 10, 11, 12, 13, 14, 15] [] [0, 1, 2, 3, 4, 5, 6, 7, 8, 9, 10, 11, 12, 13, 14, 15] rfl rfl ⟨rfl, rfl, rfl⟩ rfl (w2 := fun u4 => wMS G h h_items h_lanes h_sizes h_firms h_kinds h_now h_before h_images h_tape h_trace h_readFirms h_readKinds h_readAt h_rows h_bests u4.2) (fun _ => rfl) rfl (Nat.le_of_ble_eq_true rfl) ⟨rfl, rfl⟩ ⟨Nat.le_of_ble_eq_true rfl, Nat.le_of_ble_eq_true rfl⟩ ⟨Nat.zero_le _, Nat.zero_le _⟩ hl.1 (st' := fun u4 => [.int u4.1]) (fun _ => rfl) (fun u4 H locs huu4 Y => ?_)
      replace hM := mS hM huu4
      exact RT (u4.1, u4.2) _ _ _ _ _ hM (Or.inl ⟨rfl, rfl, _, rfl⟩) (X.d (k := 27) rfl) Y
    · replace hM := mI hM c3
      refine r_aload_n (pc' := 27) X hl 0 rfl rfl 16 rfl rfl ?_
      refine r_bipush (pc' := 29) X (12 : Int32) 17 rfl rfl rfl ?_
      refine r_callV (pc' := 32) (As := [.int (12 : Int32)]) (rest := []) X Y 18 rfl rfl mRX8_310 (c_X8_leaves l G h h_items h_lanes h_sizes h_firms h_kinds h_now h_before h_images h_tape h_trace h_readFirms h_readKinds h_readAt h_rows h_bests S0 (12 : Int32)) (mB hM hne) 0 rfl rfl [0, 1, 2, 3, 4, 5, 6, 7, 8, 9, 10, 11, 12, 13, 14, 15] [] [0, 1, 2, 3, 4, 5, 6, 7, 8, 9, 10, 11, 12, 13, 14, 15] rfl rfl ⟨rfl, rfl, rfl⟩ rfl (w2 := fun u5 => wMS G h h_items h_lanes h_sizes h_firms h_kinds h_now h_before h_images h_tape h_trace h_readFirms h_readKinds h_readAt h_rows h_bests u5) (fun _ => rfl) rfl (Nat.le_of_ble_eq_true rfl) ⟨rfl, rfl⟩ ⟨Nat.le_of_ble_eq_true rfl, Nat.le_of_ble_eq_true rfl⟩ ⟨Nat.zero_le _, Nat.zero_le _⟩ hl.1 (st' := fun u5 => []) (fun _ => rfl) (fun u5 H locs huu5 Y => ?_)
      replace hM := mS hM huu5
      refine r_aload_n (pc' := 33) X hl 0 rfl rfl 19 rfl rfl ?_
      refine r_iload_n (pc' := 34) X hl 1 rfl rfl 20 rfl rfl ?_
      refine r_callV (pc' := 37) (As := [.int i1]) (rest := []) X Y 21 rfl rfl mRX8_331 (c_X8_body11 l G h h_items h_lanes h_sizes h_firms h_kinds h_now h_before h_images h_tape h_trace h_readFirms h_readKinds h_readAt h_rows h_bests u5 i1) (mB hM hne) 0 rfl rfl [0, 1, 2, 3, 4, 5, 6, 7, 8, 9, 10, 11, 12, 13, 14, 15] [] [0, 1, 2, 3, 4, 5, 6, 7, 8, 9, 10, 11, 12, 13, 14, 15] rfl rfl ⟨rfl, rfl, rfl⟩ rfl (w2 := fun u6 => wMS G h h_items h_lanes h_sizes h_firms h_kinds h_now h_before h_images h_tape h_trace h_readFirms h_readKinds h_readAt h_rows h_bests u6.2) (fun _ => rfl) rfl (Nat.le_of_ble_eq_true rfl) ⟨rfl, rfl⟩ ⟨Nat.le_of_ble_eq_true rfl, Nat.le_of_ble_eq_true rfl⟩ ⟨Nat.zero_le _, Nat.zero_le _⟩ hl.1 (st' := fun u6 => [.int u6.1]) (fun _ => rfl) (fun u6 H locs huu6 Y => ?_)
      replace hM := mS hM huu6
      refine r_ineg (pc' := 38) X 22 rfl rfl ?_
      exact RT ((-u6.1), u6.2) _ _ _ _ _ hM (Or.inl ⟨rfl, rfl, _, rfl⟩) (X.d (k := 23) rfl) Y
  · replace hM := mE hM c2
    refine r_aload_n (pc' := 11) X hl 0 rfl rfl 6 rfl rfl ?_
    refine r_iload_n (pc' := 12) X hl 1 rfl rfl 7 rfl rfl ?_
    refine r_callV (pc' := 15) (As := [.int i1]) (rest := []) X Y 8 rfl rfl mRX8_328 (c_X8_partnerSize l G h h_items h_lanes h_sizes h_firms h_kinds h_now h_before h_images h_tape h_trace h_readFirms h_readKinds h_readAt h_rows h_bests S0 i1) (mB hM hne) 0 rfl rfl [0, 1, 2, 3, 4, 5, 6, 7, 8, 9, 10, 11, 12, 13, 14, 15] [] [0, 1, 2, 3, 4, 5, 6, 7, 8, 9, 10, 11, 12, 13, 14, 15] rfl rfl ⟨rfl, rfl, rfl⟩ rfl (w2 := fun u7 => wMS G h h_items h_lanes h_sizes h_firms h_kinds h_now h_before h_images h_tape h_trace h_readFirms h_readKinds h_readAt h_rows h_bests u7.2) (fun _ => rfl) rfl (Nat.le_of_ble_eq_true rfl) ⟨rfl, rfl⟩ ⟨Nat.le_of_ble_eq_true rfl, Nat.le_of_ble_eq_true rfl⟩ ⟨Nat.zero_le _, Nat.zero_le _⟩ hl.1 (st' := fun u7 => [.int u7.1]) (fun _ => rfl) (fun u7 H locs huu7 Y => ?_)
    replace hM := mS hM huu7
    exact RT (u7.1, u7.2) _ _ _ _ _ hM (Or.inl ⟨rfl, rfl, _, rfl⟩) (X.d (k := 9) rfl) Y

def M_X8_mark (S0 : MS) (i1 : Int32) : Option (Int32 × MS) :=
  (if inb i1 8 = true then (if (4 : Int32) ≤ ((ms_kinds S0) (i1).toNatClampNeg) then ((M_X8_leaves S0 (23 : Int32)).bind (fun u3 => ((M_X8_body20 u3 i1).bind (fun u4 => ((M_X8_partnerSize u4.2 i1).bind (fun u5 => (some ((u4.1 - u5.1), u5.2)))))))) else ((M_X8_clerkMark S0 i1).bind (fun u6 => (some (u6.1, u6.2))))) else none)
def q_X8_mark : Room := { frames := 5, cells := 0, slots := 0, locals := 145 }
set_option maxHeartbeats 4000000 in
set_option maxRecDepth 100000 in
theorem c_X8_mark (l : Launch) (G : gT) (h h_items h_lanes h_sizes h_firms h_kinds h_now h_before h_images h_tape h_trace h_readFirms h_readKinds h_readAt h_rows h_bests : Nat) (S0 : MS) (i1 : Int32) : CT l G yX8_mark cX8_mark 3 (some .int) q_X8_mark [.ref h, .int i1] (wMS G h h_items h_lanes h_sizes h_firms h_kinds h_now h_before h_images h_tape h_trace h_readFirms h_readKinds h_readAt h_rows h_bests S0) (M_X8_mark S0 i1) (fun u => some (.int u.1)) (fun u => wMS G h h_items h_lanes h_sizes h_firms h_kinds h_now h_before h_images h_tape h_trace h_readFirms h_readKinds h_readAt h_rows h_bests u.2) := by
  refine CT.of (P := PX8_mark) (by decide) dPX8_mark (Nat.le_of_ble_eq_true rfl) ?_
  intro p e s m args below meth c A Q ls hne X RT Y hl
  have hl : lv_has ls 3 [(0, .ref h), (1, .int i1)] := hl
  generalize hM : M_X8_mark S0 i1 = MM at hne RT
  unfold M_X8_mark at hM
  refine r_aload_n (pc' := 1) X hl 0 rfl rfl 0 rfl rfl ?_
  refine r_get (pc' := 4) (v := .ref h_kinds) X Y 1 rfl rfl fRX8_22 0 rfl rfl ?_
  refine r_iload_n (pc' := 5) X hl 1 rfl rfl 2 rfl rfl ?_
  obtain ⟨g1, hM⟩ := mG hM hne
  refine r_iald (pc' := 6) X Y 3 rfl rfl 5 rfl (vin g1) ?_
  refine r_iconst (pc' := 7) X (4 : Int32) 4 rfl rfl rfl ?_
  refine r_icmp_ge (pc' := 10) X 16 5 rfl rfl (by decide) (fun c2 => ?_) (fun c2 => ?_)
  · replace hM := mI hM c2
    refine r_aload_n (pc' := 17) X hl 0 rfl rfl 10 rfl rfl ?_
    refine r_bipush (pc' := 19) X (23 : Int32) 11 rfl rfl rfl ?_
    refine r_callV (pc' := 22) (As := [.int (23 : Int32)]) (rest := []) X Y 12 rfl rfl mRX8_310 (c_X8_leaves l G h h_items h_lanes h_sizes h_firms h_kinds h_now h_before h_images h_tape h_trace h_readFirms h_readKinds h_readAt h_rows h_bests S0 (23 : Int32)) (mB hM hne) 0 rfl rfl [0, 1, 2, 3, 4, 5, 6, 7, 8, 9, 10, 11, 12, 13, 14, 15] [] [0, 1, 2, 3, 4, 5, 6, 7, 8, 9, 10, 11, 12, 13, 14, 15] rfl rfl ⟨rfl, rfl, rfl⟩ rfl (w2 := fun u3 => wMS G h h_items h_lanes h_sizes h_firms h_kinds h_now h_before h_images h_tape h_trace h_readFirms h_readKinds h_readAt h_rows h_bests u3) (fun _ => rfl) rfl (Nat.le_of_ble_eq_true rfl) ⟨rfl, rfl⟩ ⟨Nat.le_of_ble_eq_true rfl, Nat.le_of_ble_eq_true rfl⟩ ⟨Nat.zero_le _, Nat.zero_le _⟩ hl.1 (st' := fun u3 => []) (fun _ => rfl) (fun u3 H locs huu3 Y => ?_)
    replace hM := mS hM huu3
    refine r_aload_n (pc' := 23) X hl 0 rfl rfl 13 rfl rfl ?_
    refine r_iload_n (pc' := 24) X hl 1 rfl rfl 14 rfl rfl ?_
    refine r_callV (pc' := 27) (As := [.int i1]) (rest := []) X Y 15 rfl rfl mRX8_313 (c_X8_body20 l G h h_items h_lanes h_sizes h_firms h_kinds h_now h_before h_images h_tape h_trace h_readFirms h_readKinds h_readAt h_rows h_bests u3 i1) (mB hM hne) 0 rfl rfl [0, 1, 2, 3, 4, 5, 6, 7, 8, 9, 10, 11, 12, 13, 14, 15] [] [0, 1, 2, 3, 4, 5, 6, 7, 8, 9, 10, 11, 12, 13, 14, 15] rfl rfl ⟨rfl, rfl, rfl⟩ rfl (w2 := fun u4 => wMS G h h_items h_lanes h_sizes h_firms h_kinds h_now h_before h_images h_tape h_trace h_readFirms h_readKinds h_readAt h_rows h_bests u4.2) (fun _ => rfl) rfl (Nat.le_of_ble_eq_true rfl) ⟨rfl, rfl⟩ ⟨Nat.le_of_ble_eq_true rfl, Nat.le_of_ble_eq_true rfl⟩ ⟨Nat.zero_le _, Nat.zero_le _⟩ hl.1 (st' := fun u4 => [.int u4.1]) (fun _ => rfl) (fun u4 H locs huu4 Y => ?_)
    replace hM := mS hM huu4
    refine r_istore_n (pc' := 28) (L' := [(2, .int u4.1), (0, .ref h), (1, .int i1)]) X hl rfl 16 rfl rfl (by decide) rfl (fun ls hl => ?_)
    refine r_iload_n (pc' := 29) X hl 0 rfl rfl 17 rfl rfl ?_
    refine r_aload_n (pc' := 30) X hl 1 rfl rfl 18 rfl rfl ?_
    refine r_iload_n (pc' := 31) X hl 2 rfl rfl 19 rfl rfl ?_
    refine r_callV (pc' := 34) (As := [.int i1]) (rest := [.int u4.1]) X Y 20 rfl rfl mRX8_328 (c_X8_partnerSize l G h h_items h_lanes h_sizes h_firms h_kinds h_now h_before h_images h_tape h_trace h_readFirms h_readKinds h_readAt h_rows h_bests u4.2 i1) (mB hM hne) 0 rfl rfl [0, 1, 2, 3, 4, 5, 6, 7, 8, 9, 10, 11, 12, 13, 14, 15] [] [0, 1, 2, 3, 4, 5, 6, 7, 8, 9, 10, 11, 12, 13, 14, 15] rfl rfl ⟨rfl, rfl, rfl⟩ rfl (w2 := fun u5 => wMS G h h_items h_lanes h_sizes h_firms h_kinds h_now h_before h_images h_tape h_trace h_readFirms h_readKinds h_readAt h_rows h_bests u5.2) (fun _ => rfl) rfl (Nat.le_of_ble_eq_true rfl) ⟨rfl, rfl⟩ ⟨Nat.le_of_ble_eq_true rfl, Nat.le_of_ble_eq_true rfl⟩ ⟨Nat.zero_le _, Nat.zero_le _⟩ hl.1 (st' := fun u5 => [.int u5.1, .int u4.1]) (fun _ => rfl) (fun u5 H locs huu5 Y => ?_)
    replace hM := mS hM huu5
    refine r_isub (pc' := 35) X 21 rfl rfl ?_
    exact RT ((u4.1 - u5.1), u5.2) _ _ _ _ _ hM (Or.inl ⟨rfl, rfl, _, rfl⟩) (X.d (k := 22) rfl) Y
  · replace hM := mE hM c2
    refine r_aload_n (pc' := 11) X hl 0 rfl rfl 6 rfl rfl ?_
    refine r_iload_n (pc' := 12) X hl 1 rfl rfl 7 rfl rfl ?_
    refine r_callV (pc' := 15) (As := [.int i1]) (rest := []) X Y 8 rfl rfl mRX8_322 (c_X8_clerkMark l G h h_items h_lanes h_sizes h_firms h_kinds h_now h_before h_images h_tape h_trace h_readFirms h_readKinds h_readAt h_rows h_bests S0 i1) (mB hM hne) 0 rfl rfl [0, 1, 2, 3, 4, 5, 6, 7, 8, 9, 10, 11, 12, 13, 14, 15] [] [0, 1, 2, 3, 4, 5, 6, 7, 8, 9, 10, 11, 12, 13, 14, 15] rfl rfl ⟨rfl, rfl, rfl⟩ rfl (w2 := fun u6 => wMS G h h_items h_lanes h_sizes h_firms h_kinds h_now h_before h_images h_tape h_trace h_readFirms h_readKinds h_readAt h_rows h_bests u6.2) (fun _ => rfl) rfl (Nat.le_of_ble_eq_true rfl) ⟨rfl, rfl⟩ ⟨Nat.le_of_ble_eq_true rfl, Nat.le_of_ble_eq_true rfl⟩ ⟨Nat.zero_le _, Nat.zero_le _⟩ hl.1 (st' := fun u6 => [.int u6.1]) (fun _ => rfl) (fun u6 H locs huu6 Y => ?_)
    replace hM := mS hM huu6
    exact RT (u6.1, u6.2) _ _ _ _ _ hM (Or.inl ⟨rfl, rfl, _, rfl⟩) (X.d (k := 9) rfl) Y

def M_X8_ask (S0 : MS) (i1 : Int32) (i2 : Int32) : Option (Int32 × MS) :=
  ((M_X8_isMan S0 i1).bind (fun u1 => (if u1 = 0 then (some ((-1000001 : Int32), S0)) else ((M_X8_in ((i2).toInt64) (0 : Int64) (1 : Int64)).bind (fun u3 => (if u3 = 0 then (some ((-1000001 : Int32), S0)) else (if i2 = 0 then ((M_X8_size (((ms_status S0), (ms_points S0), (ms_home S0), (ms_men S0), (ms_hasTable S0), (ms_acts S0), (ms_imaged S0), (ms_length S0), (ms_fault S0), (0 : Int32), (ms_spot S0), (ms_begins S0), (ms_token S0), (ms_number S0), (ms_readPoints S0), (ms_readHome S0), (ms_readMen S0), (ms_otherOne S0), (ms_otherKind S0), (ms_items S0), (ms_lanes S0), (ms_sizes S0), (ms_firms S0), (ms_kinds S0), (ms_now S0), (ms_before S0), (ms_images S0), (ms_tape S0), (ms_trace S0), (ms_readFirms S0), (ms_readKinds S0), (ms_readAt S0), (ms_rows S0), (ms_bests S0))) i1).bind (fun u7 => (some (u7.1, u7.2)))) else ((M_X8_mark (((ms_status S0), (ms_points S0), (ms_home S0), (ms_men S0), (ms_hasTable S0), (ms_acts S0), (ms_imaged S0), (ms_length S0), (ms_fault S0), (0 : Int32), (ms_spot S0), (ms_begins S0), (ms_token S0), (ms_number S0), (ms_readPoints S0), (ms_readHome S0), (ms_readMen S0), (ms_otherOne S0), (ms_otherKind S0), (ms_items S0), (ms_lanes S0), (ms_sizes S0), (ms_firms S0), (ms_kinds S0), (ms_now S0), (ms_before S0), (ms_images S0), (ms_tape S0), (ms_trace S0), (ms_readFirms S0), (ms_readKinds S0), (ms_readAt S0), (ms_rows S0), (ms_bests S0))) i1).bind (fun u6 => (some (u6.1, u6.2)))))))))))
def q_X8_ask : Room := { frames := 7, cells := 0, slots := 0, locals := 187 }
set_option maxHeartbeats 4000000 in
set_option maxRecDepth 100000 in
theorem c_X8_ask (l : Launch) (G : gT) (h h_items h_lanes h_sizes h_firms h_kinds h_now h_before h_images h_tape h_trace h_readFirms h_readKinds h_readAt h_rows h_bests : Nat) (S0 : MS) (i1 : Int32) (i2 : Int32) : CT l G yX8_ask cX8_ask 3 (some .int) q_X8_ask [.ref h, .int i1, .int i2] (wMS G h h_items h_lanes h_sizes h_firms h_kinds h_now h_before h_images h_tape h_trace h_readFirms h_readKinds h_readAt h_rows h_bests S0) (M_X8_ask S0 i1 i2) (fun u => some (.int u.1)) (fun u => wMS G h h_items h_lanes h_sizes h_firms h_kinds h_now h_before h_images h_tape h_trace h_readFirms h_readKinds h_readAt h_rows h_bests u.2) := by
  refine CT.of (P := PX8_ask) (by decide) dPX8_ask (Nat.le_of_ble_eq_true rfl) ?_
  intro p e s m args below meth c A Q ls hne X RT Y hl
  have hl : lv_has ls 3 [(0, .ref h), (1, .int i1), (2, .int i2)] := hl
  generalize hM : M_X8_ask S0 i1 i2 = MM at hne RT
  unfold M_X8_ask at hM
  refine r_aload_n (pc' := 1) X hl 0 rfl rfl 0 rfl rfl ?_
  refine r_iload_n (pc' := 2) X hl 1 rfl rfl 1 rfl rfl ?_
  refine r_callV0 (pc' := 5) (As := [.int i1]) (rest := []) X Y 2 rfl rfl mRX8_240 (c_X8_isMan l G h h_items h_lanes h_sizes h_firms h_kinds h_now h_before h_images h_tape h_trace h_readFirms h_readKinds h_readAt h_rows h_bests S0 i1) (mB hM hne) 0 rfl rfl [0, 1, 2, 3, 4, 5, 6, 7, 8, 9, 10, 11, 12, 13, 14, 15] rfl rfl rfl (Nat.le_of_ble_eq_true rfl) ⟨rfl, rfl⟩ ⟨Nat.le_of_ble_eq_true rfl, Nat.le_of_ble_eq_true rfl⟩ ⟨Nat.zero_le _, Nat.zero_le _⟩ hl.1 (st' := fun u1 => [.int u1]) (fun _ => rfl) (fun u1 H locs huu1 Y => ?_)
  replace hM := mS hM huu1
  refine r_if_eq (pc' := 8) X 18 3 rfl rfl (by decide) (fun c2 => ?_) (fun c2 => ?_)
  · replace hM := mI hM c2
    refine r_ldc (pc' := 20) X mw546 10 rfl rfl ?_
    exact RT ((-1000001 : Int32), S0) _ _ _ _ _ hM (Or.inl ⟨rfl, rfl, _, rfl⟩) (X.d (k := 11) rfl) Y
  · replace hM := mE hM c2
    refine r_iload_n (pc' := 9) X hl 2 rfl rfl 4 rfl rfl ?_
    refine r_i2l (pc' := 10) X 5 rfl rfl ?_
    refine r_lconst (pc' := 11) X (0 : Int64) 6 rfl rfl rfl ?_
    refine r_lconst (pc' := 12) X (1 : Int64) 7 rfl rfl rfl ?_
    refine r_callS0 (pc' := 15) (As := [.long (i2).toInt64, .long (0 : Int64), .long (1 : Int64)]) (rest := []) X Y 8 rfl rfl mRX8_66 (c_X8_in l G ((i2).toInt64) (0 : Int64) (1 : Int64)) (mB hM hne) rfl [] rfl rfl rfl (Nat.le_of_ble_eq_true rfl) ⟨rfl, rfl⟩ ⟨Nat.le_of_ble_eq_true rfl, Nat.le_of_ble_eq_true rfl⟩ ⟨Nat.zero_le _, Nat.zero_le _⟩ hl.1 (st' := fun u3 => [.int u3]) (fun _ => rfl) (fun u3 H locs huu3 Y => ?_)
    replace hM := mS hM huu3
    refine r_if_ne (pc' := 18) X 21 9 rfl rfl (by decide) (fun c4 => ?_) (fun c4 => ?_)
    · replace hM := mE hM c4
      refine r_aload_n (pc' := 22) X hl 0 rfl rfl 12 rfl rfl ?_
      refine r_iconst (pc' := 23) X (0 : Int32) 13 rfl rfl rfl ?_
      refine r_put (pc' := 26) (ws' := wMS G h h_items h_lanes h_sizes h_firms h_kinds h_now h_before h_images h_tape h_trace h_readFirms h_readKinds h_readAt h_rows h_bests ((ms_status S0), (ms_points S0), (ms_home S0), (ms_men S0), (ms_hasTable S0), (ms_acts S0), (ms_imaged S0), (ms_length S0), (ms_fault S0), (0 : Int32), (ms_spot S0), (ms_begins S0), (ms_token S0), (ms_number S0), (ms_readPoints S0), (ms_readHome S0), (ms_readMen S0), (ms_otherOne S0), (ms_otherKind S0), (ms_items S0), (ms_lanes S0), (ms_sizes S0), (ms_firms S0), (ms_kinds S0), (ms_now S0), (ms_before S0), (ms_images S0), (ms_tape S0), (ms_trace S0), (ms_readFirms S0), (ms_readKinds S0), (ms_readAt S0), (ms_rows S0), (ms_bests S0))) X Y 14 rfl rfl fRX8_307 0 rfl rfl rfl (Nat.le_of_ble_eq_true rfl) rfl (fun H locs Y => ?_)
      refine r_iload_n (pc' := 27) X hl 2 rfl rfl 15 rfl rfl ?_
      refine r_if_ne (pc' := 30) X 38 16 rfl rfl (by decide) (fun c5 => ?_) (fun c5 => ?_)
      · replace hM := mE hM c5
        refine r_aload_n (pc' := 39) X hl 0 rfl rfl 21 rfl rfl ?_
        refine r_iload_n (pc' := 40) X hl 1 rfl rfl 22 rfl rfl ?_
        refine r_callV (pc' := 43) (As := [.int i1]) (rest := []) X Y 23 rfl rfl mRX8_337 (c_X8_mark l G h h_items h_lanes h_sizes h_firms h_kinds h_now h_before h_images h_tape h_trace h_readFirms h_readKinds h_readAt h_rows h_bests (((ms_status S0), (ms_points S0), (ms_home S0), (ms_men S0), (ms_hasTable S0), (ms_acts S0), (ms_imaged S0), (ms_length S0), (ms_fault S0), (0 : Int32), (ms_spot S0), (ms_begins S0), (ms_token S0), (ms_number S0), (ms_readPoints S0), (ms_readHome S0), (ms_readMen S0), (ms_otherOne S0), (ms_otherKind S0), (ms_items S0), (ms_lanes S0), (ms_sizes S0), (ms_firms S0), (ms_kinds S0), (ms_now S0), (ms_before S0), (ms_images S0), (ms_tape S0), (ms_trace S0), (ms_readFirms S0), (ms_readKinds S0), (ms_readAt S0), (ms_rows S0), (ms_bests S0))) i1) (mB hM hne) 0 rfl rfl [0, 1, 2, 3, 4, 5, 6, 7, 8, 9, 10, 11, 12, 13, 14, 15] [] [0, 1, 2, 3, 4, 5, 6, 7, 8, 9, 10, 11, 12, 13, 14, 15] rfl rfl ⟨rfl, rfl, rfl⟩ rfl (w2 := fun u6 => wMS G h h_items h_lanes h_sizes h_firms h_kinds h_now h_before h_images h_tape h_trace h_readFirms h_readKinds h_readAt h_rows h_bests u6.2) (fun _ => rfl) rfl (Nat.le_of_ble_eq_true rfl) ⟨rfl, rfl⟩ ⟨Nat.le_of_ble_eq_true rfl, Nat.le_of_ble_eq_true rfl⟩ ⟨Nat.zero_le _, Nat.zero_le _⟩ hl.1 (st' := fun u6 => [.int u6.1]) (fun _ => rfl) (fun u6 H locs huu6 Y => ?_)
        replace hM := mS hM huu6
        exact RT (u6.1, u6.2) _ _ _ _ _ hM (Or.inl ⟨rfl, rfl, _, rfl⟩) (X.d (k := 24) rfl) Y
      · replace hM := mI hM c5
        refine r_aload_n (pc' := 31) X hl 0 rfl rfl 17 rfl rfl ?_
        refine r_iload_n (pc' := 32) X hl 1 rfl rfl 18 rfl rfl ?_
        refine r_callV (pc' := 35) (As := [.int i1]) (rest := []) X Y 19 rfl rfl mRX8_334 (c_X8_size l G h h_items h_lanes h_sizes h_firms h_kinds h_now h_before h_images h_tape h_trace h_readFirms h_readKinds h_readAt h_rows h_bests (((ms_status S0), (ms_points S0), (ms_home S0), (ms_men S0), (ms_hasTable S0), (ms_acts S0), (ms_imaged S0), (ms_length S0), (ms_fault S0), (0 : Int32), (ms_spot S0), (ms_begins S0), (ms_token S0), (ms_number S0), (ms_readPoints S0), (ms_readHome S0), (ms_readMen S0), (ms_otherOne S0), (ms_otherKind S0), (ms_items S0), (ms_lanes S0), (ms_sizes S0), (ms_firms S0), (ms_kinds S0), (ms_now S0), (ms_before S0), (ms_images S0), (ms_tape S0), (ms_trace S0), (ms_readFirms S0), (ms_readKinds S0), (ms_readAt S0), (ms_rows S0), (ms_bests S0))) i1) (mB hM hne) 0 rfl rfl [0, 1, 2, 3, 4, 5, 6, 7, 8, 9, 10, 11, 12, 13, 14, 15] [] [0, 1, 2, 3, 4, 5, 6, 7, 8, 9, 10, 11, 12, 13, 14, 15] rfl rfl ⟨rfl, rfl, rfl⟩ rfl (w2 := fun u7 => wMS G h h_items h_lanes h_sizes h_firms h_kinds h_now h_before h_images h_tape h_trace h_readFirms h_readKinds h_readAt h_rows h_bests u7.2) (fun _ => rfl) rfl (Nat.le_of_ble_eq_true rfl) ⟨rfl, rfl⟩ ⟨Nat.le_of_ble_eq_true rfl, Nat.le_of_ble_eq_true rfl⟩ ⟨Nat.zero_le _, Nat.zero_le _⟩ hl.1 (st' := fun u7 => [.int u7.1]) (fun _ => rfl) (fun u7 H locs huu7 Y => ?_)
        replace hM := mS hM huu7
        refine r_goto X 43 20 rfl (by decide) ?_
        exact RT (u7.1, u7.2) _ _ _ _ _ hM (Or.inl ⟨rfl, rfl, _, rfl⟩) (X.d (k := 24) rfl) Y
    · replace hM := mI hM c4
      refine r_ldc (pc' := 20) X mw546 10 rfl rfl ?_
      exact RT ((-1000001 : Int32), S0) _ _ _ _ _ hM (Or.inl ⟨rfl, rfl, _, rfl⟩) (X.d (k := 11) rfl) Y

def M_X8_trace (S0 : MS) (i1 : Int32) : Option (Int32) :=
  ((M_X8_in ((i1).toInt64) (0 : Int64) ((((ms_traced S0) - (1 : Int32))).toInt64)).bind (fun u1 => (if u1 = 0 then (some (-1000000 : Int32)) else (if inb i1 16 = true then (some ((ms_trace S0) (i1).toNatClampNeg)) else none))))
def q_X8_trace : Room := { frames := 2, cells := 0, slots := 0, locals := 85 }
set_option maxHeartbeats 4000000 in
set_option maxRecDepth 100000 in
theorem c_X8_trace (l : Launch) (G : gT) (h h_items h_lanes h_sizes h_firms h_kinds h_now h_before h_images h_tape h_trace h_readFirms h_readKinds h_readAt h_rows h_bests : Nat) (S0 : MS) (i1 : Int32) : CT l G yX8_trace cX8_trace 2 (some .int) q_X8_trace [.ref h, .int i1] (wMS G h h_items h_lanes h_sizes h_firms h_kinds h_now h_before h_images h_tape h_trace h_readFirms h_readKinds h_readAt h_rows h_bests S0) (M_X8_trace S0 i1) (fun u => some (.int u)) (fun u => wMS G h h_items h_lanes h_sizes h_firms h_kinds h_now h_before h_images h_tape h_trace h_readFirms h_readKinds h_readAt h_rows h_bests S0) := by
  refine CT.of (P := PX8_trace) (by decide) dPX8_trace (Nat.le_of_ble_eq_true rfl) ?_
  intro p e s m args below meth c A Q ls hne X RT Y hl
  have hl : lv_has ls 2 [(0, .ref h), (1, .int i1)] := hl
  generalize hM : M_X8_trace S0 i1 = MM at hne RT
  unfold M_X8_trace at hM
  refine r_iload_n (pc' := 1) X hl 1 rfl rfl 0 rfl rfl ?_
  refine r_i2l (pc' := 2) X 1 rfl rfl ?_
  refine r_lconst (pc' := 3) X (0 : Int64) 2 rfl rfl rfl ?_
  refine r_aload_n (pc' := 4) X hl 0 rfl rfl 3 rfl rfl ?_
  refine r_get (pc' := 7) (v := .int (ms_traced S0)) X Y 4 rfl rfl fRX8_307 0 rfl rfl ?_
  refine r_iconst (pc' := 8) X (1 : Int32) 5 rfl rfl rfl ?_
  refine r_isub (pc' := 9) X 6 rfl rfl ?_
  refine r_i2l (pc' := 10) X 7 rfl rfl ?_
  refine r_callS0 (pc' := 13) (As := [.long (i1).toInt64, .long (0 : Int64), .long (((ms_traced S0) - (1 : Int32))).toInt64]) (rest := []) X Y 8 rfl rfl mRX8_66 (c_X8_in l G ((i1).toInt64) (0 : Int64) ((((ms_traced S0) - (1 : Int32))).toInt64)) (mB hM hne) rfl [] rfl rfl rfl (Nat.le_of_ble_eq_true rfl) ⟨rfl, rfl⟩ ⟨Nat.le_of_ble_eq_true rfl, Nat.le_of_ble_eq_true rfl⟩ ⟨Nat.zero_le _, Nat.zero_le _⟩ hl.1 (st' := fun u1 => [.int u1]) (fun _ => rfl) (fun u1 H locs huu1 Y => ?_)
  replace hM := mS hM huu1
  refine r_if_eq (pc' := 16) X 25 9 rfl rfl (by decide) (fun c2 => ?_) (fun c2 => ?_)
  · replace hM := mI hM c2
    refine r_ldc (pc' := 27) X mw530 15 rfl rfl ?_
    exact RT (-1000000 : Int32) _ _ _ _ _ hM (Or.inl ⟨rfl, rfl, _, rfl⟩) (X.d (k := 16) rfl) Y
  · replace hM := mE hM c2
    refine r_aload_n (pc' := 17) X hl 0 rfl rfl 10 rfl rfl ?_
    refine r_get (pc' := 20) (v := .ref h_trace) X Y 11 rfl rfl fRX8_37 0 rfl rfl ?_
    refine r_iload_n (pc' := 21) X hl 1 rfl rfl 12 rfl rfl ?_
    obtain ⟨g3, hM⟩ := mG hM hne
    refine r_iald (pc' := 22) X Y 13 rfl rfl 10 rfl (vin g3) ?_
    refine r_goto X 27 14 rfl (by decide) ?_
    exact RT ((ms_trace S0) (i1).toNatClampNeg) _ _ _ _ _ hM (Or.inl ⟨rfl, rfl, _, rfl⟩) (X.d (k := 16) rfl) Y

def M_X8_manyNow (S0 : MS) (i1 : Int32) : Option (Int32) :=
  ((lp (σ := Int32 × Int32) (β := Int32) (fun rec1 st1 => (if (ms_men S0) ≤ st1.2 then (some st1.1) else (if inb st1.2 12 = true then (if ((ms_now S0) (st1.2).toNatClampNeg) = i1 then (rec1 ((st1.1 + (1 : Int32)), (st1.2 + (1 : Int32)))) else (rec1 ((st1.1 + (0 : Int32)), (st1.2 + (1 : Int32))))) else none))) 1000000 ((0 : Int32), (0 : Int32))).bind (fun b1 => (some b1)))
def q_X8_manyNow : Room := { frames := 1, cells := 0, slots := 0, locals := 60 }
set_option maxHeartbeats 4000000 in
set_option maxRecDepth 100000 in
theorem c_X8_manyNow (l : Launch) (G : gT) (h h_items h_lanes h_sizes h_firms h_kinds h_now h_before h_images h_tape h_trace h_readFirms h_readKinds h_readAt h_rows h_bests : Nat) (S0 : MS) (i1 : Int32) : CT l G yX8_manyNow cX8_manyNow 4 (some .int) q_X8_manyNow [.ref h, .int i1] (wMS G h h_items h_lanes h_sizes h_firms h_kinds h_now h_before h_images h_tape h_trace h_readFirms h_readKinds h_readAt h_rows h_bests S0) (M_X8_manyNow S0 i1) (fun u => some (.int u)) (fun u => wMS G h h_items h_lanes h_sizes h_firms h_kinds h_now h_before h_images h_tape h_trace h_readFirms h_readKinds h_readAt h_rows h_bests S0) := by
  refine CT.of (P := PX8_manyNow) (by decide) dPX8_manyNow (Nat.le_of_ble_eq_true rfl) ?_
  intro p e s m args below meth c A Q ls hne X RT Y hl
  have hl : lv_has ls 4 [(0, .ref h), (1, .int i1)] := hl
  generalize hM : M_X8_manyNow S0 i1 = MM at hne RT
  unfold M_X8_manyNow at hM
  refine r_iconst (pc' := 1) X (0 : Int32) 0 rfl rfl rfl ?_
  refine r_istore_n (pc' := 2) (L' := [(2, .int (0 : Int32)), (0, .ref h), (1, .int i1)]) X hl rfl 1 rfl rfl (by decide) rfl (fun ls hl => ?_)
  refine r_iconst (pc' := 3) X (0 : Int32) 2 rfl rfl rfl ?_
  refine r_istore_n (pc' := 4) (L' := [(3, .int (0 : Int32)), (2, .int (0 : Int32)), (0, .ref h), (1, .int i1)]) X hl rfl 3 rfl rfl (by decide) rfl (fun ls hl => ?_)
  obtain ⟨LL1, hL1, hne1, hX1⟩ := mL hM hne
  have KX1 : ∀ (b1 : Int32) (H : Heap) (locs : List Loc) (ls : Array Slot), some b1 = LL1 → rY G A s (wMS G h h_items h_lanes h_sizes h_firms h_kinds h_now h_before h_images h_tape h_trace h_readFirms h_readKinds h_readAt h_rows h_bests S0) H locs → lv_has ls 4 [(2, .int b1)] → W p l e q_X8_manyNow s m args below meth c H locs 0 0 Q (F0 m 36 ls []) := by
    intro b1 H locs ls hM Y hl
    replace hM := hX1 _ hM
    refine r_iload_n (pc' := 37) X hl 0 rfl rfl 22 rfl rfl ?_
    exact RT b1 _ _ _ _ _ hM (Or.inl ⟨rfl, rfl, _, rfl⟩) (X.d (k := 23) rfl) Y
  refine lp_rule (I := fun (st1 : Int32 × Int32) => ∀ (H : Heap) (locs : List Loc) (ls : Array Slot), rY G A s (wMS G h h_items h_lanes h_sizes h_firms h_kinds h_now h_before h_images h_tape h_trace h_readFirms h_readKinds h_readAt h_rows h_bests S0) H locs → lv_has ls 4 [(0, .ref h), (1, .int i1), (2, .int st1.1), (3, .int st1.2)] → W p l e q_X8_manyNow s m args below meth c H locs 0 0 Q (F0 m 4 ls [])) hne1 (fun rec1 st1 IH1 hM => ?_) _ _ hL1 _ _ _ Y (lv_sub hl [2, 3, 1, 0] rfl)
  intro H locs ls Y hl
  refine r_iload_n (pc' := 5) X hl 3 rfl rfl 4 rfl rfl ?_
  refine r_aload_n (pc' := 6) X hl 0 rfl rfl 5 rfl rfl ?_
  refine r_get (pc' := 9) (v := .int (ms_men S0)) X Y 6 rfl rfl fRX8_159 0 rfl rfl ?_
  refine r_icmp_ge (pc' := 12) X 36 7 rfl rfl (by decide) (fun c2 => ?_) (fun c2 => ?_)
  · replace hM := mI hM c2
    exact KX1 _ _ _ _ hM Y (lv_sub hl [2] rfl)
  · replace hM := mE hM c2
    refine r_iload_n (pc' := 13) X hl 2 rfl rfl 8 rfl rfl ?_
    refine r_aload_n (pc' := 14) X hl 0 rfl rfl 9 rfl rfl ?_
    refine r_get (pc' := 17) (v := .ref h_now) X Y 10 rfl rfl fRX8_25 0 rfl rfl ?_
    refine r_iload_n (pc' := 18) X hl 3 rfl rfl 11 rfl rfl ?_
    obtain ⟨g3, hM⟩ := mG hM hne1
    refine r_iald (pc' := 19) X Y 12 rfl rfl 6 rfl (vin g3) ?_
    refine r_iload_n (pc' := 20) X hl 1 rfl rfl 13 rfl rfl ?_
    refine r_icmp_ne (pc' := 23) X 27 14 rfl rfl (by decide) (fun c4 => ?_) (fun c4 => ?_)
    · replace hM := mE hM c4
      refine r_iconst (pc' := 28) X (0 : Int32) 17 rfl rfl rfl ?_
      refine r_iadd (pc' := 29) X 18 rfl rfl ?_
      refine r_istore_n (pc' := 30) (L' := [(2, .int (st1.1 + (0 : Int32))), (0, .ref h), (1, .int i1), (3, .int st1.2)]) X hl rfl 19 rfl rfl (by decide) rfl (fun ls hl => ?_)
      refine r_iinc (pc' := 33) (L' := [(3, .int (st1.2 + (1 : Int32))), (2, .int (st1.1 + (0 : Int32))), (0, .ref h), (1, .int i1)]) X (st1.2 + (1 : Int32)) hl 3 rfl rfl 20 rfl rfl (by decide) rfl (fun ls hl => ?_)
      refine r_goto X 4 21 rfl (by decide) ?_
      exact IH1 _ hM _ _ _ Y (lv_sub hl [2, 3, 1, 0] rfl)
    · replace hM := mI hM c4
      refine r_iconst (pc' := 24) X (1 : Int32) 15 rfl rfl rfl ?_
      refine r_goto X 28 16 rfl (by decide) ?_
      refine r_iadd (pc' := 29) X 18 rfl rfl ?_
      refine r_istore_n (pc' := 30) (L' := [(2, .int (st1.1 + (1 : Int32))), (0, .ref h), (1, .int i1), (3, .int st1.2)]) X hl rfl 19 rfl rfl (by decide) rfl (fun ls hl => ?_)
      refine r_iinc (pc' := 33) (L' := [(3, .int (st1.2 + (1 : Int32))), (2, .int (st1.1 + (1 : Int32))), (0, .ref h), (1, .int i1)]) X (st1.2 + (1 : Int32)) hl 3 rfl rfl 20 rfl rfl (by decide) rfl (fun ls hl => ?_)
      refine r_goto X 4 21 rfl (by decide) ?_
      exact IH1 _ hM _ _ _ Y (lv_sub hl [2, 3, 1, 0] rfl)

def M_X8_count (S0 : MS) (i1 : Int32) : Option (Int32) :=
  (if i1 = 0 then ((lp (σ := Int32 × Int32) (β := Int32) (fun rec2 st2 => (if (8 : Int32) ≤ st2.2 then (some st2.1) else (if inb st2.2 8 = true then (if 0 ≤ ((ms_sizes S0) (st2.2).toNatClampNeg) then (rec2 ((st2.1 + (1 : Int32)), (st2.2 + (1 : Int32)))) else (rec2 ((st2.1 + (0 : Int32)), (st2.2 + (1 : Int32))))) else none))) 1000000 ((0 : Int32), (0 : Int32))).bind (fun b2 => (some b2))) else (if i1 = 1 then (some (ms_men S0)) else (if i1 = 2 then (some ((ms_now S0) ((11 : Int32)).toNatClampNeg)) else (if i1 = 3 then ((M_X8_manyNow S0 (99 : Int32)).bind (fun u6 => (some u6))) else (if i1 = 4 then ((M_X8_manyNow S0 (ms_points S0)).bind (fun u7 => (some u7))) else (if i1 = 5 then (some (ms_points S0)) else (if i1 = 6 then (some (ms_acts S0)) else (if i1 = 7 then (some (ms_length S0)) else (some (-1000001 : Int32))))))))))
def q_X8_count : Room := { frames := 2, cells := 0, slots := 0, locals := 83 }
set_option maxHeartbeats 4000000 in
set_option maxRecDepth 100000 in
theorem c_X8_count (l : Launch) (G : gT) (h h_items h_lanes h_sizes h_firms h_kinds h_now h_before h_images h_tape h_trace h_readFirms h_readKinds h_readAt h_rows h_bests : Nat) (S0 : MS) (i1 : Int32) : CT l G yX8_count cX8_count 4 (some .int) q_X8_count [.ref h, .int i1] (wMS G h h_items h_lanes h_sizes h_firms h_kinds h_now h_before h_images h_tape h_trace h_readFirms h_readKinds h_readAt h_rows h_bests S0) (M_X8_count S0 i1) (fun u => some (.int u)) (fun u => wMS G h h_items h_lanes h_sizes h_firms h_kinds h_now h_before h_images h_tape h_trace h_readFirms h_readKinds h_readAt h_rows h_bests S0) := by
  refine CT.of (P := PX8_count) (by decide) dPX8_count (Nat.le_of_ble_eq_true rfl) ?_
  intro p e s m args below meth c A Q ls hne X RT Y hl
  have hl : lv_has ls 4 [(0, .ref h), (1, .int i1)] := hl
  generalize hM : M_X8_count S0 i1 = MM at hne RT
  unfold M_X8_count at hM
  refine r_iload_n (pc' := 1) X hl 1 rfl rfl 0 rfl rfl ?_
  by_cases h1_0 : i1 = 0
  · replace hM := mI hM h1_0
    refine r_tabIn X 48 1 rfl (0 : Int32) h1_0 (by decide) rfl (by decide) ?_
    refine r_iconst (pc' := 49) X (0 : Int32) 2 rfl rfl rfl ?_
    refine r_istore_n (pc' := 50) (L' := [(2, .int (0 : Int32)), (0, .ref h), (1, .int i1)]) X hl rfl 3 rfl rfl (by decide) rfl (fun ls hl => ?_)
    refine r_iconst (pc' := 51) X (0 : Int32) 4 rfl rfl rfl ?_
    refine r_istore_n (pc' := 52) (L' := [(3, .int (0 : Int32)), (2, .int (0 : Int32)), (0, .ref h), (1, .int i1)]) X hl rfl 5 rfl rfl (by decide) rfl (fun ls hl => ?_)
    obtain ⟨LL2, hL2, hne2, hX2⟩ := mL hM hne
    have KX2 : ∀ (b2 : Int32) (H : Heap) (locs : List Loc) (ls : Array Slot), some b2 = LL2 → rY G A s (wMS G h h_items h_lanes h_sizes h_firms h_kinds h_now h_before h_images h_tape h_trace h_readFirms h_readKinds h_readAt h_rows h_bests S0) H locs → lv_has ls 4 [(2, .int b2)] → W p l e q_X8_count s m args below meth c H locs 0 0 Q (F0 m 81 ls []) := by
      intro b2 H locs ls hM Y hl
      replace hM := hX2 _ hM
      refine r_iload_n (pc' := 82) X hl 0 rfl rfl 22 rfl rfl ?_
      exact RT b2 _ _ _ _ _ hM (Or.inl ⟨rfl, rfl, _, rfl⟩) (X.d (k := 23) rfl) Y
    refine lp_rule (I := fun (st2 : Int32 × Int32) => ∀ (H : Heap) (locs : List Loc) (ls : Array Slot), rY G A s (wMS G h h_items h_lanes h_sizes h_firms h_kinds h_now h_before h_images h_tape h_trace h_readFirms h_readKinds h_readAt h_rows h_bests S0) H locs → lv_has ls 4 [(0, .ref h), (2, .int st2.1), (3, .int st2.2)] → W p l e q_X8_count s m args below meth c H locs 0 0 Q (F0 m 52 ls [])) hne2 (fun rec2 st2 IH2 hM => ?_) _ _ hL2 _ _ _ Y (lv_sub hl [2, 1, 0] rfl)
    intro H locs ls Y hl
    refine r_iload_n (pc' := 53) X hl 2 rfl rfl 6 rfl rfl ?_
    refine r_bipush (pc' := 55) X (8 : Int32) 7 rfl rfl rfl ?_
    refine r_icmp_ge (pc' := 58) X 81 8 rfl rfl (by decide) (fun c3 => ?_) (fun c3 => ?_)
    · replace hM := mI hM c3
      exact KX2 _ _ _ _ hM Y (lv_sub hl [1] rfl)
    · replace hM := mE hM c3
      refine r_iload_n (pc' := 59) X hl 1 rfl rfl 9 rfl rfl ?_
      refine r_aload_n (pc' := 60) X hl 0 rfl rfl 10 rfl rfl ?_
      refine r_get (pc' := 63) (v := .ref h_sizes) X Y 11 rfl rfl fRX8_16 0 rfl rfl ?_
      refine r_iload_n (pc' := 64) X hl 2 rfl rfl 12 rfl rfl ?_
      obtain ⟨g4, hM⟩ := mG hM hne2
      refine r_iald (pc' := 65) X Y 13 rfl rfl 3 rfl (vin g4) ?_
      refine r_if_ge (pc' := 68) X 72 14 rfl rfl (by decide) (fun c5 => ?_) (fun c5 => ?_)
      · replace hM := mI hM c5
        refine r_iconst (pc' := 73) X (1 : Int32) 17 rfl rfl rfl ?_
        refine r_iadd (pc' := 74) X 18 rfl rfl ?_
        refine r_istore_n (pc' := 75) (L' := [(2, .int (st2.1 + (1 : Int32))), (0, .ref h), (3, .int st2.2)]) X hl rfl 19 rfl rfl (by decide) rfl (fun ls hl => ?_)
        refine r_iinc (pc' := 78) (L' := [(3, .int (st2.2 + (1 : Int32))), (2, .int (st2.1 + (1 : Int32))), (0, .ref h)]) X (st2.2 + (1 : Int32)) hl 2 rfl rfl 20 rfl rfl (by decide) rfl (fun ls hl => ?_)
        refine r_goto X 52 21 rfl (by decide) ?_
        exact IH2 _ hM _ _ _ Y (lv_sub hl [2, 1, 0] rfl)
      · replace hM := mE hM c5
        refine r_iconst (pc' := 69) X (0 : Int32) 15 rfl rfl rfl ?_
        refine r_goto X 73 16 rfl (by decide) ?_
        refine r_iadd (pc' := 74) X 18 rfl rfl ?_
        refine r_istore_n (pc' := 75) (L' := [(2, .int (st2.1 + (0 : Int32))), (0, .ref h), (3, .int st2.2)]) X hl rfl 19 rfl rfl (by decide) rfl (fun ls hl => ?_)
        refine r_iinc (pc' := 78) (L' := [(3, .int (st2.2 + (1 : Int32))), (2, .int (st2.1 + (0 : Int32))), (0, .ref h)]) X (st2.2 + (1 : Int32)) hl 2 rfl rfl 20 rfl rfl (by decide) rfl (fun ls hl => ?_)
        refine r_goto X 52 21 rfl (by decide) ?_
        exact IH2 _ hM _ _ _ Y (lv_sub hl [2, 1, 0] rfl)
  replace hM := mE hM h1_0
  by_cases h1_1 : i1 = 1
  · replace hM := mI hM h1_1
    refine r_tabIn X 83 1 rfl (1 : Int32) h1_1 (by decide) rfl (by decide) ?_
    refine r_aload_n (pc' := 84) X hl 0 rfl rfl 24 rfl rfl ?_
    refine r_get (pc' := 87) (v := .int (ms_men S0)) X Y 25 rfl rfl fRX8_159 0 rfl rfl ?_
    exact RT (ms_men S0) _ _ _ _ _ hM (Or.inl ⟨rfl, rfl, _, rfl⟩) (X.d (k := 26) rfl) Y
  replace hM := mE hM h1_1
  by_cases h1_2 : i1 = 2
  · replace hM := mI hM h1_2
    refine r_tabIn X 88 1 rfl (2 : Int32) h1_2 (by decide) rfl (by decide) ?_
    refine r_aload_n (pc' := 89) X hl 0 rfl rfl 27 rfl rfl ?_
    refine r_get (pc' := 92) (v := .ref h_now) X Y 28 rfl rfl fRX8_25 0 rfl rfl ?_
    refine r_bipush (pc' := 94) X (11 : Int32) 29 rfl rfl rfl ?_
    refine r_iald (pc' := 95) X Y 30 rfl rfl 6 rfl (vin rfl) ?_
    exact RT ((ms_now S0) ((11 : Int32)).toNatClampNeg) _ _ _ _ _ hM (Or.inl ⟨rfl, rfl, _, rfl⟩) (X.d (k := 31) rfl) Y
  replace hM := mE hM h1_2
  by_cases h1_3 : i1 = 3
  · replace hM := mI hM h1_3
    refine r_tabIn X 96 1 rfl (3 : Int32) h1_3 (by decide) rfl (by decide) ?_
    refine r_aload_n (pc' := 97) X hl 0 rfl rfl 32 rfl rfl ?_
    refine r_bipush (pc' := 99) X (99 : Int32) 33 rfl rfl rfl ?_
    refine r_callV0 (pc' := 102) (As := [.int (99 : Int32)]) (rest := []) X Y 34 rfl rfl mRX8_340 (c_X8_manyNow l G h h_items h_lanes h_sizes h_firms h_kinds h_now h_before h_images h_tape h_trace h_readFirms h_readKinds h_readAt h_rows h_bests S0 (99 : Int32)) (mB hM hne) 0 rfl rfl [0, 1, 2, 3, 4, 5, 6, 7, 8, 9, 10, 11, 12, 13, 14, 15] rfl rfl rfl (Nat.le_of_ble_eq_true rfl) ⟨rfl, rfl⟩ ⟨Nat.le_of_ble_eq_true rfl, Nat.le_of_ble_eq_true rfl⟩ ⟨Nat.zero_le _, Nat.zero_le _⟩ hl.1 (st' := fun u6 => [.int u6]) (fun _ => rfl) (fun u6 H locs huu6 Y => ?_)
    replace hM := mS hM huu6
    exact RT u6 _ _ _ _ _ hM (Or.inl ⟨rfl, rfl, _, rfl⟩) (X.d (k := 35) rfl) Y
  replace hM := mE hM h1_3
  by_cases h1_4 : i1 = 4
  · replace hM := mI hM h1_4
    refine r_tabIn X 103 1 rfl (4 : Int32) h1_4 (by decide) rfl (by decide) ?_
    refine r_aload_n (pc' := 104) X hl 0 rfl rfl 36 rfl rfl ?_
    refine r_aload_n (pc' := 105) X hl 0 rfl rfl 37 rfl rfl ?_
    refine r_get (pc' := 108) (v := .int (ms_points S0)) X Y 38 rfl rfl fRX8_153 0 rfl rfl ?_
    refine r_callV0 (pc' := 111) (As := [.int (ms_points S0)]) (rest := []) X Y 39 rfl rfl mRX8_340 (c_X8_manyNow l G h h_items h_lanes h_sizes h_firms h_kinds h_now h_before h_images h_tape h_trace h_readFirms h_readKinds h_readAt h_rows h_bests S0 (ms_points S0)) (mB hM hne) 0 rfl rfl [0, 1, 2, 3, 4, 5, 6, 7, 8, 9, 10, 11, 12, 13, 14, 15] rfl rfl rfl (Nat.le_of_ble_eq_true rfl) ⟨rfl, rfl⟩ ⟨Nat.le_of_ble_eq_true rfl, Nat.le_of_ble_eq_true rfl⟩ ⟨Nat.zero_le _, Nat.zero_le _⟩ hl.1 (st' := fun u7 => [.int u7]) (fun _ => rfl) (fun u7 H locs huu7 Y => ?_)
    replace hM := mS hM huu7
    exact RT u7 _ _ _ _ _ hM (Or.inl ⟨rfl, rfl, _, rfl⟩) (X.d (k := 40) rfl) Y
  replace hM := mE hM h1_4
  by_cases h1_5 : i1 = 5
  · replace hM := mI hM h1_5
    refine r_tabIn X 112 1 rfl (5 : Int32) h1_5 (by decide) rfl (by decide) ?_
    refine r_aload_n (pc' := 113) X hl 0 rfl rfl 41 rfl rfl ?_
    refine r_get (pc' := 116) (v := .int (ms_points S0)) X Y 42 rfl rfl fRX8_153 0 rfl rfl ?_
    exact RT (ms_points S0) _ _ _ _ _ hM (Or.inl ⟨rfl, rfl, _, rfl⟩) (X.d (k := 43) rfl) Y
  replace hM := mE hM h1_5
  by_cases h1_6 : i1 = 6
  · replace hM := mI hM h1_6
    refine r_tabIn X 117 1 rfl (6 : Int32) h1_6 (by decide) rfl (by decide) ?_
    refine r_aload_n (pc' := 118) X hl 0 rfl rfl 44 rfl rfl ?_
    refine r_get (pc' := 121) (v := .int (ms_acts S0)) X Y 45 rfl rfl fRX8_166 0 rfl rfl ?_
    exact RT (ms_acts S0) _ _ _ _ _ hM (Or.inl ⟨rfl, rfl, _, rfl⟩) (X.d (k := 46) rfl) Y
  replace hM := mE hM h1_6
  by_cases h1_7 : i1 = 7
  · replace hM := mI hM h1_7
    refine r_tabIn X 122 1 rfl (7 : Int32) h1_7 (by decide) rfl (by decide) ?_
    refine r_aload_n (pc' := 123) X hl 0 rfl rfl 47 rfl rfl ?_
    refine r_get (pc' := 126) (v := .int (ms_length S0)) X Y 48 rfl rfl fRX8_90 0 rfl rfl ?_
    exact RT (ms_length S0) _ _ _ _ _ hM (Or.inl ⟨rfl, rfl, _, rfl⟩) (X.d (k := 49) rfl) Y
  replace hM := mE hM h1_7
  refine r_tabOut X 127 1 rfl ((tsw (x := i1) 0 8 (fun k hk => match k, hk with | 0, _ => h1_0 | 1, _ => h1_1 | 2, _ => h1_2 | 3, _ => h1_3 | 4, _ => h1_4 | 5, _ => h1_5 | 6, _ => h1_6 | 7, _ => h1_7) (by decide)).imp id (fun z => Int.lt_of_lt_of_le (by decide) z)) (by decide) ?_
  refine r_ldc (pc' := 129) X mw546 50 rfl rfl ?_
  exact RT (-1000001 : Int32) _ _ _ _ _ hM (Or.inl ⟨rfl, rfl, _, rfl⟩) (X.d (k := 51) rfl) Y

def M_X8_status (S0 : MS) : Option (Int32) :=
  (some (ms_status S0))
def q_X8_status : Room := { frames := 1, cells := 0, slots := 0, locals := 60 }
set_option maxHeartbeats 4000000 in
set_option maxRecDepth 100000 in
theorem c_X8_status (l : Launch) (G : gT) (h h_items h_lanes h_sizes h_firms h_kinds h_now h_before h_images h_tape h_trace h_readFirms h_readKinds h_readAt h_rows h_bests : Nat) (S0 : MS) : CT l G yX8_status cX8_status 1 (some .int) q_X8_status [.ref h] (wMS G h h_items h_lanes h_sizes h_firms h_kinds h_now h_before h_images h_tape h_trace h_readFirms h_readKinds h_readAt h_rows h_bests S0) (M_X8_status S0) (fun u => some (.int u)) (fun u => wMS G h h_items h_lanes h_sizes h_firms h_kinds h_now h_before h_images h_tape h_trace h_readFirms h_readKinds h_readAt h_rows h_bests S0) := by
  refine CT.of (P := PX8_status) (by decide) dPX8_status (Nat.le_of_ble_eq_true rfl) ?_
  intro p e s m args below meth c A Q ls hne X RT Y hl
  have hl : lv_has ls 1 [(0, .ref h)] := hl
  generalize hM : M_X8_status S0 = MM at hne RT
  unfold M_X8_status at hM
  refine r_aload_n (pc' := 1) X hl 0 rfl rfl 0 rfl rfl ?_
  refine r_get (pc' := 4) (v := .int (ms_status S0)) X Y 1 rfl rfl fRX8_60 0 rfl rfl ?_
  exact RT (ms_status S0) _ _ _ _ _ hM (Or.inl ⟨rfl, rfl, _, rfl⟩) (X.d (k := 2) rfl) Y
