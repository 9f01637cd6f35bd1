def M_X8_whither (S0 : MS) (i1 : Int32) (i2 : Int32) : Option (Int32 × MS) :=
  ((M_X8_isMan S0 i1).bind (fun u1 => (if u1 = 0 then (some ((-1000001 : Int32), S0)) else ((M_X8_isThrow i2).bind (fun u3 => (if u3 = 0 then (some ((-1000001 : Int32), S0)) else ((M_X8_aside S0 (0 : Int32)).bind (fun u5 => ((M_X8_can u5 (0 : Int32) i1 i2).bind (fun u6 => (if u6 = 0 then (some ((-1000000 : Int32), u5)) else ((M_X8_target u5 (0 : Int32) i1 i2).bind (fun u8 => (if u8 = (99 : Int32) then (some ((ms_points u5), u5)) else (some (u8, u5))))))))))))))))
def q_X8_whither : Room := { frames := 5, cells := 0, slots := 0, locals := 157 }
set_option maxHeartbeats 4000000 in
set_option maxRecDepth 100000 in
theorem c_X8_whither (l : Launch) (G : gT) (h h_items h_lanes h_sizes h_firms h_kinds h_now h_before h_images h_tape h_trace h_readFirms h_readKinds h_readAt h_rows h_bests : Nat) (S0 : MS) (i1 : Int32) (i2 : Int32) : CT l G yX8_whither cX8_whither 4 (some .int) q_X8_whither [.ref h, .int i1, .int i2] (wMS G h h_items h_lanes h_sizes h_firms h_kinds h_now h_before h_images h_tape h_trace h_readFirms h_readKinds h_readAt h_rows h_bests S0) (M_X8_whither S0 i1 i2) (fun u => some (.int u.1)) (fun u => wMS G h h_items h_lanes h_sizes h_firms h_kinds h_now h_before h_images h_tape h_trace h_readFirms h_readKinds h_readAt h_rows h_bests u.2) := by
  refine CT.of (P := PX8_whither) (by decide) dPX8_whither (Nat.le_of_ble_eq_true rfl) ?_
  intro p e s m args below meth c A Q ls hne X RT Y hl
  have hl : lv_has ls 4 [(0, .ref h), (1, .int i1), (2, .int i2)] := hl
  generalize hM : M_X8_whither S0 i1 i2 = MM at hne RT
  unfold M_X8_whither at hM
  refine r_aload_n (pc' := 1) X hl 0 rfl rfl 0 rfl rfl ?_
  refine r_iload_n (pc' := 2) X hl 1 rfl rfl 1 rfl rfl ?_
  refine r_callV0 (pc' := 5) (As := [.int i1]) (rest := []) X Y 2 rfl rfl mRX8_240 (c_X8_isMan l G h h_items h_lanes h_sizes h_firms h_kinds h_now h_before h_images h_tape h_trace h_readFirms h_readKinds h_readAt h_rows h_bests S0 i1) (mB hM hne) 0 rfl rfl [0, 1, 2, 3, 4, 5, 6, 7, 8, 9, 10, 11, 12, 13, 14, 15] rfl rfl rfl (Nat.le_of_ble_eq_true rfl) ⟨rfl, rfl⟩ ⟨Nat.le_of_ble_eq_true rfl, Nat.le_of_ble_eq_true rfl⟩ ⟨Nat.zero_le _, Nat.zero_le _⟩ hl.1 (st' := fun u1 => [.int u1]) (fun _ => rfl) (fun u1 H locs huu1 Y => ?_)
  replace hM := mS hM huu1
  refine r_if_eq (pc' := 8) X 15 3 rfl rfl (by decide) (fun c2 => ?_) (fun c2 => ?_)
  · replace hM := mI hM c2
    refine r_ldc (pc' := 17) X mw546 7 rfl rfl ?_
    exact RT ((-1000001 : Int32), S0) _ _ _ _ _ hM (Or.inl ⟨rfl, rfl, _, rfl⟩) (X.d (k := 8) rfl) Y
  · replace hM := mE hM c2
    refine r_iload_n (pc' := 9) X hl 2 rfl rfl 4 rfl rfl ?_
    refine r_callS0 (pc' := 12) (As := [.int i2]) (rest := []) X Y 5 rfl rfl mRX8_225 (c_X8_isThrow l G i2) (mB hM hne) rfl [] rfl rfl rfl (Nat.le_of_ble_eq_true rfl) ⟨rfl, rfl⟩ ⟨Nat.le_of_ble_eq_true rfl, Nat.le_of_ble_eq_true rfl⟩ ⟨Nat.zero_le _, Nat.zero_le _⟩ hl.1 (st' := fun u3 => [.int u3]) (fun _ => rfl) (fun u3 H locs huu3 Y => ?_)
    replace hM := mS hM huu3
    refine r_if_ne (pc' := 15) X 18 6 rfl rfl (by decide) (fun c4 => ?_) (fun c4 => ?_)
    · replace hM := mE hM c4
      refine r_aload_n (pc' := 19) X hl 0 rfl rfl 9 rfl rfl ?_
      refine r_iconst (pc' := 20) X (0 : Int32) 10 rfl rfl rfl ?_
      refine r_callV (pc' := 23) (As := [.int (0 : Int32)]) (rest := []) X Y 11 rfl rfl mRX8_202 (c_X8_aside l G h h_items h_lanes h_sizes h_firms h_kinds h_now h_before h_images h_tape h_trace h_readFirms h_readKinds h_readAt h_rows h_bests S0 (0 : Int32)) (mB hM hne) 0 rfl rfl [0, 1, 2, 3, 4, 5, 6, 7, 8, 9, 10, 11, 12, 13, 14, 15] [] [0, 1, 2, 3, 4, 5, 6, 7, 8, 9, 10, 11, 12, 13, 14, 15] rfl rfl ⟨rfl, rfl, rfl⟩ rfl (w2 := fun u5 => wMS G h h_items h_lanes h_sizes h_firms h_kinds h_now h_before h_images h_tape h_trace h_readFirms h_readKinds h_readAt h_rows h_bests u5) (fun _ => rfl) rfl (Nat.le_of_ble_eq_true rfl) ⟨rfl, rfl⟩ ⟨Nat.le_of_ble_eq_true rfl, Nat.le_of_ble_eq_true rfl⟩ ⟨Nat.zero_le _, Nat.zero_le _⟩ hl.1 (st' := fun u5 => []) (fun _ => rfl) (fun u5 H locs huu5 Y => ?_)
      replace hM := mS hM huu5
      refine r_aload_n (pc' := 24) X hl 0 rfl rfl 12 rfl rfl ?_
      refine r_iconst (pc' := 25) X (0 : Int32) 13 rfl rfl rfl ?_
      refine r_iload_n (pc' := 26) X hl 1 rfl rfl 14 rfl rfl ?_
      refine r_iload_n (pc' := 27) X hl 2 rfl rfl 15 rfl rfl ?_
      refine r_callV0 (pc' := 30) (As := [.int (0 : Int32), .int i1, .int i2]) (rest := []) X Y 16 rfl rfl mRX8_199 (c_X8_can l G h h_items h_lanes h_sizes h_firms h_kinds h_now h_before h_images h_tape h_trace h_readFirms h_readKinds h_readAt h_rows h_bests u5 (0 : Int32) i1 i2) (mB hM hne) 0 rfl rfl [0, 1, 2, 3, 4, 5, 6, 7, 8, 9, 10, 11, 12, 13, 14, 15] rfl rfl rfl (Nat.le_of_ble_eq_true rfl) ⟨rfl, rfl⟩ ⟨Nat.le_of_ble_eq_true rfl, Nat.le_of_ble_eq_true rfl⟩ ⟨Nat.zero_le _, Nat.zero_le _⟩ hl.1 (st' := fun u6 => [.int u6]) (fun _ => rfl) (fun u6 H locs huu6 Y => ?_)
      replace hM := mS hM huu6
      refine r_if_ne (pc' := 33) X 36 17 rfl rfl (by decide) (fun c7 => ?_) (fun c7 => ?_)
      · replace hM := mE hM c7
        refine r_aload_n (pc' := 37) X hl 0 rfl rfl 20 rfl rfl ?_
        refine r_iconst (pc' := 38) X (0 : Int32) 21 rfl rfl rfl ?_
        refine r_iload_n (pc' := 39) X hl 1 rfl rfl 22 rfl rfl ?_
        refine r_iload_n (pc' := 40) X hl 2 rfl rfl 23 rfl rfl ?_
        refine r_callV0 (pc' := 43) (As := [.int (0 : Int32), .int i1, .int i2]) (rest := []) X Y 24 rfl rfl mRX8_191 (c_X8_target l G h h_items h_lanes h_sizes h_firms h_kinds h_now h_before h_images h_tape h_trace h_readFirms h_readKinds h_readAt h_rows h_bests u5 (0 : Int32) i1 i2) (mB hM hne) 0 rfl rfl [0, 1, 2, 3, 4, 5, 6, 7, 8, 9, 10, 11, 12, 13, 14, 15] rfl rfl rfl (Nat.le_of_ble_eq_true rfl) ⟨rfl, rfl⟩ ⟨Nat.le_of_ble_eq_true rfl, Nat.le_of_ble_eq_true rfl⟩ ⟨Nat.zero_le _, Nat.zero_le _⟩ hl.1 (st' := fun u8 => [.int u8]) (fun _ => rfl) (fun u8 H locs huu8 Y => ?_)
        replace hM := mS hM huu8
        refine r_istore_n (pc' := 44) (L' := [(3, .int u8), (0, .ref h), (1, .int i1), (2, .int i2)]) X hl rfl 25 rfl rfl (by decide) rfl (fun ls hl => ?_)
        refine r_iload_n (pc' := 45) X hl 0 rfl rfl 26 rfl rfl ?_
        refine r_bipush (pc' := 47) X (99 : Int32) 27 rfl rfl rfl ?_
        refine r_icmp_ne (pc' := 50) X 57 28 rfl rfl (by decide) (fun c9 => ?_) (fun c9 => ?_)
        · replace hM := mE hM c9
          refine r_iload_n (pc' := 58) X hl 0 rfl rfl 32 rfl rfl ?_
          exact RT (u8, u5) _ _ _ _ _ hM (Or.inl ⟨rfl, rfl, _, rfl⟩) (X.d (k := 33) rfl) Y
        · replace hM := mI hM c9
          refine r_aload_n (pc' := 51) X hl 1 rfl rfl 29 rfl rfl ?_
          refine r_get (pc' := 54) (v := .int (ms_points u5)) X Y 30 rfl rfl fRX8_153 0 rfl rfl ?_
          refine r_goto X 58 31 rfl (by decide) ?_
          exact RT ((ms_points u5), u5) _ _ _ _ _ hM (Or.inl ⟨rfl, rfl, _, rfl⟩) (X.d (k := 33) rfl) Y
      · replace hM := mI hM c7
        refine r_ldc (pc' := 35) X mw530 18 rfl rfl ?_
        exact RT ((-1000000 : Int32), u5) _ _ _ _ _ hM (Or.inl ⟨rfl, rfl, _, rfl⟩) (X.d (k := 19) rfl) Y
    · replace hM := mI hM c4
      refine r_ldc (pc' := 17) X mw546 7 rfl rfl ?_
      exact RT ((-1000001 : Int32), S0) _ _ _ _ _ hM (Or.inl ⟨rfl, rfl, _, rfl⟩) (X.d (k := 8) rfl) Y

def M_X8_shots (S0 : MS) (i1 : Int32) : Option (Int32 × MS) :=
  ((M_X8_isMan S0 i1).bind (fun u1 => (if u1 = 0 then (some ((-1000001 : Int32), S0)) else (if inb i1 12 = true then (if ((ms_now S0) (i1).toNatClampNeg) < (ms_points S0) then ((M_X8_aside S0 (0 : Int32)).bind (fun u5 => (if inb i1 8 = true then ((M_X8_manyAt u5 (0 : Int32) (((ms_firms u5) (i1).toNatClampNeg)) (((ms_now u5) (i1).toNatClampNeg)) i1).bind (fun u7 => (jn (σ := Int32) (fun v8 => ((lp (σ := Int32 × Int32) (β := Int32) (fun rec9 st9 => (if (7 : Int32) ≤ st9.2 then (some st9.1) else ((lp (σ := Int32 × Int32) (β := Int32) (fun rec11 st11 => (if (ms_men u5) ≤ st11.2 then (some st11.1) else (jn (σ := Int32) (fun v13 => (if v13 = 0 then (rec11 ((st11.1 ||| (0 : Int32)), (st11.2 + (1 : Int32)))) else (rec11 ((st11.1 ||| ((1 : Int32) <<< (st9.2 &&& 31))), (st11.2 + (1 : Int32)))))) (fun J13 => (jn (σ := Unit) (fun v15 => (J13 (0 : Int32))) (fun J15 => (if v8 = 0 then (J15 ()) else (if inb st11.2 8 = true then (if ((ms_firms u5) (st11.2).toNatClampNeg) = ((ms_firms u5) (i1).toNatClampNeg) then (J15 ()) else ((M_X8_can u5 (0 : Int32) st11.2 st9.2).bind (fun u19 => (if u19 = 0 then (J15 ()) else ((M_X8_target u5 (0 : Int32) st11.2 st9.2).bind (fun u21 => (if u21 = ((ms_now u5) (i1).toNatClampNeg) then (J13 (1 : Int32)) else (J15 ())))))))) else none)))))))) 1000000 (st9.1, (0 : Int32))).bind (fun b11 => (rec9 (b11, (st9.2 + (1 : Int32)))))))) 1000000 ((0 : Int32), (1 : Int32))).bind (fun b9 => (some (b9, u5))))) (fun J8 => (if u7 = 0 then (J8 (1 : Int32)) else (J8 (0 : Int32))))))) else none))) else (some ((-1000002 : Int32), S0))) else none))))
def q_X8_shots : Room := { frames := 5, cells := 0, slots := 0, locals := 157 }
set_option maxHeartbeats 4000000 in
set_option maxRecDepth 100000 in
theorem c_X8_shots (l : Launch) (G : gT) (h h_items h_lanes h_sizes h_firms h_kinds h_now h_before h_images h_tape h_trace h_readFirms h_readKinds h_readAt h_rows h_bests : Nat) (S0 : MS) (i1 : Int32) : CT l G yX8_shots cX8_shots 7 (some .int) q_X8_shots [.ref h, .int i1] (wMS G h h_items h_lanes h_sizes h_firms h_kinds h_now h_before h_images h_tape h_trace h_readFirms h_readKinds h_readAt h_rows h_bests S0) (M_X8_shots S0 i1) (fun u => some (.int u.1)) (fun u => wMS G h h_items h_lanes h_sizes h_firms h_kinds h_now h_before h_images h_tape h_trace h_readFirms h_readKinds h_readAt h_rows h_bests u.2) := by
  refine CT.of (P := PX8_shots) (by decide) dPX8_shots (Nat.le_of_ble_eq_true rfl) ?_
  intro p e s m args below meth c A Q ls hne X RT Y hl
  have hl : lv_has ls 7 [(0, .ref h), (1, .int i1)] := hl
  generalize hM : M_X8_shots S0 i1 = MM at hne RT
  unfold M_X8_shots at hM
  refine r_aload_n (pc' := 1) X hl 0 rfl rfl 0 rfl rfl ?_
  refine r_iload_n (pc' := 2) X hl 1 rfl rfl 1 rfl rfl ?_
  refine r_callV0 (pc' := 5) (As := [.int i1]) (rest := []) X Y 2 rfl rfl mRX8_240 (c_X8_isMan l G h h_items h_lanes h_sizes h_firms h_kinds h_now h_before h_images h_tape h_trace h_readFirms h_readKinds h_readAt h_rows h_bests S0 i1) (mB hM hne) 0 rfl rfl [0, 1, 2, 3, 4, 5, 6, 7, 8, 9, 10, 11, 12, 13, 14, 15] rfl rfl rfl (Nat.le_of_ble_eq_true rfl) ⟨rfl, rfl⟩ ⟨Nat.le_of_ble_eq_true rfl, Nat.le_of_ble_eq_true rfl⟩ ⟨Nat.zero_le _, Nat.zero_le _⟩ hl.1 (st' := fun u1 => [.int u1]) (fun _ => rfl) (fun u1 H locs huu1 Y => ?_)
  replace hM := mS hM huu1
  refine r_if_ne (pc' := 8) X 11 3 rfl rfl (by decide) (fun c2 => ?_) (fun c2 => ?_)
  · replace hM := mE hM c2
    refine r_aload_n (pc' := 12) X hl 0 rfl rfl 6 rfl rfl ?_
    refine r_get (pc' := 15) (v := .ref h_now) X Y 7 rfl rfl fRX8_25 0 rfl rfl ?_
    refine r_iload_n (pc' := 16) X hl 1 rfl rfl 8 rfl rfl ?_
    obtain ⟨g3, hM⟩ := mG hM hne
    refine r_iald (pc' := 17) X Y 9 rfl rfl 6 rfl (vin g3) ?_
    refine r_aload_n (pc' := 18) X hl 0 rfl rfl 10 rfl rfl ?_
    refine r_get (pc' := 21) (v := .int (ms_points S0)) X Y 11 rfl rfl fRX8_153 0 rfl rfl ?_
    refine r_icmp_lt (pc' := 24) X 27 12 rfl rfl (by decide) (fun c4 => ?_) (fun c4 => ?_)
    · replace hM := mI hM c4
      refine r_aload_n (pc' := 28) X hl 0 rfl rfl 15 rfl rfl ?_
      refine r_iconst (pc' := 29) X (0 : Int32) 16 rfl rfl rfl ?_
      refine r_callV (pc' := 32) (As := [.int (0 : Int32)]) (rest := []) X Y 17 rfl rfl mRX8_202 (c_X8_aside l G h h_items h_lanes h_sizes h_firms h_kinds h_now h_before h_images h_tape h_trace h_readFirms h_readKinds h_readAt h_rows h_bests S0 (0 : Int32)) (mB hM hne) 0 rfl rfl [0, 1, 2, 3, 4, 5, 6, 7, 8, 9, 10, 11, 12, 13, 14, 15] [] [0, 1, 2, 3, 4, 5, 6, 7, 8, 9, 10, 11, 12, 13, 14, 15] rfl rfl ⟨rfl, rfl, rfl⟩ rfl (w2 := fun u5 => wMS G h h_items h_lanes h_sizes h_firms h_kinds h_now h_before h_images h_tape h_trace h_readFirms h_readKinds h_readAt h_rows h_bests u5) (fun _ => rfl) rfl (Nat.le_of_ble_eq_true rfl) ⟨rfl, rfl⟩ ⟨Nat.le_of_ble_eq_true rfl, Nat.le_of_ble_eq_true rfl⟩ ⟨Nat.zero_le _, Nat.zero_le _⟩ hl.1 (st' := fun u5 => []) (fun _ => rfl) (fun u5 H locs huu5 Y => ?_)
      replace hM := mS hM huu5
      refine r_iconst (pc' := 33) X (0 : Int32) 18 rfl rfl rfl ?_
      refine r_istore_n (pc' := 34) (L' := [(2, .int (0 : Int32)), (0, .ref h), (1, .int i1)]) X hl rfl 19 rfl rfl (by decide) rfl (fun ls hl => ?_)
      refine r_aload_n (pc' := 35) X hl 1 rfl rfl 20 rfl rfl ?_
      refine r_iconst (pc' := 36) X (0 : Int32) 21 rfl rfl rfl ?_
      refine r_aload_n (pc' := 37) X hl 1 rfl rfl 22 rfl rfl ?_
      refine r_get (pc' := 40) (v := .ref h_firms) X Y 23 rfl rfl fRX8_19 0 rfl rfl ?_
      refine r_iload_n (pc' := 41) X hl 2 rfl rfl 24 rfl rfl ?_
      obtain ⟨g6, hM⟩ := mG hM hne
      refine r_iald (pc' := 42) X Y 25 rfl rfl 4 rfl (vin g6) ?_
      refine r_aload_n (pc' := 43) X hl 1 rfl rfl 26 rfl rfl ?_
      refine r_get (pc' := 46) (v := .ref h_now) X Y 27 rfl rfl fRX8_25 0 rfl rfl ?_
      refine r_iload_n (pc' := 47) X hl 2 rfl rfl 28 rfl rfl ?_
      refine r_iald (pc' := 48) X Y 29 rfl rfl 6 rfl (vin g3) ?_
      refine r_iload_n (pc' := 49) X hl 2 rfl rfl 30 rfl rfl ?_
      refine r_callV0 (pc' := 52) (As := [.int (0 : Int32), .int ((ms_firms u5) (i1).toNatClampNeg), .int ((ms_now u5) (i1).toNatClampNeg), .int i1]) (rest := []) X Y 31 rfl rfl mRX8_187 (c_X8_manyAt l G h h_items h_lanes h_sizes h_firms h_kinds h_now h_before h_images h_tape h_trace h_readFirms h_readKinds h_readAt h_rows h_bests u5 (0 : Int32) (((ms_firms u5) (i1).toNatClampNeg)) (((ms_now u5) (i1).toNatClampNeg)) i1) (mB hM hne) 0 rfl rfl [0, 1, 2, 3, 4, 5, 6, 7, 8, 9, 10, 11, 12, 13, 14, 15] rfl rfl rfl (Nat.le_of_ble_eq_true rfl) ⟨rfl, rfl⟩ ⟨Nat.le_of_ble_eq_true rfl, Nat.le_of_ble_eq_true rfl⟩ ⟨Nat.zero_le _, Nat.zero_le _⟩ hl.1 (st' := fun u7 => [.int u7]) (fun _ => rfl) (fun u7 H locs huu7 Y => ?_)
      replace hM := mS hM huu7
      obtain ⟨J8, hJ8, hM⟩ := mJ hM
      have KJ8 : ∀ (v8 : Int32) (H : Heap) (locs : List Loc) (ls : Array Slot), J8 v8 = MM → rY G A s (wMS G h h_items h_lanes h_sizes h_firms h_kinds h_now h_before h_images h_tape h_trace h_readFirms h_readKinds h_readAt h_rows h_bests u5) H locs → lv_has ls 7 [(0, .ref h), (1, .int i1), (2, .int (0 : Int32))] → W p l e q_X8_shots s m args below meth c H locs 0 0 Q (F0 m 60 ls [.int v8]) := by
        intro v8 H locs ls hM Y hl
        replace hM := (hJ8 _).symm.trans hM
        refine r_istore_n (pc' := 61) (L' := [(3, .int v8), (0, .ref h), (1, .int i1), (2, .int (0 : Int32))]) X hl rfl 36 rfl rfl (by decide) rfl (fun ls hl => ?_)
        refine r_iconst (pc' := 62) X (1 : Int32) 37 rfl rfl rfl ?_
        refine r_istore (pc' := 64) (L' := [(4, .int (1 : Int32)), (3, .int v8), (0, .ref h), (1, .int i1), (2, .int (0 : Int32))]) X hl 38 rfl rfl (by decide) rfl (fun ls hl => ?_)
        obtain ⟨LL9, hL9, hne9, hX9⟩ := mL hM hne
        have KX9 : ∀ (b9 : Int32) (H : Heap) (locs : List Loc) (ls : Array Slot), some b9 = LL9 → rY G A s (wMS G h h_items h_lanes h_sizes h_firms h_kinds h_now h_before h_images h_tape h_trace h_readFirms h_readKinds h_readAt h_rows h_bests u5) H locs → lv_has ls 7 [(2, .int b9)] → W p l e q_X8_shots s m args below meth c H locs 0 0 Q (F0 m 168 ls []) := by
          intro b9 H locs ls hM Y hl
          replace hM := hX9 _ hM
          refine r_iload_n (pc' := 169) X hl 0 rfl rfl 93 rfl rfl ?_
          exact RT (b9, u5) _ _ _ _ _ hM (Or.inl ⟨rfl, rfl, _, rfl⟩) (X.d (k := 94) rfl) Y
        refine lp_rule (I := fun (st9 : Int32 × Int32) => ∀ (H : Heap) (locs : List Loc) (ls : Array Slot), rY G A s (wMS G h h_items h_lanes h_sizes h_firms h_kinds h_now h_before h_images h_tape h_trace h_readFirms h_readKinds h_readAt h_rows h_bests u5) H locs → lv_has ls 7 [(0, .ref h), (1, .int i1), (2, .int st9.1), (3, .int v8), (4, .int st9.2)] → W p l e q_X8_shots s m args below meth c H locs 0 0 Q (F0 m 64 ls [])) hne9 (fun rec9 st9 IH9 hM => ?_) _ _ hL9 _ _ _ Y (lv_sub hl [2, 3, 4, 1, 0] rfl)
        intro H locs ls Y hl
        refine r_iload (pc' := 66) X hl 4 rfl 39 rfl rfl ?_
        refine r_bipush (pc' := 68) X (7 : Int32) 40 rfl rfl rfl ?_
        refine r_icmp_ge (pc' := 71) X 168 41 rfl rfl (by decide) (fun c10 => ?_) (fun c10 => ?_)
        · replace hM := mI hM c10
          exact KX9 _ _ _ _ hM Y (lv_sub hl [2] rfl)
        · replace hM := mE hM c10
          refine r_iconst (pc' := 72) X (0 : Int32) 42 rfl rfl rfl ?_
          refine r_istore (pc' := 74) (L' := [(5, .int (0 : Int32)), (0, .ref h), (1, .int i1), (2, .int st9.1), (3, .int v8), (4, .int st9.2)]) X hl 43 rfl rfl (by decide) rfl (fun ls hl => ?_)
          obtain ⟨LL11, hL11, hne11, hX11⟩ := mL hM hne9
          have KX11 : ∀ (b11 : Int32) (H : Heap) (locs : List Loc) (ls : Array Slot), some b11 = LL11 → rY G A s (wMS G h h_items h_lanes h_sizes h_firms h_kinds h_now h_before h_images h_tape h_trace h_readFirms h_readKinds h_readAt h_rows h_bests u5) H locs → lv_has ls 7 [(0, .ref h), (1, .int i1), (2, .int b11), (3, .int v8), (4, .int st9.2)] → W p l e q_X8_shots s m args below meth c H locs 0 0 Q (F0 m 162 ls []) := by
            intro b11 H locs ls hM Y hl
            replace hM := hX11 _ hM
            refine r_iinc (pc' := 165) (L' := [(4, .int (st9.2 + (1 : Int32))), (0, .ref h), (1, .int i1), (2, .int b11), (3, .int v8)]) X (st9.2 + (1 : Int32)) hl 4 rfl rfl 91 rfl rfl (by decide) rfl (fun ls hl => ?_)
            refine r_goto X 64 92 rfl (by decide) ?_
            exact IH9 _ hM _ _ _ Y (lv_sub hl [1, 2, 3, 4, 0] rfl)
          refine lp_rule (I := fun (st11 : Int32 × Int32) => ∀ (H : Heap) (locs : List Loc) (ls : Array Slot), rY G A s (wMS G h h_items h_lanes h_sizes h_firms h_kinds h_now h_before h_images h_tape h_trace h_readFirms h_readKinds h_readAt h_rows h_bests u5) H locs → lv_has ls 7 [(0, .ref h), (1, .int i1), (2, .int st11.1), (3, .int v8), (4, .int st9.2), (5, .int st11.2)] → W p l e q_X8_shots s m args below meth c H locs 0 0 Q (F0 m 74 ls [])) hne11 (fun rec11 st11 IH11 hM => ?_) _ _ hL11 _ _ _ Y (lv_sub hl [1, 2, 3, 4, 5, 0] rfl)
          intro H locs ls Y hl
          refine r_iload (pc' := 76) X hl 5 rfl 44 rfl rfl ?_
          refine r_aload_n (pc' := 77) X hl 0 rfl rfl 45 rfl rfl ?_
          refine r_get (pc' := 80) (v := .int (ms_men u5)) X Y 46 rfl rfl fRX8_159 0 rfl rfl ?_
          refine r_icmp_ge (pc' := 83) X 162 47 rfl rfl (by decide) (fun c12 => ?_) (fun c12 => ?_)
          · replace hM := mI hM c12
            exact KX11 _ _ _ _ hM Y (lv_sub hl [0, 1, 2, 3, 4] rfl)
          · replace hM := mE hM c12
            refine r_iload_n (pc' := 84) X hl 3 rfl rfl 48 rfl rfl ?_
            obtain ⟨J13, hJ13, hM⟩ := mJ hM
            have KJ13 : ∀ (v13 : Int32) (H : Heap) (locs : List Loc) (ls : Array Slot), J13 v13 = LL11 → rY G A s (wMS G h h_items h_lanes h_sizes h_firms h_kinds h_now h_before h_images h_tape h_trace h_readFirms h_readKinds h_readAt h_rows h_bests u5) H locs → lv_has ls 7 [(0, .ref h), (1, .int i1), (2, .int st11.1), (3, .int v8), (4, .int st9.2), (5, .int st11.2)] → W p l e q_X8_shots s m args below meth c H locs 0 0 Q (F0 m 138 ls [.int v13]) := by
              intro v13 H locs ls hM Y hl
              replace hM := (hJ13 _).symm.trans hM
              refine r_istore (pc' := 140) (L' := [(6, .int v13), (0, .ref h), (1, .int i1), (2, .int st11.1), (3, .int v8), (4, .int st9.2), (5, .int st11.2)]) X hl 78 rfl rfl (by decide) rfl (fun ls hl => ?_)
              refine r_iload_n (pc' := 141) X hl 3 rfl rfl 79 rfl rfl ?_
              refine r_iload (pc' := 143) X hl 0 rfl 80 rfl rfl ?_
              refine r_if_eq (pc' := 146) X 153 81 rfl rfl (by decide) (fun c14 => ?_) (fun c14 => ?_)
              · replace hM := mI hM c14
                refine r_iconst (pc' := 154) X (0 : Int32) 86 rfl rfl rfl ?_
                refine r_ior (pc' := 155) X 87 rfl rfl ?_
                refine r_istore_n (pc' := 156) (L' := [(2, .int (st11.1 ||| (0 : Int32))), (6, .int v13), (0, .ref h), (1, .int i1), (3, .int v8), (4, .int st9.2), (5, .int st11.2)]) X hl rfl 88 rfl rfl (by decide) rfl (fun ls hl => ?_)
                refine r_iinc (pc' := 159) (L' := [(5, .int (st11.2 + (1 : Int32))), (2, .int (st11.1 ||| (0 : Int32))), (6, .int v13), (0, .ref h), (1, .int i1), (3, .int v8), (4, .int st9.2)]) X (st11.2 + (1 : Int32)) hl 6 rfl rfl 89 rfl rfl (by decide) rfl (fun ls hl => ?_)
                refine r_goto X 74 90 rfl (by decide) ?_
                exact IH11 _ hM _ _ _ Y (lv_sub hl [3, 4, 1, 5, 6, 0] rfl)
              · replace hM := mE hM c14
                refine r_iconst (pc' := 147) X (1 : Int32) 82 rfl rfl rfl ?_
                refine r_iload (pc' := 149) X hl 5 rfl 83 rfl rfl ?_
                refine r_ishl (pc' := 150) X 84 rfl rfl ?_
                refine r_goto X 154 85 rfl (by decide) ?_
                refine r_ior (pc' := 155) X 87 rfl rfl ?_
                refine r_istore_n (pc' := 156) (L' := [(2, .int (st11.1 ||| ((1 : Int32) <<< (st9.2 &&& 31)))), (6, .int v13), (0, .ref h), (1, .int i1), (3, .int v8), (4, .int st9.2), (5, .int st11.2)]) X hl rfl 88 rfl rfl (by decide) rfl (fun ls hl => ?_)
                refine r_iinc (pc' := 159) (L' := [(5, .int (st11.2 + (1 : Int32))), (2, .int (st11.1 ||| ((1 : Int32) <<< (st9.2 &&& 31)))), (6, .int v13), (0, .ref h), (1, .int i1), (3, .int v8), (4, .int st9.2)]) X (st11.2 + (1 : Int32)) hl 6 rfl rfl 89 rfl rfl (by decide) rfl (fun ls hl => ?_)
                refine r_goto X 74 90 rfl (by decide) ?_
                exact IH11 _ hM _ _ _ Y (lv_sub hl [3, 4, 1, 5, 6, 0] rfl)
            obtain ⟨J15, hJ15, hM⟩ := mJ hM
            have KJ15 : ∀ (v15 : Unit) (H : Heap) (locs : List Loc) (ls : Array Slot), J15 v15 = LL11 → rY G A s (wMS G h h_items h_lanes h_sizes h_firms h_kinds h_now h_before h_images h_tape h_trace h_readFirms h_readKinds h_readAt h_rows h_bests u5) H locs → lv_has ls 7 [(0, .ref h), (1, .int i1), (2, .int st11.1), (3, .int v8), (4, .int st9.2), (5, .int st11.2)] → W p l e q_X8_shots s m args below meth c H locs 0 0 Q (F0 m 137 ls []) := by
              intro v15 H locs ls hM Y hl
              replace hM := (hJ15 _).symm.trans hM
              refine r_iconst (pc' := 138) X (0 : Int32) 77 rfl rfl rfl ?_
              exact KJ13 (0 : Int32) _ _ _ hM Y (lv_sub hl [0, 1, 2, 3, 4, 5] rfl)
            refine r_if_eq (pc' := 87) X 137 49 rfl rfl (by decide) (fun c16 => ?_) (fun c16 => ?_)
            · replace hM := mI hM c16
              exact KJ15 () _ _ _ hM Y (lv_sub hl [0, 1, 2, 3, 4, 5] rfl)
            · replace hM := mE hM c16
              refine r_aload_n (pc' := 88) X hl 0 rfl rfl 50 rfl rfl ?_
              refine r_get (pc' := 91) (v := .ref h_firms) X Y 51 rfl rfl fRX8_19 0 rfl rfl ?_
              refine r_iload (pc' := 93) X hl 5 rfl 52 rfl rfl ?_
              obtain ⟨g17, hM⟩ := mG hM hne11
              refine r_iald (pc' := 94) X Y 53 rfl rfl 4 rfl (vin g17) ?_
              refine r_aload_n (pc' := 95) X hl 0 rfl rfl 54 rfl rfl ?_
              refine r_get (pc' := 98) (v := .ref h_firms) X Y 55 rfl rfl fRX8_19 0 rfl rfl ?_
              refine r_iload_n (pc' := 99) X hl 1 rfl rfl 56 rfl rfl ?_
              refine r_iald (pc' := 100) X Y 57 rfl rfl 4 rfl (vin g6) ?_
              refine r_icmp_eq (pc' := 103) X 137 58 rfl rfl (by decide) (fun c18 => ?_) (fun c18 => ?_)
              · replace hM := mI hM c18
                exact KJ15 () _ _ _ hM Y (lv_sub hl [0, 1, 2, 3, 4, 5] rfl)
              · replace hM := mE hM c18
                refine r_aload_n (pc' := 104) X hl 0 rfl rfl 59 rfl rfl ?_
                refine r_iconst (pc' := 105) X (0 : Int32) 60 rfl rfl rfl ?_
                refine r_iload (pc' := 107) X hl 5 rfl 61 rfl rfl ?_
                refine r_iload (pc' := 109) X hl 4 rfl 62 rfl rfl ?_
                refine r_callV0 (pc' := 112) (As := [.int (0 : Int32), .int st11.2, .int st9.2]) (rest := []) X Y 63 rfl rfl mRX8_199 (c_X8_can l G h h_items h_lanes h_sizes h_firms h_kinds h_now h_before h_images h_tape h_trace h_readFirms h_readKinds h_readAt h_rows h_bests u5 (0 : Int32) st11.2 st9.2) (mB hM hne11) 0 rfl rfl [0, 1, 2, 3, 4, 5, 6, 7, 8, 9, 10, 11, 12, 13, 14, 15] rfl rfl rfl (Nat.le_of_ble_eq_true rfl) ⟨rfl, rfl⟩ ⟨Nat.le_of_ble_eq_true rfl, Nat.le_of_ble_eq_true rfl⟩ ⟨Nat.zero_le _, Nat.zero_le _⟩ hl.1 (st' := fun u19 => [.int u19]) (fun _ => rfl) (fun u19 H locs huu19 Y => ?_)
                replace hM := mS hM huu19
                refine r_if_eq (pc' := 115) X 137 64 rfl rfl (by decide) (fun c20 => ?_) (fun c20 => ?_)
                · replace hM := mI hM c20
                  exact KJ15 () _ _ _ hM Y (lv_sub hl [0, 1, 2, 3, 4, 5] rfl)
                · replace hM := mE hM c20
                  refine r_aload_n (pc' := 116) X hl 0 rfl rfl 65 rfl rfl ?_
                  refine r_iconst (pc' := 117) X (0 : Int32) 66 rfl rfl rfl ?_
                  refine r_iload (pc' := 119) X hl 5 rfl 67 rfl rfl ?_
                  refine r_iload (pc' := 121) X hl 4 rfl 68 rfl rfl ?_
                  refine r_callV0 (pc' := 124) (As := [.int (0 : Int32), .int st11.2, .int st9.2]) (rest := []) X Y 69 rfl rfl mRX8_191 (c_X8_target l G h h_items h_lanes h_sizes h_firms h_kinds h_now h_before h_images h_tape h_trace h_readFirms h_readKinds h_readAt h_rows h_bests u5 (0 : Int32) st11.2 st9.2) (mB hM hne11) 0 rfl rfl [0, 1, 2, 3, 4, 5, 6, 7, 8, 9, 10, 11, 12, 13, 14, 15] rfl rfl rfl (Nat.le_of_ble_eq_true rfl) ⟨rfl, rfl⟩ ⟨Nat.le_of_ble_eq_true rfl, Nat.le_of_ble_eq_true rfl⟩ ⟨Nat.zero_le _, Nat.zero_le _⟩ hl.1 (st' := fun u21 => [.int u21]) (fun _ => rfl) (fun u21 H locs huu21 Y => ?_)
                  replace hM := mS hM huu21
                  refine r_aload_n (pc' := 125) X hl 0 rfl rfl 70 rfl rfl ?_
                  refine r_get (pc' := 128) (v := .ref h_now) X Y 71 rfl rfl fRX8_25 0 rfl rfl ?_
                  refine r_iload_n (pc' := 129) X hl 1 rfl rfl 72 rfl rfl ?_
                  refine r_iald (pc' := 130) X Y 73 rfl rfl 6 rfl (vin g3) ?_
                  refine r_icmp_ne (pc' := 133) X 137 74 rfl rfl (by decide) (fun c22 => ?_) (fun c22 => ?_)
                  · replace hM := mE hM c22
                    exact KJ15 () _ _ _ hM Y (lv_sub hl [0, 1, 2, 3, 4, 5] rfl)
                  · replace hM := mI hM c22
                    refine r_iconst (pc' := 134) X (1 : Int32) 75 rfl rfl rfl ?_
                    refine r_goto X 138 76 rfl (by decide) ?_
                    exact KJ13 (1 : Int32) _ _ _ hM Y (lv_sub hl [0, 1, 2, 3, 4, 5] rfl)
      refine r_if_ne (pc' := 55) X 59 32 rfl rfl (by decide) (fun c23 => ?_) (fun c23 => ?_)
      · replace hM := mE hM c23
        refine r_iconst (pc' := 60) X (0 : Int32) 35 rfl rfl rfl ?_
        exact KJ8 (0 : Int32) _ _ _ hM Y (lv_sub hl [1, 2, 0] rfl)
      · replace hM := mI hM c23
        refine r_iconst (pc' := 56) X (1 : Int32) 33 rfl rfl rfl ?_
        refine r_goto X 60 34 rfl (by decide) ?_
        exact KJ8 (1 : Int32) _ _ _ hM Y (lv_sub hl [1, 2, 0] rfl)
    · replace hM := mE hM c4
      refine r_ldc (pc' := 26) X mw688 13 rfl rfl ?_
      exact RT ((-1000002 : Int32), S0) _ _ _ _ _ hM (Or.inl ⟨rfl, rfl, _, rfl⟩) (X.d (k := 14) rfl) Y
  · replace hM := mI hM c2
    refine r_ldc (pc' := 10) X mw546 4 rfl rfl ?_
    exact RT ((-1000001 : Int32), S0) _ _ _ _ _ hM (Or.inl ⟨rfl, rfl, _, rfl⟩) (X.d (k := 5) rfl) Y

def M_X8_enter (S0 : MS) (i1 : Int32) : Option (Int32 × MS) :=
  (if (ms_hasTable S0) = 0 then (some ((-1000002 : Int32), S0)) else ((M_X8_isFirm i1).bind (fun u2 => (if u2 = 0 then (some ((-1000001 : Int32), S0)) else ((M_X8_aside S0 (0 : Int32)).bind (fun u4 => ((M_X8_manyAt u4 (0 : Int32) i1 (ms_points u4) (-1000000 : Int32)).bind (fun u5 => (if u5 = 0 then (some ((-1000000 : Int32), u4)) else ((lp (σ := Int32 × Int32) (β := Int32) (fun rec7 st7 => (if (7 : Int32) ≤ st7.2 then (some st7.1) else ((lp (σ := Int32 × Int32) (β := Int32) (fun rec9 st9 => (if (ms_men u4) ≤ st9.2 then (some st9.1) else (if inb st9.2 8 = true then (if ((ms_firms u4) (st9.2).toNatClampNeg) = i1 then (if inb st9.2 12 = true then (if ((ms_now u4) (st9.2).toNatClampNeg) = (ms_points u4) then ((M_X8_can u4 (0 : Int32) st9.2 st7.2).bind (fun u15 => (if u15 = 0 then (rec9 ((st9.1 ||| (0 : Int32)), (st9.2 + (1 : Int32)))) else (rec9 ((st9.1 ||| ((1 : Int32) <<< (st7.2 &&& 31))), (st9.2 + (1 : Int32))))))) else (rec9 ((st9.1 ||| (0 : Int32)), (st9.2 + (1 : Int32))))) else none) else (rec9 ((st9.1 ||| (0 : Int32)), (st9.2 + (1 : Int32))))) else none))) 1000000 (st7.1, (0 : Int32))).bind (fun b9 => (rec7 (b9, (st7.2 + (1 : Int32)))))))) 1000000 ((0 : Int32), (1 : Int32))).bind (fun b7 => (some (b7, u4)))))))))))))
def q_X8_enter : Room := { frames := 5, cells := 0, slots := 0, locals := 157 }
set_option maxHeartbeats 4000000 in
set_option maxRecDepth 100000 in
theorem c_X8_enter (l : Launch) (G : gT) (h h_items h_lanes h_sizes h_firms h_kinds h_now h_before h_images h_tape h_trace h_readFirms h_readKinds h_readAt h_rows h_bests : Nat) (S0 : MS) (i1 : Int32) : CT l G yX8_enter cX8_enter 5 (some .int) q_X8_enter [.ref h, .int i1] (wMS G h h_items h_lanes h_sizes h_firms h_kinds h_now h_before h_images h_tape h_trace h_readFirms h_readKinds h_readAt h_rows h_bests S0) (M_X8_enter S0 i1) (fun u => some (.int u.1)) (fun u => wMS G h h_items h_lanes h_sizes h_firms h_kinds h_now h_before h_images h_tape h_trace h_readFirms h_readKinds h_readAt h_rows h_bests u.2) := by
  refine CT.of (P := PX8_enter) (by decide) dPX8_enter (Nat.le_of_ble_eq_true rfl) ?_
  intro p e s m args below meth c A Q ls hne X RT Y hl
  have hl : lv_has ls 5 [(0, .ref h), (1, .int i1)] := hl
  generalize hM : M_X8_enter S0 i1 = MM at hne RT
  unfold M_X8_enter at hM
  refine r_aload_n (pc' := 1) X hl 0 rfl rfl 0 rfl rfl ?_
  refine r_get (pc' := 4) (v := .int (ms_hasTable S0)) X Y 1 rfl rfl fRX8_162 0 rfl rfl ?_
  refine r_if_ne (pc' := 7) X 10 2 rfl rfl (by decide) (fun c1 => ?_) (fun c1 => ?_)
  · replace hM := mE hM c1
    refine r_iload_n (pc' := 11) X hl 1 rfl rfl 5 rfl rfl ?_
    refine r_callS0 (pc' := 14) (As := [.int i1]) (rest := []) X Y 6 rfl rfl mRX8_245 (c_X8_isFirm l G i1) (mB hM hne) rfl [] rfl rfl rfl (Nat.le_of_ble_eq_true rfl) ⟨rfl, rfl⟩ ⟨Nat.le_of_ble_eq_true rfl, Nat.le_of_ble_eq_true rfl⟩ ⟨Nat.zero_le _, Nat.zero_le _⟩ hl.1 (st' := fun u2 => [.int u2]) (fun _ => rfl) (fun u2 H locs huu2 Y => ?_)
    replace hM := mS hM huu2
    refine r_if_ne (pc' := 17) X 20 7 rfl rfl (by decide) (fun c3 => ?_) (fun c3 => ?_)
    · replace hM := mE hM c3
      refine r_aload_n (pc' := 21) X hl 0 rfl rfl 10 rfl rfl ?_
      refine r_iconst (pc' := 22) X (0 : Int32) 11 rfl rfl rfl ?_
      refine r_callV (pc' := 25) (As := [.int (0 : Int32)]) (rest := []) X Y 12 rfl rfl mRX8_202 (c_X8_aside l G h h_items h_lanes h_sizes h_firms h_kinds h_now h_before h_images h_tape h_trace h_readFirms h_readKinds h_readAt h_rows h_bests S0 (0 : Int32)) (mB hM hne) 0 rfl rfl [0, 1, 2, 3, 4, 5, 6, 7, 8, 9, 10, 11, 12, 13, 14, 15] [] [0, 1, 2, 3, 4, 5, 6, 7, 8, 9, 10, 11, 12, 13, 14, 15] rfl rfl ⟨rfl, rfl, rfl⟩ rfl (w2 := fun u4 => wMS G h h_items h_lanes h_sizes h_firms h_kinds h_now h_before h_images h_tape h_trace h_readFirms h_readKinds h_readAt h_rows h_bests u4) (fun _ => rfl) rfl (Nat.le_of_ble_eq_true rfl) ⟨rfl, rfl⟩ ⟨Nat.le_of_ble_eq_true rfl, Nat.le_of_ble_eq_true rfl⟩ ⟨Nat.zero_le _, Nat.zero_le _⟩ hl.1 (st' := fun u4 => []) (fun _ => rfl) (fun u4 H locs huu4 Y => ?_)
      replace hM := mS hM huu4
      refine r_aload_n (pc' := 26) X hl 0 rfl rfl 13 rfl rfl ?_
      refine r_iconst (pc' := 27) X (0 : Int32) 14 rfl rfl rfl ?_
      refine r_iload_n (pc' := 28) X hl 1 rfl rfl 15 rfl rfl ?_
      refine r_aload_n (pc' := 29) X hl 0 rfl rfl 16 rfl rfl ?_
      refine r_get (pc' := 32) (v := .int (ms_points u4)) X Y 17 rfl rfl fRX8_153 0 rfl rfl ?_
      refine r_ldc (pc' := 34) X mw530 18 rfl rfl ?_
      refine r_callV0 (pc' := 37) (As := [.int (0 : Int32), .int i1, .int (ms_points u4), .int (-1000000 : Int32)]) (rest := []) X Y 19 rfl rfl mRX8_187 (c_X8_manyAt l G h h_items h_lanes h_sizes h_firms h_kinds h_now h_before h_images h_tape h_trace h_readFirms h_readKinds h_readAt h_rows h_bests u4 (0 : Int32) i1 (ms_points u4) (-1000000 : Int32)) (mB hM hne) 0 rfl rfl [0, 1, 2, 3, 4, 5, 6, 7, 8, 9, 10, 11, 12, 13, 14, 15] rfl rfl rfl (Nat.le_of_ble_eq_true rfl) ⟨rfl, rfl⟩ ⟨Nat.le_of_ble_eq_true rfl, Nat.le_of_ble_eq_true rfl⟩ ⟨Nat.zero_le _, Nat.zero_le _⟩ hl.1 (st' := fun u5 => [.int u5]) (fun _ => rfl) (fun u5 H locs huu5 Y => ?_)
      replace hM := mS hM huu5
      refine r_if_ne (pc' := 40) X 43 20 rfl rfl (by decide) (fun c6 => ?_) (fun c6 => ?_)
      · replace hM := mE hM c6
        refine r_iconst (pc' := 44) X (0 : Int32) 23 rfl rfl rfl ?_
        refine r_istore_n (pc' := 45) (L' := [(2, .int (0 : Int32)), (0, .ref h), (1, .int i1)]) X hl rfl 24 rfl rfl (by decide) rfl (fun ls hl => ?_)
        refine r_iconst (pc' := 46) X (1 : Int32) 25 rfl rfl rfl ?_
        refine r_istore_n (pc' := 47) (L' := [(3, .int (1 : Int32)), (2, .int (0 : Int32)), (0, .ref h), (1, .int i1)]) X hl rfl 26 rfl rfl (by decide) rfl (fun ls hl => ?_)
        obtain ⟨LL7, hL7, hne7, hX7⟩ := mL hM hne
        have KX7 : ∀ (b7 : Int32) (H : Heap) (locs : List Loc) (ls : Array Slot), some b7 = LL7 → rY G A s (wMS G h h_items h_lanes h_sizes h_firms h_kinds h_now h_before h_images h_tape h_trace h_readFirms h_readKinds h_readAt h_rows h_bests u4) H locs → lv_has ls 5 [(2, .int b7)] → W p l e q_X8_enter s m args below meth c H locs 0 0 Q (F0 m 123 ls []) := by
          intro b7 H locs ls hM Y hl
          replace hM := hX7 _ hM
          refine r_iload_n (pc' := 124) X hl 0 rfl rfl 67 rfl rfl ?_
          exact RT (b7, u4) _ _ _ _ _ hM (Or.inl ⟨rfl, rfl, _, rfl⟩) (X.d (k := 68) rfl) Y
        refine lp_rule (I := fun (st7 : Int32 × Int32) => ∀ (H : Heap) (locs : List Loc) (ls : Array Slot), rY G A s (wMS G h h_items h_lanes h_sizes h_firms h_kinds h_now h_before h_images h_tape h_trace h_readFirms h_readKinds h_readAt h_rows h_bests u4) H locs → lv_has ls 5 [(0, .ref h), (1, .int i1), (2, .int st7.1), (3, .int st7.2)] → W p l e q_X8_enter s m args below meth c H locs 0 0 Q (F0 m 47 ls [])) hne7 (fun rec7 st7 IH7 hM => ?_) _ _ hL7 _ _ _ Y (lv_sub hl [2, 3, 1, 0] rfl)
        intro H locs ls Y hl
        refine r_iload_n (pc' := 48) X hl 3 rfl rfl 27 rfl rfl ?_
        refine r_bipush (pc' := 50) X (7 : Int32) 28 rfl rfl rfl ?_
        refine r_icmp_ge (pc' := 53) X 123 29 rfl rfl (by decide) (fun c8 => ?_) (fun c8 => ?_)
        · replace hM := mI hM c8
          exact KX7 _ _ _ _ hM Y (lv_sub hl [2] rfl)
        · replace hM := mE hM c8
          refine r_iconst (pc' := 54) X (0 : Int32) 30 rfl rfl rfl ?_
          refine r_istore (pc' := 56) (L' := [(4, .int (0 : Int32)), (0, .ref h), (1, .int i1), (2, .int st7.1), (3, .int st7.2)]) X hl 31 rfl rfl (by decide) rfl (fun ls hl => ?_)
          obtain ⟨LL9, hL9, hne9, hX9⟩ := mL hM hne7
          have KX9 : ∀ (b9 : Int32) (H : Heap) (locs : List Loc) (ls : Array Slot), some b9 = LL9 → rY G A s (wMS G h h_items h_lanes h_sizes h_firms h_kinds h_now h_before h_images h_tape h_trace h_readFirms h_readKinds h_readAt h_rows h_bests u4) H locs → lv_has ls 5 [(0, .ref h), (1, .int i1), (2, .int b9), (3, .int st7.2)] → W p l e q_X8_enter s m args below meth c H locs 0 0 Q (F0 m 117 ls []) := by
            intro b9 H locs ls hM Y hl
            replace hM := hX9 _ hM
            refine r_iinc (pc' := 120) (L' := [(3, .int (st7.2 + (1 : Int32))), (0, .ref h), (1, .int i1), (2, .int b9)]) X (st7.2 + (1 : Int32)) hl 3 rfl rfl 65 rfl rfl (by decide) rfl (fun ls hl => ?_)
            refine r_goto X 47 66 rfl (by decide) ?_
            exact IH7 _ hM _ _ _ Y (lv_sub hl [1, 2, 3, 0] rfl)
          refine lp_rule (I := fun (st9 : Int32 × Int32) => ∀ (H : Heap) (locs : List Loc) (ls : Array Slot), rY G A s (wMS G h h_items h_lanes h_sizes h_firms h_kinds h_now h_before h_images h_tape h_trace h_readFirms h_readKinds h_readAt h_rows h_bests u4) H locs → lv_has ls 5 [(0, .ref h), (1, .int i1), (2, .int st9.1), (3, .int st7.2), (4, .int st9.2)] → W p l e q_X8_enter s m args below meth c H locs 0 0 Q (F0 m 56 ls [])) hne9 (fun rec9 st9 IH9 hM => ?_) _ _ hL9 _ _ _ Y (lv_sub hl [1, 2, 3, 4, 0] rfl)
          intro H locs ls Y hl
          refine r_iload (pc' := 58) X hl 4 rfl 32 rfl rfl ?_
          refine r_aload_n (pc' := 59) X hl 0 rfl rfl 33 rfl rfl ?_
          refine r_get (pc' := 62) (v := .int (ms_men u4)) X Y 34 rfl rfl fRX8_159 0 rfl rfl ?_
          refine r_icmp_ge (pc' := 65) X 117 35 rfl rfl (by decide) (fun c10 => ?_) (fun c10 => ?_)
          · replace hM := mI hM c10
            exact KX9 _ _ _ _ hM Y (lv_sub hl [0, 1, 2, 3] rfl)
          · replace hM := mE hM c10
            refine r_iload_n (pc' := 66) X hl 2 rfl rfl 36 rfl rfl ?_
            refine r_aload_n (pc' := 67) X hl 0 rfl rfl 37 rfl rfl ?_
            refine r_get (pc' := 70) (v := .ref h_firms) X Y 38 rfl rfl fRX8_19 0 rfl rfl ?_
            refine r_iload (pc' := 72) X hl 4 rfl 39 rfl rfl ?_
            obtain ⟨g11, hM⟩ := mG hM hne9
            refine r_iald (pc' := 73) X Y 40 rfl rfl 4 rfl (vin g11) ?_
            refine r_iload_n (pc' := 74) X hl 1 rfl rfl 41 rfl rfl ?_
            refine r_icmp_ne (pc' := 77) X 108 42 rfl rfl (by decide) (fun c12 => ?_) (fun c12 => ?_)
            · replace hM := mE hM c12
              refine r_iconst (pc' := 109) X (0 : Int32) 60 rfl rfl rfl ?_
              refine r_ior (pc' := 110) X 61 rfl rfl ?_
              refine r_istore_n (pc' := 111) (L' := [(2, .int (st9.1 ||| (0 : Int32))), (0, .ref h), (1, .int i1), (3, .int st7.2), (4, .int st9.2)]) X hl rfl 62 rfl rfl (by decide) rfl (fun ls hl => ?_)
              refine r_iinc (pc' := 114) (L' := [(4, .int (st9.2 + (1 : Int32))), (2, .int (st9.1 ||| (0 : Int32))), (0, .ref h), (1, .int i1), (3, .int st7.2)]) X (st9.2 + (1 : Int32)) hl 4 rfl rfl 63 rfl rfl (by decide) rfl (fun ls hl => ?_)
              refine r_goto X 56 64 rfl (by decide) ?_
              exact IH9 _ hM _ _ _ Y (lv_sub hl [2, 3, 1, 4, 0] rfl)
            · replace hM := mI hM c12
              refine r_aload_n (pc' := 78) X hl 0 rfl rfl 43 rfl rfl ?_
              refine r_get (pc' := 81) (v := .ref h_now) X Y 44 rfl rfl fRX8_25 0 rfl rfl ?_
              refine r_iload (pc' := 83) X hl 4 rfl 45 rfl rfl ?_
              obtain ⟨g13, hM⟩ := mG hM hne9
              refine r_iald (pc' := 84) X Y 46 rfl rfl 6 rfl (vin g13) ?_
              refine r_aload_n (pc' := 85) X hl 0 rfl rfl 47 rfl rfl ?_
              refine r_get (pc' := 88) (v := .int (ms_points u4)) X Y 48 rfl rfl fRX8_153 0 rfl rfl ?_
              refine r_icmp_ne (pc' := 91) X 108 49 rfl rfl (by decide) (fun c14 => ?_) (fun c14 => ?_)
              · replace hM := mE hM c14
                refine r_iconst (pc' := 109) X (0 : Int32) 60 rfl rfl rfl ?_
                refine r_ior (pc' := 110) X 61 rfl rfl ?_
                refine r_istore_n (pc' := 111) (L' := [(2, .int (st9.1 ||| (0 : Int32))), (0, .ref h), (1, .int i1), (3, .int st7.2), (4, .int st9.2)]) X hl rfl 62 rfl rfl (by decide) rfl (fun ls hl => ?_)
                refine r_iinc (pc' := 114) (L' := [(4, .int (st9.2 + (1 : Int32))), (2, .int (st9.1 ||| (0 : Int32))), (0, .ref h), (1, .int i1), (3, .int st7.2)]) X (st9.2 + (1 : Int32)) hl 4 rfl rfl 63 rfl rfl (by decide) rfl (fun ls hl => ?_)
                refine r_goto X 56 64 rfl (by decide) ?_
                exact IH9 _ hM _ _ _ Y (lv_sub hl [2, 3, 1, 4, 0] rfl)
              · replace hM := mI hM c14
                refine r_aload_n (pc' := 92) X hl 0 rfl rfl 50 rfl rfl ?_
                refine r_iconst (pc' := 93) X (0 : Int32) 51 rfl rfl rfl ?_
                refine r_iload (pc' := 95) X hl 4 rfl 52 rfl rfl ?_
                refine r_iload_n (pc' := 96) X hl 3 rfl rfl 53 rfl rfl ?_
                refine r_callV0 (pc' := 99) (As := [.int (0 : Int32), .int st9.2, .int st7.2]) (rest := [.int st9.1]) X Y 54 rfl rfl mRX8_199 (c_X8_can l G h h_items h_lanes h_sizes h_firms h_kinds h_now h_before h_images h_tape h_trace h_readFirms h_readKinds h_readAt h_rows h_bests u4 (0 : Int32) st9.2 st7.2) (mB hM hne9) 0 rfl rfl [0, 1, 2, 3, 4, 5, 6, 7, 8, 9, 10, 11, 12, 13, 14, 15] rfl rfl rfl (Nat.le_of_ble_eq_true rfl) ⟨rfl, rfl⟩ ⟨Nat.le_of_ble_eq_true rfl, Nat.le_of_ble_eq_true rfl⟩ ⟨Nat.zero_le _, Nat.zero_le _⟩ hl.1 (st' := fun u15 => [.int u15, .int st9.1]) (fun _ => rfl) (fun u15 H locs huu15 Y => ?_)
                replace hM := mS hM huu15
                refine r_if_eq (pc' := 102) X 108 55 rfl rfl (by decide) (fun c16 => ?_) (fun c16 => ?_)
                · replace hM := mI hM c16
                  refine r_iconst (pc' := 109) X (0 : Int32) 60 rfl rfl rfl ?_
                  refine r_ior (pc' := 110) X 61 rfl rfl ?_
                  refine r_istore_n (pc' := 111) (L' := [(2, .int (st9.1 ||| (0 : Int32))), (0, .ref h), (1, .int i1), (3, .int st7.2), (4, .int st9.2)]) X hl rfl 62 rfl rfl (by decide) rfl (fun ls hl => ?_)
                  refine r_iinc (pc' := 114) (L' := [(4, .int (st9.2 + (1 : Int32))), (2, .int (st9.1 ||| (0 : Int32))), (0, .ref h), (1, .int i1), (3, .int st7.2)]) X (st9.2 + (1 : Int32)) hl 4 rfl rfl 63 rfl rfl (by decide) rfl (fun ls hl => ?_)
                  refine r_goto X 56 64 rfl (by decide) ?_
                  exact IH9 _ hM _ _ _ Y (lv_sub hl [2, 3, 1, 4, 0] rfl)
                · replace hM := mE hM c16
                  refine r_iconst (pc' := 103) X (1 : Int32) 56 rfl rfl rfl ?_
                  refine r_iload_n (pc' := 104) X hl 3 rfl rfl 57 rfl rfl ?_
                  refine r_ishl (pc' := 105) X 58 rfl rfl ?_
                  refine r_goto X 109 59 rfl (by decide) ?_
                  refine r_ior (pc' := 110) X 61 rfl rfl ?_
                  refine r_istore_n (pc' := 111) (L' := [(2, .int (st9.1 ||| ((1 : Int32) <<< (st7.2 &&& 31)))), (0, .ref h), (1, .int i1), (3, .int st7.2), (4, .int st9.2)]) X hl rfl 62 rfl rfl (by decide) rfl (fun ls hl => ?_)
                  refine r_iinc (pc' := 114) (L' := [(4, .int (st9.2 + (1 : Int32))), (2, .int (st9.1 ||| ((1 : Int32) <<< (st7.2 &&& 31)))), (0, .ref h), (1, .int i1), (3, .int st7.2)]) X (st9.2 + (1 : Int32)) hl 4 rfl rfl 63 rfl rfl (by decide) rfl (fun ls hl => ?_)
                  refine r_goto X 56 64 rfl (by decide) ?_
                  exact IH9 _ hM _ _ _ Y (lv_sub hl [2, 3, 1, 4, 0] rfl)
      · replace hM := mI hM c6
        refine r_ldc (pc' := 42) X mw530 21 rfl rfl ?_
        exact RT ((-1000000 : Int32), u4) _ _ _ _ _ hM (Or.inl ⟨rfl, rfl, _, rfl⟩) (X.d (k := 22) rfl) Y
    · replace hM := mI hM c3
      refine r_ldc (pc' := 19) X mw546 8 rfl rfl ?_
      exact RT ((-1000001 : Int32), S0) _ _ _ _ _ hM (Or.inl ⟨rfl, rfl, _, rfl⟩) (X.d (k := 9) rfl) Y
  · replace hM := mI hM c1
    refine r_ldc (pc' := 9) X mw688 3 rfl rfl ?_
    exact RT ((-1000002 : Int32), S0) _ _ _ _ _ hM (Or.inl ⟨rfl, rfl, _, rfl⟩) (X.d (k := 4) rfl) Y

def M_X8_pips (S0 : MS) (i1 : Int32) (i2 : Int32) : Option (Int32 × MS) :=
  (if (ms_hasTable S0) = 0 then (some ((-1000002 : Int32), S0)) else ((M_X8_isFirm i1).bind (fun u2 => (if u2 = 0 then (some ((-1000001 : Int32), S0)) else ((M_X8_in ((i2).toInt64) (0 : Int64) (1 : Int64)).bind (fun u4 => (if u4 = 0 then (some ((-1000001 : Int32), S0)) else ((M_X8_aside S0 (0 : Int32)).bind (fun u6 => (if i2 = 0 then ((M_X8_pipsOfAll u6 (0 : Int32) i1).bind (fun u9 => (some (u9, u6)))) else ((M_X8_lead u6 (0 : Int32) i1).bind (fun u8 => (some (u8, u6))))))))))))))
def q_X8_pips : Room := { frames := 5, cells := 0, slots := 0, locals := 150 }
set_option maxHeartbeats 4000000 in
set_option maxRecDepth 100000 in
theorem c_X8_pips (l : Launch) (G : gT) (h h_items h_lanes h_sizes h_firms h_kinds h_now h_before h_images h_tape h_trace h_readFirms h_readKinds h_readAt h_rows h_bests : Nat) (S0 : MS) (i1 : Int32) (i2 : Int32) : CT l G yX8_pips cX8_pips 3 (some .int) q_X8_pips [.ref h, .int i1, .int i2] (wMS G h h_items h_lanes h_sizes h_firms h_kinds h_now h_before h_images h_tape h_trace h_readFirms h_readKinds h_readAt h_rows h_bests S0) (M_X8_pips S0 i1 i2) (fun u => some (.int u.1)) (fun u => wMS G h h_items h_lanes h_sizes h_firms h_kinds h_now h_before h_images h_tape h_trace h_readFirms h_readKinds h_readAt h_rows h_bests u.2) := by
  refine CT.of (P := PX8_pips) (by decide) dPX8_pips (Nat.le_of_ble_eq_true rfl) ?_
  intro p e s m args below meth c A Q ls hne X RT Y hl
  have hl : lv_has ls 3 [(0, .ref h), (1, .int i1), (2, .int i2)] := hl
  generalize hM : M_X8_pips S0 i1 i2 = MM at hne RT
  unfold M_X8_pips at hM
  refine r_aload_n (pc' := 1) X hl 0 rfl rfl 0 rfl rfl ?_
  refine r_get (pc' := 4) (v := .int (ms_hasTable S0)) X Y 1 rfl rfl fRX8_162 0 rfl rfl ?_
  refine r_if_ne (pc' := 7) X 10 2 rfl rfl (by decide) (fun c1 => ?_) (fun c1 => ?_)
  · replace hM := mE hM c1
    refine r_iload_n (pc' := 11) X hl 1 rfl rfl 5 rfl rfl ?_
    refine r_callS0 (pc' := 14) (As := [.int i1]) (rest := []) X Y 6 rfl rfl mRX8_245 (c_X8_isFirm l G i1) (mB hM hne) rfl [] rfl rfl rfl (Nat.le_of_ble_eq_true rfl) ⟨rfl, rfl⟩ ⟨Nat.le_of_ble_eq_true rfl, Nat.le_of_ble_eq_true rfl⟩ ⟨Nat.zero_le _, Nat.zero_le _⟩ hl.1 (st' := fun u2 => [.int u2]) (fun _ => rfl) (fun u2 H locs huu2 Y => ?_)
    replace hM := mS hM huu2
    refine r_if_eq (pc' := 17) X 27 7 rfl rfl (by decide) (fun c3 => ?_) (fun c3 => ?_)
    · replace hM := mI hM c3
      refine r_ldc (pc' := 29) X mw546 14 rfl rfl ?_
      exact RT ((-1000001 : Int32), S0) _ _ _ _ _ hM (Or.inl ⟨rfl, rfl, _, rfl⟩) (X.d (k := 15) rfl) Y
    · replace hM := mE hM c3
      refine r_iload_n (pc' := 18) X hl 2 rfl rfl 8 rfl rfl ?_
      refine r_i2l (pc' := 19) X 9 rfl rfl ?_
      refine r_lconst (pc' := 20) X (0 : Int64) 10 rfl rfl rfl ?_
      refine r_lconst (pc' := 21) X (1 : Int64) 11 rfl rfl rfl ?_
      refine r_callS0 (pc' := 24) (As := [.long (i2).toInt64, .long (0 : Int64), .long (1 : Int64)]) (rest := []) X Y 12 rfl rfl mRX8_66 (c_X8_in l G ((i2).toInt64) (0 : Int64) (1 : Int64)) (mB hM hne) rfl [] rfl rfl rfl (Nat.le_of_ble_eq_true rfl) ⟨rfl, rfl⟩ ⟨Nat.le_of_ble_eq_true rfl, Nat.le_of_ble_eq_true rfl⟩ ⟨Nat.zero_le _, Nat.zero_le _⟩ hl.1 (st' := fun u4 => [.int u4]) (fun _ => rfl) (fun u4 H locs huu4 Y => ?_)
      replace hM := mS hM huu4
      refine r_if_ne (pc' := 27) X 30 13 rfl rfl (by decide) (fun c5 => ?_) (fun c5 => ?_)
      · replace hM := mE hM c5
        refine r_aload_n (pc' := 31) X hl 0 rfl rfl 16 rfl rfl ?_
        refine r_iconst (pc' := 32) X (0 : Int32) 17 rfl rfl rfl ?_
        refine r_callV (pc' := 35) (As := [.int (0 : Int32)]) (rest := []) X Y 18 rfl rfl mRX8_202 (c_X8_aside l G h h_items h_lanes h_sizes h_firms h_kinds h_now h_before h_images h_tape h_trace h_readFirms h_readKinds h_readAt h_rows h_bests S0 (0 : Int32)) (mB hM hne) 0 rfl rfl [0, 1, 2, 3, 4, 5, 6, 7, 8, 9, 10, 11, 12, 13, 14, 15] [] [0, 1, 2, 3, 4, 5, 6, 7, 8, 9, 10, 11, 12, 13, 14, 15] rfl rfl ⟨rfl, rfl, rfl⟩ rfl (w2 := fun u6 => wMS G h h_items h_lanes h_sizes h_firms h_kinds h_now h_before h_images h_tape h_trace h_readFirms h_readKinds h_readAt h_rows h_bests u6) (fun _ => rfl) rfl (Nat.le_of_ble_eq_true rfl) ⟨rfl, rfl⟩ ⟨Nat.le_of_ble_eq_true rfl, Nat.le_of_ble_eq_true rfl⟩ ⟨Nat.zero_le _, Nat.zero_le _⟩ hl.1 (st' := fun u6 => []) (fun _ => rfl) (fun u6 H locs huu6 Y => ?_)
        replace hM := mS hM huu6
        refine r_iload_n (pc' := 36) X hl 2 rfl rfl 19 rfl rfl ?_
        refine r_if_ne (pc' := 39) X 48 20 rfl rfl (by decide) (fun c7 => ?_) (fun c7 => ?_)
        · replace hM := mE hM c7
          refine r_aload_n (pc' := 49) X hl 0 rfl rfl 26 rfl rfl ?_
          refine r_iconst (pc' := 50) X (0 : Int32) 27 rfl rfl rfl ?_
          refine r_iload_n (pc' := 51) X hl 1 rfl rfl 28 rfl rfl ?_
          refine r_callV0 (pc' := 54) (As := [.int (0 : Int32), .int i1]) (rest := []) X Y 29 rfl rfl mRX8_248 (c_X8_lead l G h h_items h_lanes h_sizes h_firms h_kinds h_now h_before h_images h_tape h_trace h_readFirms h_readKinds h_readAt h_rows h_bests u6 (0 : Int32) i1) (mB hM hne) 0 rfl rfl [0, 1, 2, 3, 4, 5, 6, 7, 8, 9, 10, 11, 12, 13, 14, 15] rfl rfl rfl (Nat.le_of_ble_eq_true rfl) ⟨rfl, rfl⟩ ⟨Nat.le_of_ble_eq_true rfl, Nat.le_of_ble_eq_true rfl⟩ ⟨Nat.zero_le _, Nat.zero_le _⟩ hl.1 (st' := fun u8 => [.int u8]) (fun _ => rfl) (fun u8 H locs huu8 Y => ?_)
          replace hM := mS hM huu8
          exact RT (u8, u6) _ _ _ _ _ hM (Or.inl ⟨rfl, rfl, _, rfl⟩) (X.d (k := 30) rfl) Y
        · replace hM := mI hM c7
          refine r_aload_n (pc' := 40) X hl 0 rfl rfl 21 rfl rfl ?_
          refine r_iconst (pc' := 41) X (0 : Int32) 22 rfl rfl rfl ?_
          refine r_iload_n (pc' := 42) X hl 1 rfl rfl 23 rfl rfl ?_
          refine r_callV0 (pc' := 45) (As := [.int (0 : Int32), .int i1]) (rest := []) X Y 24 rfl rfl mRX8_219 (c_X8_pipsOfAll l G h h_items h_lanes h_sizes h_firms h_kinds h_now h_before h_images h_tape h_trace h_readFirms h_readKinds h_readAt h_rows h_bests u6 (0 : Int32) i1) (mB hM hne) 0 rfl rfl [0, 1, 2, 3, 4, 5, 6, 7, 8, 9, 10, 11, 12, 13, 14, 15] rfl rfl rfl (Nat.le_of_ble_eq_true rfl) ⟨rfl, rfl⟩ ⟨Nat.le_of_ble_eq_true rfl, Nat.le_of_ble_eq_true rfl⟩ ⟨Nat.zero_le _, Nat.zero_le _⟩ hl.1 (st' := fun u9 => [.int u9]) (fun _ => rfl) (fun u9 H locs huu9 Y => ?_)
          replace hM := mS hM huu9
          refine r_goto X 54 25 rfl (by decide) ?_
          exact RT (u9, u6) _ _ _ _ _ hM (Or.inl ⟨rfl, rfl, _, rfl⟩) (X.d (k := 30) rfl) Y
      · replace hM := mI hM c5
        refine r_ldc (pc' := 29) X mw546 14 rfl rfl ?_
        exact RT ((-1000001 : Int32), S0) _ _ _ _ _ hM (Or.inl ⟨rfl, rfl, _, rfl⟩) (X.d (k := 15) rfl) Y
  · replace hM := mI hM c1
    refine r_ldc (pc' := 9) X mw688 3 rfl rfl ?_
    exact RT ((-1000002 : Int32), S0) _ _ _ _ _ hM (Or.inl ⟨rfl, rfl, _, rfl⟩) (X.d (k := 4) rfl) Y

def M_X8_best0 (S0 : MS) (i1 : Int32) (i2 : Int32) (i3 : Int32) : Option (Int32 × MS) :=
  (if inb i1 3 = true then ((lp (σ := Int32 × Int32 × MS) (β := Int32 × MS) (fun rec2 st2 => (if (ms_men st2.2.2) ≤ st2.2.1 then (some (st2.1, st2.2.2)) else (if inb st2.2.1 8 = true then (if ((ms_firms st2.2.2) (st2.2.1).toNatClampNeg) = i2 then ((M_X8_can st2.2.2 i1 st2.2.1 i3).bind (fun u8 => (if u8 = 0 then (rec2 (st2.1, (st2.2.1 + (1 : Int32)), st2.2.2)) else ((M_X8_deeper st2.2.2 i1).bind (fun u10 => ((M_X8_goMan u10 ((i1 + (1 : Int32))) st2.2.1 i3).bind (fun u11 => ((M_X8_lead u11 ((i1 + (1 : Int32))) i2).bind (fun u12 => (jn (σ := Int32) (fun v13 => (jn (σ := Int32) (fun v14 => (if v13 = 0 then (rec2 (st2.1, (st2.2.1 + (1 : Int32)), ((ms_status u11), (ms_points u11), (ms_home u11), (ms_men u11), (ms_hasTable u11), (ms_acts u11), (ms_imaged u11), (ms_length u11), (ms_fault u11), (ms_traced u11), (ms_spot u11), (ms_begins u11), (ms_token u11), (ms_number u11), (ms_readPoints u11), (ms_readHome u11), (ms_readMen u11), (ms_otherOne u11), (ms_otherKind u11), (ms_items u11), (ms_lanes u11), (ms_sizes u11), (ms_firms u11), (ms_kinds u11), (ms_now u11), (ms_before u11), (ms_images u11), (ms_tape u11), (ms_trace u11), (ms_readFirms u11), (ms_readKinds u11), (ms_readAt u11), (ms_rows u11), (upd (ms_bests u11) (i1).toNatClampNeg v14)))) else (rec2 (u12, (st2.2.1 + (1 : Int32)), ((ms_status u11), (ms_points u11), (ms_home u11), (ms_men u11), (ms_hasTable u11), (ms_acts u11), (ms_imaged u11), (ms_length u11), (ms_fault u11), (ms_traced u11), (ms_spot u11), (ms_begins u11), (ms_token u11), (ms_number u11), (ms_readPoints u11), (ms_readHome u11), (ms_readMen u11), (ms_otherOne u11), (ms_otherKind u11), (ms_items u11), (ms_lanes u11), (ms_sizes u11), (ms_firms u11), (ms_kinds u11), (ms_now u11), (ms_before u11), (ms_images u11), (ms_tape u11), (ms_trace u11), (ms_readFirms u11), (ms_readKinds u11), (ms_readAt u11), (ms_rows u11), (upd (ms_bests u11) (i1).toNatClampNeg v14)))))) (fun J14 => (if v13 = 0 then (J14 ((ms_bests u11) (i1).toNatClampNeg)) else (J14 st2.2.1))))) (fun J13 => (jn (σ := Unit) (fun v17 => (J13 (1 : Int32))) (fun J17 => (if ((ms_bests u11) (i1).toNatClampNeg) = (-1000000 : Int32) then (J17 ()) else (if u12 ≤ st2.1 then (J13 (0 : Int32)) else (J17 ())))))))))))))))) else (rec2 (st2.1, (st2.2.1 + (1 : Int32)), st2.2.2))) else none))) 1000000 ((0 : Int32), (0 : Int32), ((ms_status S0), (ms_points S0), (ms_home S0), (ms_men S0), (ms_hasTable S0), (ms_acts S0), (ms_imaged S0), (ms_length S0), (ms_fault S0), (ms_traced S0), (ms_spot S0), (ms_begins S0), (ms_token S0), (ms_number S0), (ms_readPoints S0), (ms_readHome S0), (ms_readMen S0), (ms_otherOne S0), (ms_otherKind S0), (ms_items S0), (ms_lanes S0), (ms_sizes S0), (ms_firms S0), (ms_kinds S0), (ms_now S0), (ms_before S0), (ms_images S0), (ms_tape S0), (ms_trace S0), (ms_readFirms S0), (ms_readKinds S0), (ms_readAt S0), (ms_rows S0), (upd (ms_bests S0) (i1).toNatClampNeg (-1000000 : Int32))))).bind (fun b2 => (if ((ms_bests b2.2) (i1).toNatClampNeg) = (-1000000 : Int32) then ((M_X8_lead b2.2 i1 i2).bind (fun u4 => (some (u4, b2.2)))) else (some (b2.1, b2.2))))) else none)
def q_X8_best0 : Room := { frames := 5, cells := 0, slots := 0, locals := 157 }
set_option maxHeartbeats 4000000 in
set_option maxRecDepth 100000 in
theorem c_X8_best0 (l : Launch) (G : gT) (h h_items h_lanes h_sizes h_firms h_kinds h_now h_before h_images h_tape h_trace h_readFirms h_readKinds h_readAt h_rows h_bests : Nat) (S0 : MS) (i1 : Int32) (i2 : Int32) (i3 : Int32) : CT l G yX8_best0 cX8_best0 8 (some .int) q_X8_best0 [.ref h, .int i1, .int i2, .int i3] (wMS G h h_items h_lanes h_sizes h_firms h_kinds h_now h_before h_images h_tape h_trace h_readFirms h_readKinds h_readAt h_rows h_bests S0) (M_X8_best0 S0 i1 i2 i3) (fun u => some (.int u.1)) (fun u => wMS G h h_items h_lanes h_sizes h_firms h_kinds h_now h_before h_images h_tape h_trace h_readFirms h_readKinds h_readAt h_rows h_bests u.2) := by
  refine CT.of (P := PX8_best0) (by decide) dPX8_best0 (Nat.le_of_ble_eq_true rfl) ?_
  intro p e s m args below meth c A Q ls hne X RT Y hl
  have hl : lv_has ls 8 [(0, .ref h), (1, .int i1), (2, .int i2), (3, .int i3)] := hl
  generalize hM : M_X8_best0 S0 i1 i2 i3 = MM at hne RT
  unfold M_X8_best0 at hM
  refine r_iconst (pc' := 1) X (0 : Int32) 0 rfl rfl rfl ?_
  refine r_istore (pc' := 3) (L' := [(4, .int (0 : Int32)), (0, .ref h), (1, .int i1), (2, .int i2), (3, .int i3)]) X hl 1 rfl rfl (by decide) rfl (fun ls hl => ?_)
  refine r_aload_n (pc' := 4) X hl 1 rfl rfl 2 rfl rfl ?_
  refine r_get (pc' := 7) (v := .ref h_bests) X Y 3 rfl rfl fRX8_57 0 rfl rfl ?_
  refine r_iload_n (pc' := 8) X hl 2 rfl rfl 4 rfl rfl ?_
  refine r_ldc (pc' := 10) X mw530 5 rfl rfl ?_
  obtain ⟨g1, hM⟩ := mG hM hne
  refine r_iast (pc' := 11) (ws' := wMS G h h_items h_lanes h_sizes h_firms h_kinds h_now h_before h_images h_tape h_trace h_readFirms h_readKinds h_readAt h_rows h_bests ((ms_status S0), (ms_points S0), (ms_home S0), (ms_men S0), (ms_hasTable S0), (ms_acts S0), (ms_imaged S0), (ms_length S0), (ms_fault S0), (ms_traced S0), (ms_spot S0), (ms_begins S0), (ms_token S0), (ms_number S0), (ms_readPoints S0), (ms_readHome S0), (ms_readMen S0), (ms_otherOne S0), (ms_otherKind S0), (ms_items S0), (ms_lanes S0), (ms_sizes S0), (ms_firms S0), (ms_kinds S0), (ms_now S0), (ms_before S0), (ms_images S0), (ms_tape S0), (ms_trace S0), (ms_readFirms S0), (ms_readKinds S0), (ms_readAt S0), (ms_rows S0), (upd (ms_bests S0) (i1).toNatClampNeg (-1000000 : Int32)))) X Y 6 rfl rfl 15 rfl (vin g1) rfl (fun H locs Y => ?_)
  refine r_iconst (pc' := 12) X (0 : Int32) 7 rfl rfl rfl ?_
  refine r_istore (pc' := 14) (L' := [(5, .int (0 : Int32)), (4, .int (0 : Int32)), (0, .ref h), (1, .int i1), (2, .int i2), (3, .int i3)]) X hl 8 rfl rfl (by decide) rfl (fun ls hl => ?_)
  obtain ⟨LL2, hL2, hne2, hX2⟩ := mL hM hne
  have KX2 : ∀ (b2 : Int32 × MS) (H : Heap) (locs : List Loc) (ls : Array Slot), some b2 = LL2 → rY G A s (wMS G h h_items h_lanes h_sizes h_firms h_kinds h_now h_before h_images h_tape h_trace h_readFirms h_readKinds h_readAt h_rows h_bests b2.2) H locs → lv_has ls 8 [(0, .ref h), (1, .int i1), (2, .int i2), (4, .int b2.1)] → W p l e q_X8_best0 s m args below meth c H locs 0 0 Q (F0 m 137 ls []) := by
    intro b2 H locs ls hM Y hl
    replace hM := hX2 _ hM
    refine r_aload_n (pc' := 138) X hl 0 rfl rfl 75 rfl rfl ?_
    refine r_get (pc' := 141) (v := .ref h_bests) X Y 76 rfl rfl fRX8_57 0 rfl rfl ?_
    refine r_iload_n (pc' := 142) X hl 1 rfl rfl 77 rfl rfl ?_
    refine r_iald (pc' := 143) X Y 78 rfl rfl 15 rfl (vin g1) ?_
    refine r_ldc (pc' := 145) X mw530 79 rfl rfl ?_
    refine r_icmp_ne (pc' := 148) X 157 80 rfl rfl (by decide) (fun c3 => ?_) (fun c3 => ?_)
    · replace hM := mE hM c3
      refine r_iload (pc' := 159) X hl 3 rfl 86 rfl rfl ?_
      exact RT (b2.1, b2.2) _ _ _ _ _ hM (Or.inl ⟨rfl, rfl, _, rfl⟩) (X.d (k := 87) rfl) Y
    · replace hM := mI hM c3
      refine r_aload_n (pc' := 149) X hl 0 rfl rfl 81 rfl rfl ?_
      refine r_iload_n (pc' := 150) X hl 1 rfl rfl 82 rfl rfl ?_
      refine r_iload_n (pc' := 151) X hl 2 rfl rfl 83 rfl rfl ?_
      refine r_callV0 (pc' := 154) (As := [.int i1, .int i2]) (rest := []) X Y 84 rfl rfl mRX8_248 (c_X8_lead l G h h_items h_lanes h_sizes h_firms h_kinds h_now h_before h_images h_tape h_trace h_readFirms h_readKinds h_readAt h_rows h_bests b2.2 i1 i2) (mB hM hne) 0 rfl rfl [0, 1, 2, 3, 4, 5, 6, 7, 8, 9, 10, 11, 12, 13, 14, 15] rfl rfl rfl (Nat.le_of_ble_eq_true rfl) ⟨rfl, rfl⟩ ⟨Nat.le_of_ble_eq_true rfl, Nat.le_of_ble_eq_true rfl⟩ ⟨Nat.zero_le _, Nat.zero_le _⟩ hl.1 (st' := fun u4 => [.int u4]) (fun _ => rfl) (fun u4 H locs huu4 Y => ?_)
      replace hM := mS hM huu4
      refine r_goto X 159 85 rfl (by decide) ?_
      exact RT (u4, b2.2) _ _ _ _ _ hM (Or.inl ⟨rfl, rfl, _, rfl⟩) (X.d (k := 87) rfl) Y
  refine lp_rule (I := fun (st2 : Int32 × Int32 × MS) => ∀ (H : Heap) (locs : List Loc) (ls : Array Slot), rY G A s (wMS G h h_items h_lanes h_sizes h_firms h_kinds h_now h_before h_images h_tape h_trace h_readFirms h_readKinds h_readAt h_rows h_bests st2.2.2) H locs → lv_has ls 8 [(0, .ref h), (1, .int i1), (2, .int i2), (3, .int i3), (4, .int st2.1), (5, .int st2.2.1)] → W p l e q_X8_best0 s m args below meth c H locs 0 0 Q (F0 m 14 ls [])) hne2 (fun rec2 st2 IH2 hM => ?_) _ _ hL2 _ _ _ Y (lv_sub hl [2, 3, 4, 5, 1, 0] rfl)
  intro H locs ls Y hl
  refine r_iload (pc' := 16) X hl 5 rfl 9 rfl rfl ?_
  refine r_aload_n (pc' := 17) X hl 0 rfl rfl 10 rfl rfl ?_
  refine r_get (pc' := 20) (v := .int (ms_men st2.2.2)) X Y 11 rfl rfl fRX8_159 0 rfl rfl ?_
  refine r_icmp_ge (pc' := 23) X 137 12 rfl rfl (by decide) (fun c5 => ?_) (fun c5 => ?_)
  · replace hM := mI hM c5
    exact KX2 _ _ _ _ hM Y (lv_sub hl [0, 1, 2, 4] rfl)
  · replace hM := mE hM c5
    refine r_aload_n (pc' := 24) X hl 0 rfl rfl 13 rfl rfl ?_
    refine r_get (pc' := 27) (v := .ref h_firms) X Y 14 rfl rfl fRX8_19 0 rfl rfl ?_
    refine r_iload (pc' := 29) X hl 5 rfl 15 rfl rfl ?_
    obtain ⟨g6, hM⟩ := mG hM hne2
    refine r_iald (pc' := 30) X Y 16 rfl rfl 4 rfl (vin g6) ?_
    refine r_iload_n (pc' := 31) X hl 2 rfl rfl 17 rfl rfl ?_
    refine r_icmp_ne (pc' := 34) X 131 18 rfl rfl (by decide) (fun c7 => ?_) (fun c7 => ?_)
    · replace hM := mE hM c7
      refine r_iinc (pc' := 134) (L' := [(5, .int (st2.2.1 + (1 : Int32))), (0, .ref h), (1, .int i1), (2, .int i2), (3, .int i3), (4, .int st2.1)]) X (st2.2.1 + (1 : Int32)) hl 5 rfl rfl 73 rfl rfl (by decide) rfl (fun ls hl => ?_)
      refine r_goto X 14 74 rfl (by decide) ?_
      exact IH2 _ hM _ _ _ Y (lv_sub hl [1, 2, 3, 4, 5, 0] rfl)
    · replace hM := mI hM c7
      refine r_aload_n (pc' := 35) X hl 0 rfl rfl 19 rfl rfl ?_
      refine r_iload_n (pc' := 36) X hl 1 rfl rfl 20 rfl rfl ?_
      refine r_iload (pc' := 38) X hl 5 rfl 21 rfl rfl ?_
      refine r_iload_n (pc' := 39) X hl 3 rfl rfl 22 rfl rfl ?_
      refine r_callV0 (pc' := 42) (As := [.int i1, .int st2.2.1, .int i3]) (rest := []) X Y 23 rfl rfl mRX8_199 (c_X8_can l G h h_items h_lanes h_sizes h_firms h_kinds h_now h_before h_images h_tape h_trace h_readFirms h_readKinds h_readAt h_rows h_bests st2.2.2 i1 st2.2.1 i3) (mB hM hne2) 0 rfl rfl [0, 1, 2, 3, 4, 5, 6, 7, 8, 9, 10, 11, 12, 13, 14, 15] rfl rfl rfl (Nat.le_of_ble_eq_true rfl) ⟨rfl, rfl⟩ ⟨Nat.le_of_ble_eq_true rfl, Nat.le_of_ble_eq_true rfl⟩ ⟨Nat.zero_le _, Nat.zero_le _⟩ hl.1 (st' := fun u8 => [.int u8]) (fun _ => rfl) (fun u8 H locs huu8 Y => ?_)
      replace hM := mS hM huu8
      refine r_if_eq (pc' := 45) X 131 24 rfl rfl (by decide) (fun c9 => ?_) (fun c9 => ?_)
      · replace hM := mI hM c9
        refine r_iinc (pc' := 134) (L' := [(5, .int (st2.2.1 + (1 : Int32))), (0, .ref h), (1, .int i1), (2, .int i2), (3, .int i3), (4, .int st2.1)]) X (st2.2.1 + (1 : Int32)) hl 5 rfl rfl 73 rfl rfl (by decide) rfl (fun ls hl => ?_)
        refine r_goto X 14 74 rfl (by decide) ?_
        exact IH2 _ hM _ _ _ Y (lv_sub hl [1, 2, 3, 4, 5, 0] rfl)
      · replace hM := mE hM c9
        refine r_aload_n (pc' := 46) X hl 0 rfl rfl 25 rfl rfl ?_
        refine r_iload_n (pc' := 47) X hl 1 rfl rfl 26 rfl rfl ?_
        refine r_callV (pc' := 50) (As := [.int i1]) (rest := []) X Y 27 rfl rfl mRX8_251 (c_X8_deeper l G h h_items h_lanes h_sizes h_firms h_kinds h_now h_before h_images h_tape h_trace h_readFirms h_readKinds h_readAt h_rows h_bests st2.2.2 i1) (mB hM hne2) 0 rfl rfl [0, 1, 2, 3, 4, 5, 6, 7, 8, 9, 10, 11, 12, 13, 14, 15] [] [0, 1, 2, 3, 4, 5, 6, 7, 8, 9, 10, 11, 12, 13, 14, 15] rfl rfl ⟨rfl, rfl, rfl⟩ rfl (w2 := fun u10 => wMS G h h_items h_lanes h_sizes h_firms h_kinds h_now h_before h_images h_tape h_trace h_readFirms h_readKinds h_readAt h_rows h_bests u10) (fun _ => rfl) rfl (Nat.le_of_ble_eq_true rfl) ⟨rfl, rfl⟩ ⟨Nat.le_of_ble_eq_true rfl, Nat.le_of_ble_eq_true rfl⟩ ⟨Nat.zero_le _, Nat.zero_le _⟩ hl.1 (st' := fun u10 => []) (fun _ => rfl) (fun u10 H locs huu10 Y => ?_)
        replace hM := mS hM huu10
        refine r_aload_n (pc' := 51) X hl 0 rfl rfl 28 rfl rfl ?_
        refine r_iload_n (pc' := 52) X hl 1 rfl rfl 29 rfl rfl ?_
        refine r_iconst (pc' := 53) X (1 : Int32) 30 rfl rfl rfl ?_
        refine r_iadd (pc' := 54) X 31 rfl rfl ?_
        refine r_iload (pc' := 56) X hl 5 rfl 32 rfl rfl ?_
        refine r_iload_n (pc' := 57) X hl 3 rfl rfl 33 rfl rfl ?_
        refine r_callV (pc' := 60) (As := [.int (i1 + (1 : Int32)), .int st2.2.1, .int i3]) (rest := []) X Y 34 rfl rfl mRX8_212 (c_X8_goMan l G h h_items h_lanes h_sizes h_firms h_kinds h_now h_before h_images h_tape h_trace h_readFirms h_readKinds h_readAt h_rows h_bests u10 ((i1 + (1 : Int32))) st2.2.1 i3) (mB hM hne2) 0 rfl rfl [0, 1, 2, 3, 4, 5, 6, 7, 8, 9, 10, 11, 12, 13, 14, 15] [] [0, 1, 2, 3, 4, 5, 6, 7, 8, 9, 10, 11, 12, 13, 14, 15] rfl rfl ⟨rfl, rfl, rfl⟩ rfl (w2 := fun u11 => wMS G h h_items h_lanes h_sizes h_firms h_kinds h_now h_before h_images h_tape h_trace h_readFirms h_readKinds h_readAt h_rows h_bests u11) (fun _ => rfl) rfl (Nat.le_of_ble_eq_true rfl) ⟨rfl, rfl⟩ ⟨Nat.le_of_ble_eq_true rfl, Nat.le_of_ble_eq_true rfl⟩ ⟨Nat.zero_le _, Nat.zero_le _⟩ hl.1 (st' := fun u11 => []) (fun _ => rfl) (fun u11 H locs huu11 Y => ?_)
        replace hM := mS hM huu11
        refine r_aload_n (pc' := 61) X hl 0 rfl rfl 35 rfl rfl ?_
        refine r_iload_n (pc' := 62) X hl 1 rfl rfl 36 rfl rfl ?_
        refine r_iconst (pc' := 63) X (1 : Int32) 37 rfl rfl rfl ?_
        refine r_iadd (pc' := 64) X 38 rfl rfl ?_
        refine r_iload_n (pc' := 65) X hl 2 rfl rfl 39 rfl rfl ?_
        refine r_callV0 (pc' := 68) (As := [.int (i1 + (1 : Int32)), .int i2]) (rest := []) X Y 40 rfl rfl mRX8_248 (c_X8_lead l G h h_items h_lanes h_sizes h_firms h_kinds h_now h_before h_images h_tape h_trace h_readFirms h_readKinds h_readAt h_rows h_bests u11 ((i1 + (1 : Int32))) i2) (mB hM hne2) 0 rfl rfl [0, 1, 2, 3, 4, 5, 6, 7, 8, 9, 10, 11, 12, 13, 14, 15] rfl rfl rfl (Nat.le_of_ble_eq_true rfl) ⟨rfl, rfl⟩ ⟨Nat.le_of_ble_eq_true rfl, Nat.le_of_ble_eq_true rfl⟩ ⟨Nat.zero_le _, Nat.zero_le _⟩ hl.1 (st' := fun u12 => [.int u12]) (fun _ => rfl) (fun u12 H locs huu12 Y => ?_)
        replace hM := mS hM huu12
        refine r_istore (pc' := 70) (L' := [(6, .int u12), (0, .ref h), (1, .int i1), (2, .int i2), (3, .int i3), (4, .int st2.1), (5, .int st2.2.1)]) X hl 41 rfl rfl (by decide) rfl (fun ls hl => ?_)
        refine r_aload_n (pc' := 71) X hl 1 rfl rfl 42 rfl rfl ?_
        refine r_get (pc' := 74) (v := .ref h_bests) X Y 43 rfl rfl fRX8_57 0 rfl rfl ?_
        refine r_iload_n (pc' := 75) X hl 2 rfl rfl 44 rfl rfl ?_
        refine r_iald (pc' := 76) X Y 45 rfl rfl 15 rfl (vin g1) ?_
        refine r_ldc (pc' := 78) X mw530 46 rfl rfl ?_
        obtain ⟨J13, hJ13, hM⟩ := mJ hM
        have KJ13 : ∀ (v13 : Int32) (H : Heap) (locs : List Loc) (ls : Array Slot), J13 v13 = LL2 → rY G A s (wMS G h h_items h_lanes h_sizes h_firms h_kinds h_now h_before h_images h_tape h_trace h_readFirms h_readKinds h_readAt h_rows h_bests u11) H locs → lv_has ls 8 [(0, .ref h), (1, .int i1), (2, .int i2), (3, .int i3), (4, .int st2.1), (5, .int st2.2.1), (6, .int u12)] → W p l e q_X8_best0 s m args below meth c H locs 0 0 Q (F0 m 93 ls [.int v13]) := by
          intro v13 H locs ls hM Y hl
          replace hM := (hJ13 _).symm.trans hM
          refine r_istore (pc' := 95) (L' := [(7, .int v13), (0, .ref h), (1, .int i1), (2, .int i2), (3, .int i3), (4, .int st2.1), (5, .int st2.2.1), (6, .int u12)]) X hl 54 rfl rfl (by decide) rfl (fun ls hl => ?_)
          refine r_aload_n (pc' := 96) X hl 1 rfl rfl 55 rfl rfl ?_
          refine r_get (pc' := 99) (v := .ref h_bests) X Y 56 rfl rfl fRX8_57 0 rfl rfl ?_
          refine r_iload_n (pc' := 100) X hl 2 rfl rfl 57 rfl rfl ?_
          refine r_iload (pc' := 102) X hl 0 rfl 58 rfl rfl ?_
          obtain ⟨J14, hJ14, hM⟩ := mJ hM
          have KJ14 : ∀ (v14 : Int32) (H : Heap) (locs : List Loc) (ls : Array Slot), J14 v14 = LL2 → rY G A s (wMS G h h_items h_lanes h_sizes h_firms h_kinds h_now h_before h_images h_tape h_trace h_readFirms h_readKinds h_readAt h_rows h_bests u11) H locs → lv_has ls 8 [(0, .ref h), (1, .int i1), (2, .int i2), (3, .int i3), (4, .int st2.1), (5, .int st2.2.1), (6, .int u12), (7, .int v13)] → W p l e q_X8_best0 s m args below meth c H locs 0 0 Q (F0 m 116 ls [.int v14, .int i1, .ref h_bests]) := by
            intro v14 H locs ls hM Y hl
            replace hM := (hJ14 _).symm.trans hM
            refine r_iast (pc' := 117) (ws' := wMS G h h_items h_lanes h_sizes h_firms h_kinds h_now h_before h_images h_tape h_trace h_readFirms h_readKinds h_readAt h_rows h_bests ((ms_status u11), (ms_points u11), (ms_home u11), (ms_men u11), (ms_hasTable u11), (ms_acts u11), (ms_imaged u11), (ms_length u11), (ms_fault u11), (ms_traced u11), (ms_spot u11), (ms_begins u11), (ms_token u11), (ms_number u11), (ms_readPoints u11), (ms_readHome u11), (ms_readMen u11), (ms_otherOne u11), (ms_otherKind u11), (ms_items u11), (ms_lanes u11), (ms_sizes u11), (ms_firms u11), (ms_kinds u11), (ms_now u11), (ms_before u11), (ms_images u11), (ms_tape u11), (ms_trace u11), (ms_readFirms u11), (ms_readKinds u11), (ms_readAt u11), (ms_rows u11), (upd (ms_bests u11) (i1).toNatClampNeg v14))) X Y 66 rfl rfl 15 rfl (vin g1) rfl (fun H locs Y => ?_)
            refine r_iload (pc' := 119) X hl 7 rfl 67 rfl rfl ?_
            refine r_if_eq (pc' := 122) X 127 68 rfl rfl (by decide) (fun c15 => ?_) (fun c15 => ?_)
            · replace hM := mI hM c15
              refine r_iload (pc' := 129) X hl 4 rfl 71 rfl rfl ?_
              refine r_istore (pc' := 131) (L' := [(4, .int st2.1), (0, .ref h), (1, .int i1), (2, .int i2), (3, .int i3), (5, .int st2.2.1), (6, .int u12), (7, .int v13)]) X hl 72 rfl rfl (by decide) rfl (fun ls hl => ?_)
              refine r_iinc (pc' := 134) (L' := [(5, .int (st2.2.1 + (1 : Int32))), (4, .int st2.1), (0, .ref h), (1, .int i1), (2, .int i2), (3, .int i3), (6, .int u12), (7, .int v13)]) X (st2.2.1 + (1 : Int32)) hl 5 rfl rfl 73 rfl rfl (by decide) rfl (fun ls hl => ?_)
              refine r_goto X 14 74 rfl (by decide) ?_
              exact IH2 _ hM _ _ _ Y (lv_sub hl [2, 3, 4, 5, 1, 0] rfl)
            · replace hM := mE hM c15
              refine r_iload (pc' := 124) X hl 6 rfl 69 rfl rfl ?_
              refine r_goto X 129 70 rfl (by decide) ?_
              refine r_istore (pc' := 131) (L' := [(4, .int u12), (0, .ref h), (1, .int i1), (2, .int i2), (3, .int i3), (5, .int st2.2.1), (6, .int u12), (7, .int v13)]) X hl 72 rfl rfl (by decide) rfl (fun ls hl => ?_)
              refine r_iinc (pc' := 134) (L' := [(5, .int (st2.2.1 + (1 : Int32))), (4, .int u12), (0, .ref h), (1, .int i1), (2, .int i2), (3, .int i3), (6, .int u12), (7, .int v13)]) X (st2.2.1 + (1 : Int32)) hl 5 rfl rfl 73 rfl rfl (by decide) rfl (fun ls hl => ?_)
              refine r_goto X 14 74 rfl (by decide) ?_
              exact IH2 _ hM _ _ _ Y (lv_sub hl [2, 3, 4, 5, 1, 0] rfl)
          refine r_if_eq (pc' := 105) X 110 59 rfl rfl (by decide) (fun c16 => ?_) (fun c16 => ?_)
          · replace hM := mI hM c16
            refine r_aload_n (pc' := 111) X hl 1 rfl rfl 62 rfl rfl ?_
            refine r_get (pc' := 114) (v := .ref h_bests) X Y 63 rfl rfl fRX8_57 0 rfl rfl ?_
            refine r_iload_n (pc' := 115) X hl 2 rfl rfl 64 rfl rfl ?_
            refine r_iald (pc' := 116) X Y 65 rfl rfl 15 rfl (vin g1) ?_
            exact KJ14 ((ms_bests u11) (i1).toNatClampNeg) _ _ _ hM Y (lv_sub hl [1, 2, 3, 4, 5, 6, 7, 0] rfl)
          · replace hM := mE hM c16
            refine r_iload (pc' := 107) X hl 6 rfl 60 rfl rfl ?_
            refine r_goto X 116 61 rfl (by decide) ?_
            exact KJ14 st2.2.1 _ _ _ hM Y (lv_sub hl [1, 2, 3, 4, 5, 6, 7, 0] rfl)
        obtain ⟨J17, hJ17, hM⟩ := mJ hM
        have KJ17 : ∀ (v17 : Unit) (H : Heap) (locs : List Loc) (ls : Array Slot), J17 v17 = LL2 → rY G A s (wMS G h h_items h_lanes h_sizes h_firms h_kinds h_now h_before h_images h_tape h_trace h_readFirms h_readKinds h_readAt h_rows h_bests u11) H locs → lv_has ls 8 [(0, .ref h), (1, .int i1), (2, .int i2), (3, .int i3), (4, .int st2.1), (5, .int st2.2.1), (6, .int u12)] → W p l e q_X8_best0 s m args below meth c H locs 0 0 Q (F0 m 88 ls []) := by
          intro v17 H locs ls hM Y hl
          replace hM := (hJ17 _).symm.trans hM
          refine r_iconst (pc' := 89) X (1 : Int32) 51 rfl rfl rfl ?_
          refine r_goto X 93 52 rfl (by decide) ?_
          exact KJ13 (1 : Int32) _ _ _ hM Y (lv_sub hl [0, 1, 2, 3, 4, 5, 6] rfl)
        refine r_icmp_eq (pc' := 81) X 88 47 rfl rfl (by decide) (fun c18 => ?_) (fun c18 => ?_)
        · replace hM := mI hM c18
          exact KJ17 () _ _ _ hM Y (lv_sub hl [1, 2, 3, 4, 5, 6, 0] rfl)
        · replace hM := mE hM c18
          refine r_iload (pc' := 83) X hl 0 rfl 48 rfl rfl ?_
          refine r_iload (pc' := 85) X hl 5 rfl 49 rfl rfl ?_
          refine r_icmp_le (pc' := 88) X 92 50 rfl rfl (by decide) (fun c19 => ?_) (fun c19 => ?_)
          · replace hM := mI hM c19
            refine r_iconst (pc' := 93) X (0 : Int32) 53 rfl rfl rfl ?_
            exact KJ13 (0 : Int32) _ _ _ hM Y (lv_sub hl [1, 2, 3, 4, 5, 6, 0] rfl)
          · replace hM := mE hM c19
            exact KJ17 () _ _ _ hM Y (lv_sub hl [1, 2, 3, 4, 5, 6, 0] rfl)

def M_X8_all0 (S0 : MS) (i1 : Int32) (i2 : Int32) : Option (Int32 × MS) :=
  ((lp (σ := Int32 × Int32 × MS) (β := Int32 × MS) (fun rec1 st1 => (if (7 : Int32) ≤ st1.2.1 then (some (st1.1, st1.2.2)) else ((M_X8_best0 st1.2.2 i1 i2 st1.2.1).bind (fun u3 => (rec1 ((st1.1 + u3.1), (st1.2.1 + (1 : Int32)), u3.2)))))) 1000000 ((0 : Int32), (1 : Int32), S0)).bind (fun b1 => (some (b1.1, b1.2))))
def q_X8_all0 : Room := { frames := 6, cells := 0, slots := 0, locals := 184 }
set_option maxHeartbeats 4000000 in
set_option maxRecDepth 100000 in
theorem c_X8_all0 (l : Launch) (G : gT) (h h_items h_lanes h_sizes h_firms h_kinds h_now h_before h_images h_tape h_trace h_readFirms h_readKinds h_readAt h_rows h_bests : Nat) (S0 : MS) (i1 : Int32) (i2 : Int32) : CT l G yX8_all0 cX8_all0 5 (some .int) q_X8_all0 [.ref h, .int i1, .int i2] (wMS G h h_items h_lanes h_sizes h_firms h_kinds h_now h_before h_images h_tape h_trace h_readFirms h_readKinds h_readAt h_rows h_bests S0) (M_X8_all0 S0 i1 i2) (fun u => some (.int u.1)) (fun u => wMS G h h_items h_lanes h_sizes h_firms h_kinds h_now h_before h_images h_tape h_trace h_readFirms h_readKinds h_readAt h_rows h_bests u.2) := by
  refine CT.of (P := PX8_all0) (by decide) dPX8_all0 (Nat.le_of_ble_eq_true rfl) ?_
  intro p e s m args below meth c A Q ls hne X RT Y hl
  have hl : lv_has ls 5 [(0, .ref h), (1, .int i1), (2, .int i2)] := hl
  generalize hM : M_X8_all0 S0 i1 i2 = MM at hne RT
  unfold M_X8_all0 at hM
  refine r_iconst (pc' := 1) X (0 : Int32) 0 rfl rfl rfl ?_
  refine r_istore_n (pc' := 2) (L' := [(3, .int (0 : Int32)), (0, .ref h), (1, .int i1), (2, .int i2)]) X hl rfl 1 rfl rfl (by decide) rfl (fun ls hl => ?_)
  refine r_iconst (pc' := 3) X (1 : Int32) 2 rfl rfl rfl ?_
  refine r_istore (pc' := 5) (L' := [(4, .int (1 : Int32)), (3, .int (0 : Int32)), (0, .ref h), (1, .int i1), (2, .int i2)]) X hl 3 rfl rfl (by decide) rfl (fun ls hl => ?_)
  obtain ⟨LL1, hL1, hne1, hX1⟩ := mL hM hne
  have KX1 : ∀ (b1 : Int32 × MS) (H : Heap) (locs : List Loc) (ls : Array Slot), some b1 = LL1 → rY G A s (wMS G h h_items h_lanes h_sizes h_firms h_kinds h_now h_before h_images h_tape h_trace h_readFirms h_readKinds h_readAt h_rows h_bests b1.2) H locs → lv_has ls 5 [(3, .int b1.1)] → W p l e q_X8_all0 s m args below meth c H locs 0 0 Q (F0 m 29 ls []) := by
    intro b1 H locs ls hM Y hl
    replace hM := hX1 _ hM
    refine r_iload_n (pc' := 30) X hl 0 rfl rfl 17 rfl rfl ?_
    exact RT (b1.1, b1.2) _ _ _ _ _ hM (Or.inl ⟨rfl, rfl, _, rfl⟩) (X.d (k := 18) rfl) Y
  refine lp_rule (I := fun (st1 : Int32 × Int32 × MS) => ∀ (H : Heap) (locs : List Loc) (ls : Array Slot), rY G A s (wMS G h h_items h_lanes h_sizes h_firms h_kinds h_now h_before h_images h_tape h_trace h_readFirms h_readKinds h_readAt h_rows h_bests st1.2.2) H locs → lv_has ls 5 [(0, .ref h), (1, .int i1), (2, .int i2), (3, .int st1.1), (4, .int st1.2.1)] → W p l e q_X8_all0 s m args below meth c H locs 0 0 Q (F0 m 5 ls [])) hne1 (fun rec1 st1 IH1 hM => ?_) _ _ hL1 _ _ _ Y (lv_sub hl [2, 3, 4, 1, 0] rfl)
  intro H locs ls Y hl
  refine r_iload (pc' := 7) X hl 4 rfl 4 rfl rfl ?_
  refine r_bipush (pc' := 9) X (7 : Int32) 5 rfl rfl rfl ?_
  refine r_icmp_ge (pc' := 12) X 29 6 rfl rfl (by decide) (fun c2 => ?_) (fun c2 => ?_)
  · replace hM := mI hM c2
    exact KX1 _ _ _ _ hM Y (lv_sub hl [3] rfl)
  · replace hM := mE hM c2
    refine r_iload_n (pc' := 13) X hl 3 rfl rfl 7 rfl rfl ?_
    refine r_aload_n (pc' := 14) X hl 0 rfl rfl 8 rfl rfl ?_
    refine r_iload_n (pc' := 15) X hl 1 rfl rfl 9 rfl rfl ?_
    refine r_iload_n (pc' := 16) X hl 2 rfl rfl 10 rfl rfl ?_
    refine r_iload (pc' := 18) X hl 4 rfl 11 rfl rfl ?_
    refine r_callV (pc' := 21) (As := [.int i1, .int i2, .int st1.2.1]) (rest := [.int st1.1]) X Y 12 rfl rfl mRX8_254 (c_X8_best0 l G h h_items h_lanes h_sizes h_firms h_kinds h_now h_before h_images h_tape h_trace h_readFirms h_readKinds h_readAt h_rows h_bests st1.2.2 i1 i2 st1.2.1) (mB hM hne1) 0 rfl rfl [0, 1, 2, 3, 4, 5, 6, 7, 8, 9, 10, 11, 12, 13, 14, 15] [] [0, 1, 2, 3, 4, 5, 6, 7, 8, 9, 10, 11, 12, 13, 14, 15] rfl rfl ⟨rfl, rfl, rfl⟩ rfl (w2 := fun u3 => wMS G h h_items h_lanes h_sizes h_firms h_kinds h_now h_before h_images h_tape h_trace h_readFirms h_readKinds h_readAt h_rows h_bests u3.2) (fun _ => rfl) rfl (Nat.le_of_ble_eq_true rfl) ⟨rfl, rfl⟩ ⟨Nat.le_of_ble_eq_true rfl, Nat.le_of_ble_eq_true rfl⟩ ⟨Nat.zero_le _, Nat.zero_le _⟩ hl.1 (st' := fun u3 => [.int u3.1, .int st1.1]) (fun _ => rfl) (fun u3 H locs huu3 Y => ?_)
    replace hM := mS hM huu3
    refine r_iadd (pc' := 22) X 13 rfl rfl ?_
    refine r_istore_n (pc' := 23) (L' := [(3, .int (st1.1 + u3.1)), (0, .ref h), (1, .int i1), (2, .int i2), (4, .int st1.2.1)]) X hl rfl 14 rfl rfl (by decide) rfl (fun ls hl => ?_)
    refine r_iinc (pc' := 26) (L' := [(4, .int (st1.2.1 + (1 : Int32))), (3, .int (st1.1 + u3.1)), (0, .ref h), (1, .int i1), (2, .int i2)]) X (st1.2.1 + (1 : Int32)) hl 4 rfl rfl 15 rfl rfl (by decide) rfl (fun ls hl => ?_)
    refine r_goto X 5 16 rfl (by decide) ?_
    exact IH1 _ hM _ _ _ Y (lv_sub hl [2, 3, 4, 1, 0] rfl)

def M_X8_best1 (S0 : MS) (i1 : Int32) (i2 : Int32) (i3 : Int32) : Option (Int32 × MS) :=
  (if inb i1 3 = true then ((lp (σ := Int32 × Int32 × MS) (β := Int32 × MS) (fun rec2 st2 => (if (ms_men st2.2.2) ≤ st2.2.1 then (some (st2.1, st2.2.2)) else (if inb st2.2.1 8 = true then (if ((ms_firms st2.2.2) (st2.2.1).toNatClampNeg) = i2 then ((M_X8_can st2.2.2 i1 st2.2.1 i3).bind (fun u9 => (if u9 = 0 then (rec2 (st2.1, (st2.2.1 + (1 : Int32)), st2.2.2)) else ((M_X8_deeper st2.2.2 i1).bind (fun u11 => ((M_X8_goMan u11 ((i1 + (1 : Int32))) st2.2.1 i3).bind (fun u12 => ((M_X8_all0 u12 ((i1 + (1 : Int32))) (((1 : Int32) - i2))).bind (fun u13 => (jn (σ := Int32) (fun v14 => (jn (σ := Int32) (fun v15 => (if v14 = 0 then (rec2 (st2.1, (st2.2.1 + (1 : Int32)), ((ms_status u13.2), (ms_points u13.2), (ms_home u13.2), (ms_men u13.2), (ms_hasTable u13.2), (ms_acts u13.2), (ms_imaged u13.2), (ms_length u13.2), (ms_fault u13.2), (ms_traced u13.2), (ms_spot u13.2), (ms_begins u13.2), (ms_token u13.2), (ms_number u13.2), (ms_readPoints u13.2), (ms_readHome u13.2), (ms_readMen u13.2), (ms_otherOne u13.2), (ms_otherKind u13.2), (ms_items u13.2), (ms_lanes u13.2), (ms_sizes u13.2), (ms_firms u13.2), (ms_kinds u13.2), (ms_now u13.2), (ms_before u13.2), (ms_images u13.2), (ms_tape u13.2), (ms_trace u13.2), (ms_readFirms u13.2), (ms_readKinds u13.2), (ms_readAt u13.2), (ms_rows u13.2), (upd (ms_bests u13.2) (i1).toNatClampNeg v15)))) else (rec2 ((-u13.1), (st2.2.1 + (1 : Int32)), ((ms_status u13.2), (ms_points u13.2), (ms_home u13.2), (ms_men u13.2), (ms_hasTable u13.2), (ms_acts u13.2), (ms_imaged u13.2), (ms_length u13.2), (ms_fault u13.2), (ms_traced u13.2), (ms_spot u13.2), (ms_begins u13.2), (ms_token u13.2), (ms_number u13.2), (ms_readPoints u13.2), (ms_readHome u13.2), (ms_readMen u13.2), (ms_otherOne u13.2), (ms_otherKind u13.2), (ms_items u13.2), (ms_lanes u13.2), (ms_sizes u13.2), (ms_firms u13.2), (ms_kinds u13.2), (ms_now u13.2), (ms_before u13.2), (ms_images u13.2), (ms_tape u13.2), (ms_trace u13.2), (ms_readFirms u13.2), (ms_readKinds u13.2), (ms_readAt u13.2), (ms_rows u13.2), (upd (ms_bests u13.2) (i1).toNatClampNeg v15)))))) (fun J15 => (if v14 = 0 then (J15 ((ms_bests u13.2) (i1).toNatClampNeg)) else (J15 st2.2.1))))) (fun J14 => (jn (σ := Unit) (fun v18 => (J14 (1 : Int32))) (fun J18 => (if ((ms_bests u13.2) (i1).toNatClampNeg) = (-1000000 : Int32) then (J18 ()) else (if (-u13.1) ≤ st2.1 then (J14 (0 : Int32)) else (J18 ())))))))))))))))) else (rec2 (st2.1, (st2.2.1 + (1 : Int32)), st2.2.2))) else none))) 1000000 ((0 : Int32), (0 : Int32), ((ms_status S0), (ms_points S0), (ms_home S0), (ms_men S0), (ms_hasTable S0), (ms_acts S0), (ms_imaged S0), (ms_length S0), (ms_fault S0), (ms_traced S0), (ms_spot S0), (ms_begins S0), (ms_token S0), (ms_number S0), (ms_readPoints S0), (ms_readHome S0), (ms_readMen S0), (ms_otherOne S0), (ms_otherKind S0), (ms_items S0), (ms_lanes S0), (ms_sizes S0), (ms_firms S0), (ms_kinds S0), (ms_now S0), (ms_before S0), (ms_images S0), (ms_tape S0), (ms_trace S0), (ms_readFirms S0), (ms_readKinds S0), (ms_readAt S0), (ms_rows S0), (upd (ms_bests S0) (i1).toNatClampNeg (-1000000 : Int32))))).bind (fun b2 => (if ((ms_bests b2.2) (i1).toNatClampNeg) = (-1000000 : Int32) then ((M_X8_deeper b2.2 i1).bind (fun u4 => ((M_X8_all0 u4 ((i1 + (1 : Int32))) (((1 : Int32) - i2))).bind (fun u5 => (some ((-u5.1), u5.2)))))) else (some (b2.1, b2.2))))) else none)
def q_X8_best1 : Room := { frames := 7, cells := 0, slots := 0, locals := 208 }
set_option maxHeartbeats 4000000 in
set_option maxRecDepth 100000 in
theorem c_X8_best1 (l : Launch) (G : gT) (h h_items h_lanes h_sizes h_firms h_kinds h_now h_before h_images h_tape h_trace h_readFirms h_readKinds h_readAt h_rows h_bests : Nat) (S0 : MS) (i1 : Int32) (i2 : Int32) (i3 : Int32) : CT l G yX8_best1 cX8_best1 8 (some .int) q_X8_best1 [.ref h, .int i1, .int i2, .int i3] (wMS G h h_items h_lanes h_sizes h_firms h_kinds h_now h_before h_images h_tape h_trace h_readFirms h_readKinds h_readAt h_rows h_bests S0) (M_X8_best1 S0 i1 i2 i3) (fun u => some (.int u.1)) (fun u => wMS G h h_items h_lanes h_sizes h_firms h_kinds h_now h_before h_images h_tape h_trace h_readFirms h_readKinds h_readAt h_rows h_bests u.2) := by
  refine CT.of (P := PX8_best1) (by decide) dPX8_best1 (Nat.le_of_ble_eq_true rfl) ?_
  intro p e s m args below meth c A Q ls hne X RT Y hl
  have hl : lv_has ls 8 [(0, .ref h), (1, .int i1), (2, .int i2), (3, .int i3)] := hl
  generalize hM : M_X8_best1 S0 i1 i2 i3 = MM at hne RT
  unfold M_X8_best1 at hM
  refine r_iconst (pc' := 1) X (0 : Int32) 0 rfl rfl rfl ?_
  refine r_istore (pc' := 3) (L' := [(4, .int (0 : Int32)), (0, .ref h), (1, .int i1), (2, .int i2), (3, .int i3)]) X hl 1 rfl rfl (by decide) rfl (fun ls hl => ?_)
  refine r_aload_n (pc' := 4) X hl 1 rfl rfl 2 rfl rfl ?_
  refine r_get (pc' := 7) (v := .ref h_bests) X Y 3 rfl rfl fRX8_57 0 rfl rfl ?_
  refine r_iload_n (pc' := 8) X hl 2 rfl rfl 4 rfl rfl ?_
  refine r_ldc (pc' := 10) X mw530 5 rfl rfl ?_
  obtain ⟨g1, hM⟩ := mG hM hne
  refine r_iast (pc' := 11) (ws' := wMS G h h_items h_lanes h_sizes h_firms h_kinds h_now h_before h_images h_tape h_trace h_readFirms h_readKinds h_readAt h_rows h_bests ((ms_status S0), (ms_points S0), (ms_home S0), (ms_men S0), (ms_hasTable S0), (ms_acts S0), (ms_imaged S0), (ms_length S0), (ms_fault S0), (ms_traced S0), (ms_spot S0), (ms_begins S0), (ms_token S0), (ms_number S0), (ms_readPoints S0), (ms_readHome S0), (ms_readMen S0), (ms_otherOne S0), (ms_otherKind S0), (ms_items S0), (ms_lanes S0), (ms_sizes S0), (ms_firms S0), (ms_kinds S0), (ms_now S0), (ms_before S0), (ms_images S0), (ms_tape S0), (ms_trace S0), (ms_readFirms S0), (ms_readKinds S0), (ms_readAt S0), (ms_rows S0), (upd (ms_bests S0) (i1).toNatClampNeg (-1000000 : Int32)))) X Y 6 rfl rfl 15 rfl (vin g1) rfl (fun H locs Y => ?_)
  refine r_iconst (pc' := 12) X (0 : Int32) 7 rfl rfl rfl ?_
  refine r_istore (pc' := 14) (L' := [(5, .int (0 : Int32)), (4, .int (0 : Int32)), (0, .ref h), (1, .int i1), (2, .int i2), (3, .int i3)]) X hl 8 rfl rfl (by decide) rfl (fun ls hl => ?_)
  obtain ⟨LL2, hL2, hne2, hX2⟩ := mL hM hne
  have KX2 : ∀ (b2 : Int32 × MS) (H : Heap) (locs : List Loc) (ls : Array Slot), some b2 = LL2 → rY G A s (wMS G h h_items h_lanes h_sizes h_firms h_kinds h_now h_before h_images h_tape h_trace h_readFirms h_readKinds h_readAt h_rows h_bests b2.2) H locs → lv_has ls 8 [(0, .ref h), (1, .int i1), (2, .int i2), (4, .int b2.1)] → W p l e q_X8_best1 s m args below meth c H locs 0 0 Q (F0 m 140 ls []) := by
    intro b2 H locs ls hM Y hl
    replace hM := hX2 _ hM
    refine r_aload_n (pc' := 141) X hl 0 rfl rfl 78 rfl rfl ?_
    refine r_get (pc' := 144) (v := .ref h_bests) X Y 79 rfl rfl fRX8_57 0 rfl rfl ?_
    refine r_iload_n (pc' := 145) X hl 1 rfl rfl 80 rfl rfl ?_
    refine r_iald (pc' := 146) X Y 81 rfl rfl 15 rfl (vin g1) ?_
    refine r_ldc (pc' := 148) X mw530 82 rfl rfl ?_
    refine r_icmp_ne (pc' := 151) X 169 83 rfl rfl (by decide) (fun c3 => ?_) (fun c3 => ?_)
    · replace hM := mE hM c3
      refine r_iload (pc' := 171) X hl 3 rfl 97 rfl rfl ?_
      exact RT (b2.1, b2.2) _ _ _ _ _ hM (Or.inl ⟨rfl, rfl, _, rfl⟩) (X.d (k := 98) rfl) Y
    · replace hM := mI hM c3
      refine r_aload_n (pc' := 152) X hl 0 rfl rfl 84 rfl rfl ?_
      refine r_iload_n (pc' := 153) X hl 1 rfl rfl 85 rfl rfl ?_
      refine r_callV (pc' := 156) (As := [.int i1]) (rest := []) X Y 86 rfl rfl mRX8_251 (c_X8_deeper l G h h_items h_lanes h_sizes h_firms h_kinds h_now h_before h_images h_tape h_trace h_readFirms h_readKinds h_readAt h_rows h_bests b2.2 i1) (mB hM hne) 0 rfl rfl [0, 1, 2, 3, 4, 5, 6, 7, 8, 9, 10, 11, 12, 13, 14, 15] [] [0, 1, 2, 3, 4, 5, 6, 7, 8, 9, 10, 11, 12, 13, 14, 15] rfl rfl ⟨rfl, rfl, rfl⟩ rfl (w2 := fun u4 => wMS G h h_items h_lanes h_sizes h_firms h_kinds h_now h_before h_images h_tape h_trace h_readFirms h_readKinds h_readAt h_rows h_bests u4) (fun _ => rfl) rfl (Nat.le_of_ble_eq_true rfl) ⟨rfl, rfl⟩ ⟨Nat.le_of_ble_eq_true rfl, Nat.le_of_ble_eq_true rfl⟩ ⟨Nat.zero_le _, Nat.zero_le _⟩ hl.1 (st' := fun u4 => []) (fun _ => rfl) (fun u4 H locs huu4 Y => ?_)
      replace hM := mS hM huu4
      refine r_aload_n (pc' := 157) X hl 0 rfl rfl 87 rfl rfl ?_
      refine r_iload_n (pc' := 158) X hl 1 rfl rfl 88 rfl rfl ?_
      refine r_iconst (pc' := 159) X (1 : Int32) 89 rfl rfl rfl ?_
      refine r_iadd (pc' := 160) X 90 rfl rfl ?_
      refine r_iconst (pc' := 161) X (1 : Int32) 91 rfl rfl rfl ?_
      refine r_iload_n (pc' := 162) X hl 2 rfl rfl 92 rfl rfl ?_
      refine r_isub (pc' := 163) X 93 rfl rfl ?_
      refine r_callV (pc' := 166) (As := [.int (i1 + (1 : Int32)), .int ((1 : Int32) - i2)]) (rest := []) X Y 94 rfl rfl mRX8_257 (c_X8_all0 l G h h_items h_lanes h_sizes h_firms h_kinds h_now h_before h_images h_tape h_trace h_readFirms h_readKinds h_readAt h_rows h_bests u4 ((i1 + (1 : Int32))) (((1 : Int32) - i2))) (mB hM hne) 0 rfl rfl [0, 1, 2, 3, 4, 5, 6, 7, 8, 9, 10, 11, 12, 13, 14, 15] [] [0, 1, 2, 3, 4, 5, 6, 7, 8, 9, 10, 11, 12, 13, 14, 15] rfl rfl ⟨rfl, rfl, rfl⟩ rfl (w2 := fun u5 => wMS G h h_items h_lanes h_sizes h_firms h_kinds h_now h_before h_images h_tape h_trace h_readFirms h_readKinds h_readAt h_rows h_bests u5.2) (fun _ => rfl) rfl (Nat.le_of_ble_eq_true rfl) ⟨rfl, rfl⟩ ⟨Nat.le_of_ble_eq_true rfl, Nat.le_of_ble_eq_true rfl⟩ ⟨Nat.zero_le _, Nat.zero_le _⟩ hl.1 (st' := fun u5 => [.int u5.1]) (fun _ => rfl) (fun u5 H locs huu5 Y => ?_)
      replace hM := mS hM huu5
      refine r_ineg (pc' := 167) X 95 rfl rfl ?_
      refine r_istore (pc' := 169) (L' := [(4, .int (-u5.1)), (0, .ref h), (1, .int i1), (2, .int i2)]) X hl 96 rfl rfl (by decide) rfl (fun ls hl => ?_)
      refine r_iload (pc' := 171) X hl 0 rfl 97 rfl rfl ?_
      exact RT ((-u5.1), u5.2) _ _ _ _ _ hM (Or.inl ⟨rfl, rfl, _, rfl⟩) (X.d (k := 98) rfl) Y
  refine lp_rule (I := fun (st2 : Int32 × Int32 × MS) => ∀ (H : Heap) (locs : List Loc) (ls : Array Slot), rY G A s (wMS G h h_items h_lanes h_sizes h_firms h_kinds h_now h_before h_images h_tape h_trace h_readFirms h_readKinds h_readAt h_rows h_bests st2.2.2) H locs → lv_has ls 8 [(0, .ref h), (1, .int i1), (2, .int i2), (3, .int i3), (4, .int st2.1), (5, .int st2.2.1)] → W p l e q_X8_best1 s m args below meth c H locs 0 0 Q (F0 m 14 ls [])) hne2 (fun rec2 st2 IH2 hM => ?_) _ _ hL2 _ _ _ Y (lv_sub hl [2, 3, 4, 5, 1, 0] rfl)
  intro H locs ls Y hl
  refine r_iload (pc' := 16) X hl 5 rfl 9 rfl rfl ?_
  refine r_aload_n (pc' := 17) X hl 0 rfl rfl 10 rfl rfl ?_
  refine r_get (pc' := 20) (v := .int (ms_men st2.2.2)) X Y 11 rfl rfl fRX8_159 0 rfl rfl ?_
  refine r_icmp_ge (pc' := 23) X 140 12 rfl rfl (by decide) (fun c6 => ?_) (fun c6 => ?_)
  · replace hM := mI hM c6
    exact KX2 _ _ _ _ hM Y (lv_sub hl [0, 1, 2, 4] rfl)
  · replace hM := mE hM c6
    refine r_aload_n (pc' := 24) X hl 0 rfl rfl 13 rfl rfl ?_
    refine r_get (pc' := 27) (v := .ref h_firms) X Y 14 rfl rfl fRX8_19 0 rfl rfl ?_
    refine r_iload (pc' := 29) X hl 5 rfl 15 rfl rfl ?_
    obtain ⟨g7, hM⟩ := mG hM hne2
    refine r_iald (pc' := 30) X Y 16 rfl rfl 4 rfl (vin g7) ?_
    refine r_iload_n (pc' := 31) X hl 2 rfl rfl 17 rfl rfl ?_
    refine r_icmp_ne (pc' := 34) X 134 18 rfl rfl (by decide) (fun c8 => ?_) (fun c8 => ?_)
    · replace hM := mE hM c8
      refine r_iinc (pc' := 137) (L' := [(5, .int (st2.2.1 + (1 : Int32))), (0, .ref h), (1, .int i1), (2, .int i2), (3, .int i3), (4, .int st2.1)]) X (st2.2.1 + (1 : Int32)) hl 5 rfl rfl 76 rfl rfl (by decide) rfl (fun ls hl => ?_)
      refine r_goto X 14 77 rfl (by decide) ?_
      exact IH2 _ hM _ _ _ Y (lv_sub hl [1, 2, 3, 4, 5, 0] rfl)
    · replace hM := mI hM c8
      refine r_aload_n (pc' := 35) X hl 0 rfl rfl 19 rfl rfl ?_
      refine r_iload_n (pc' := 36) X hl 1 rfl rfl 20 rfl rfl ?_
      refine r_iload (pc' := 38) X hl 5 rfl 21 rfl rfl ?_
      refine r_iload_n (pc' := 39) X hl 3 rfl rfl 22 rfl rfl ?_
      refine r_callV0 (pc' := 42) (As := [.int i1, .int st2.2.1, .int i3]) (rest := []) X Y 23 rfl rfl mRX8_199 (c_X8_can l G h h_items h_lanes h_sizes h_firms h_kinds h_now h_before h_images h_tape h_trace h_readFirms h_readKinds h_readAt h_rows h_bests st2.2.2 i1 st2.2.1 i3) (mB hM hne2) 0 rfl rfl [0, 1, 2, 3, 4, 5, 6, 7, 8, 9, 10, 11, 12, 13, 14, 15] rfl rfl rfl (Nat.le_of_ble_eq_true rfl) ⟨rfl, rfl⟩ ⟨Nat.le_of_ble_eq_true rfl, Nat.le_of_ble_eq_true rfl⟩ ⟨Nat.zero_le _, Nat.zero_le _⟩ hl.1 (st' := fun u9 => [.int u9]) (fun _ => rfl) (fun u9 H locs huu9 Y => ?_)
      replace hM := mS hM huu9
      refine r_if_eq (pc' := 45) X 134 24 rfl rfl (by decide) (fun c10 => ?_) (fun c10 => ?_)
      · replace hM := mI hM c10
        refine r_iinc (pc' := 137) (L' := [(5, .int (st2.2.1 + (1 : Int32))), (0, .ref h), (1, .int i1), (2, .int i2), (3, .int i3), (4, .int st2.1)]) X (st2.2.1 + (1 : Int32)) hl 5 rfl rfl 76 rfl rfl (by decide) rfl (fun ls hl => ?_)
        refine r_goto X 14 77 rfl (by decide) ?_
        exact IH2 _ hM _ _ _ Y (lv_sub hl [1, 2, 3, 4, 5, 0] rfl)
      · replace hM := mE hM c10
        refine r_aload_n (pc' := 46) X hl 0 rfl rfl 25 rfl rfl ?_
        refine r_iload_n (pc' := 47) X hl 1 rfl rfl 26 rfl rfl ?_
        refine r_callV (pc' := 50) (As := [.int i1]) (rest := []) X Y 27 rfl rfl mRX8_251 (c_X8_deeper l G h h_items h_lanes h_sizes h_firms h_kinds h_now h_before h_images h_tape h_trace h_readFirms h_readKinds h_readAt h_rows h_bests st2.2.2 i1) (mB hM hne2) 0 rfl rfl [0, 1, 2, 3, 4, 5, 6, 7, 8, 9, 10, 11, 12, 13, 14, 15] [] [0, 1, 2, 3, 4, 5, 6, 7, 8, 9, 10, 11, 12, 13, 14, 15] rfl rfl ⟨rfl, rfl, rfl⟩ rfl (w2 := fun u11 => wMS G h h_items h_lanes h_sizes h_firms h_kinds h_now h_before h_images h_tape h_trace h_readFirms h_readKinds h_readAt h_rows h_bests u11) (fun _ => rfl) rfl (Nat.le_of_ble_eq_true rfl) ⟨rfl, rfl⟩ ⟨Nat.le_of_ble_eq_true rfl, Nat.le_of_ble_eq_true rfl⟩ ⟨Nat.zero_le _, Nat.zero_le _⟩ hl.1 (st' := fun u11 => []) (fun _ => rfl) (fun u11 H locs huu11 Y => ?_)
        replace hM := mS hM huu11
        refine r_aload_n (pc' := 51) X hl 0 rfl rfl 28 rfl rfl ?_
        refine r_iload_n (pc' := 52) X hl 1 rfl rfl 29 rfl rfl ?_
        refine r_iconst (pc' := 53) X (1 : Int32) 30 rfl rfl rfl ?_
        refine r_iadd (pc' := 54) X 31 rfl rfl ?_
        refine r_iload (pc' := 56) X hl 5 rfl 32 rfl rfl ?_
        refine r_iload_n (pc' := 57) X hl 3 rfl rfl 33 rfl rfl ?_
        refine r_callV (pc' := 60) (As := [.int (i1 + (1 : Int32)), .int st2.2.1, .int i3]) (rest := []) X Y 34 rfl rfl mRX8_212 (c_X8_goMan l G h h_items h_lanes h_sizes h_firms h_kinds h_now h_before h_images h_tape h_trace h_readFirms h_readKinds h_readAt h_rows h_bests u11 ((i1 + (1 : Int32))) st2.2.1 i3) (mB hM hne2) 0 rfl rfl [0, 1, 2, 3, 4, 5, 6, 7, 8, 9, 10, 11, 12, 13, 14, 15] [] [0, 1, 2, 3, 4, 5, 6, 7, 8, 9, 10, 11, 12, 13, 14, 15] rfl rfl ⟨rfl, rfl, rfl⟩ rfl (w2 := fun u12 => wMS G h h_items h_lanes h_sizes h_firms h_kinds h_now h_before h_images h_tape h_trace h_readFirms h_readKinds h_readAt h_rows h_bests u12) (fun _ => rfl) rfl (Nat.le_of_ble_eq_true rfl) ⟨rfl, rfl⟩ ⟨Nat.le_of_ble_eq_true rfl, Nat.le_of_ble_eq_true rfl⟩ ⟨Nat.zero_le _, Nat.zero_le _⟩ hl.1 (st' := fun u12 => []) (fun _ => rfl) (fun u12 H locs huu12 Y => ?_)
        replace hM := mS hM huu12
        refine r_aload_n (pc' := 61) X hl 0 rfl rfl 35 rfl rfl ?_
        refine r_iload_n (pc' := 62) X hl 1 rfl rfl 36 rfl rfl ?_
        refine r_iconst (pc' := 63) X (1 : Int32) 37 rfl rfl rfl ?_
        refine r_iadd (pc' := 64) X 38 rfl rfl ?_
        refine r_iconst (pc' := 65) X (1 : Int32) 39 rfl rfl rfl ?_
        refine r_iload_n (pc' := 66) X hl 2 rfl rfl 40 rfl rfl ?_
        refine r_isub (pc' := 67) X 41 rfl rfl ?_
        refine r_callV (pc' := 70) (As := [.int (i1 + (1 : Int32)), .int ((1 : Int32) - i2)]) (rest := []) X Y 42 rfl rfl mRX8_257 (c_X8_all0 l G h h_items h_lanes h_sizes h_firms h_kinds h_now h_before h_images h_tape h_trace h_readFirms h_readKinds h_readAt h_rows h_bests u12 ((i1 + (1 : Int32))) (((1 : Int32) - i2))) (mB hM hne2) 0 rfl rfl [0, 1, 2, 3, 4, 5, 6, 7, 8, 9, 10, 11, 12, 13, 14, 15] [] [0, 1, 2, 3, 4, 5, 6, 7, 8, 9, 10, 11, 12, 13, 14, 15] rfl rfl ⟨rfl, rfl, rfl⟩ rfl (w2 := fun u13 => wMS G h h_items h_lanes h_sizes h_firms h_kinds h_now h_before h_images h_tape h_trace h_readFirms h_readKinds h_readAt h_rows h_bests u13.2) (fun _ => rfl) rfl (Nat.le_of_ble_eq_true rfl) ⟨rfl, rfl⟩ ⟨Nat.le_of_ble_eq_true rfl, Nat.le_of_ble_eq_true rfl⟩ ⟨Nat.zero_le _, Nat.zero_le _⟩ hl.1 (st' := fun u13 => [.int u13.1]) (fun _ => rfl) (fun u13 H locs huu13 Y => ?_)
        replace hM := mS hM huu13
        refine r_ineg (pc' := 71) X 43 rfl rfl ?_
        refine r_istore (pc' := 73) (L' := [(6, .int (-u13.1)), (0, .ref h), (1, .int i1), (2, .int i2), (3, .int i3), (4, .int st2.1), (5, .int st2.2.1)]) X hl 44 rfl rfl (by decide) rfl (fun ls hl => ?_)
        refine r_aload_n (pc' := 74) X hl 1 rfl rfl 45 rfl rfl ?_
        refine r_get (pc' := 77) (v := .ref h_bests) X Y 46 rfl rfl fRX8_57 0 rfl rfl ?_
        refine r_iload_n (pc' := 78) X hl 2 rfl rfl 47 rfl rfl ?_
        refine r_iald (pc' := 79) X Y 48 rfl rfl 15 rfl (vin g1) ?_
        refine r_ldc (pc' := 81) X mw530 49 rfl rfl ?_
        obtain ⟨J14, hJ14, hM⟩ := mJ hM
        have KJ14 : ∀ (v14 : Int32) (H : Heap) (locs : List Loc) (ls : Array Slot), J14 v14 = LL2 → rY G A s (wMS G h h_items h_lanes h_sizes h_firms h_kinds h_now h_before h_images h_tape h_trace h_readFirms h_readKinds h_readAt h_rows h_bests u13.2) H locs → lv_has ls 8 [(0, .ref h), (1, .int i1), (2, .int i2), (3, .int i3), (4, .int st2.1), (5, .int st2.2.1), (6, .int (-u13.1))] → W p l e q_X8_best1 s m args below meth c H locs 0 0 Q (F0 m 96 ls [.int v14]) := by
          intro v14 H locs ls hM Y hl
          replace hM := (hJ14 _).symm.trans hM
          refine r_istore (pc' := 98) (L' := [(7, .int v14), (0, .ref h), (1, .int i1), (2, .int i2), (3, .int i3), (4, .int st2.1), (5, .int st2.2.1), (6, .int (-u13.1))]) X hl 57 rfl rfl (by decide) rfl (fun ls hl => ?_)
          refine r_aload_n (pc' := 99) X hl 1 rfl rfl 58 rfl rfl ?_
          refine r_get (pc' := 102) (v := .ref h_bests) X Y 59 rfl rfl fRX8_57 0 rfl rfl ?_
          refine r_iload_n (pc' := 103) X hl 2 rfl rfl 60 rfl rfl ?_
          refine r_iload (pc' := 105) X hl 0 rfl 61 rfl rfl ?_
          obtain ⟨J15, hJ15, hM⟩ := mJ hM
          have KJ15 : ∀ (v15 : Int32) (H : Heap) (locs : List Loc) (ls : Array Slot), J15 v15 = LL2 → rY G A s (wMS G h h_items h_lanes h_sizes h_firms h_kinds h_now h_before h_images h_tape h_trace h_readFirms h_readKinds h_readAt h_rows h_bests u13.2) H locs → lv_has ls 8 [(0, .ref h), (1, .int i1), (2, .int i2), (3, .int i3), (4, .int st2.1), (5, .int st2.2.1), (6, .int (-u13.1)), (7, .int v14)] → W p l e q_X8_best1 s m args below meth c H locs 0 0 Q (F0 m 119 ls [.int v15, .int i1, .ref h_bests]) := by
            intro v15 H locs ls hM Y hl
            replace hM := (hJ15 _).symm.trans hM
            refine r_iast (pc' := 120) (ws' := wMS G h h_items h_lanes h_sizes h_firms h_kinds h_now h_before h_images h_tape h_trace h_readFirms h_readKinds h_readAt h_rows h_bests ((ms_status u13.2), (ms_points u13.2), (ms_home u13.2), (ms_men u13.2), (ms_hasTable u13.2), (ms_acts u13.2), (ms_imaged u13.2), (ms_length u13.2), (ms_fault u13.2), (ms_traced u13.2), (ms_spot u13.2), (ms_begins u13.2), (ms_token u13.2), (ms_number u13.2), (ms_readPoints u13.2), (ms_readHome u13.2), (ms_readMen u13.2), (ms_otherOne u13.2), (ms_otherKind u13.2), (ms_items u13.2), (ms_lanes u13.2), (ms_sizes u13.2), (ms_firms u13.2), (ms_kinds u13.2), (ms_now u13.2), (ms_before u13.2), (ms_images u13.2), (ms_tape u13.2), (ms_trace u13.2), (ms_readFirms u13.2), (ms_readKinds u13.2), (ms_readAt u13.2), (ms_rows u13.2), (upd (ms_bests u13.2) (i1).toNatClampNeg v15))) X Y 69 rfl rfl 15 rfl (vin g1) rfl (fun H locs Y => ?_)
            refine r_iload (pc' := 122) X hl 7 rfl 70 rfl rfl ?_
            refine r_if_eq (pc' := 125) X 130 71 rfl rfl (by decide) (fun c16 => ?_) (fun c16 => ?_)
            · replace hM := mI hM c16
              refine r_iload (pc' := 132) X hl 4 rfl 74 rfl rfl ?_
              refine r_istore (pc' := 134) (L' := [(4, .int st2.1), (0, .ref h), (1, .int i1), (2, .int i2), (3, .int i3), (5, .int st2.2.1), (6, .int (-u13.1)), (7, .int v14)]) X hl 75 rfl rfl (by decide) rfl (fun ls hl => ?_)
              refine r_iinc (pc' := 137) (L' := [(5, .int (st2.2.1 + (1 : Int32))), (4, .int st2.1), (0, .ref h), (1, .int i1), (2, .int i2), (3, .int i3), (6, .int (-u13.1)), (7, .int v14)]) X (st2.2.1 + (1 : Int32)) hl 5 rfl rfl 76 rfl rfl (by decide) rfl (fun ls hl => ?_)
              refine r_goto X 14 77 rfl (by decide) ?_
              exact IH2 _ hM _ _ _ Y (lv_sub hl [2, 3, 4, 5, 1, 0] rfl)
            · replace hM := mE hM c16
              refine r_iload (pc' := 127) X hl 6 rfl 72 rfl rfl ?_
              refine r_goto X 132 73 rfl (by decide) ?_
              refine r_istore (pc' := 134) (L' := [(4, .int (-u13.1)), (0, .ref h), (1, .int i1), (2, .int i2), (3, .int i3), (5, .int st2.2.1), (6, .int (-u13.1)), (7, .int v14)]) X hl 75 rfl rfl (by decide) rfl (fun ls hl => ?_)
              refine r_iinc (pc' := 137) (L' := [(5, .int (st2.2.1 + (1 : Int32))), (4, .int (-u13.1)), (0, .ref h), (1, .int i1), (2, .int i2), (3, .int i3), (6, .int (-u13.1)), (7, .int v14)]) X (st2.2.1 + (1 : Int32)) hl 5 rfl rfl 76 rfl rfl (by decide) rfl (fun ls hl => ?_)
              refine r_goto X 14 77 rfl (by decide) ?_
              exact IH2 _ hM _ _ _ Y (lv_sub hl [2, 3, 4, 5, 1, 0] rfl)
          refine r_if_eq (pc' := 108) X 113 62 rfl rfl (by decide) (fun c17 => ?_) (fun c17 => ?_)
          · replace hM := mI hM c17
            refine r_aload_n (pc' := 114) X hl 1 rfl rfl 65 rfl rfl ?_
            refine r_get (pc' := 117) (v := .ref h_bests) X Y 66 rfl rfl fRX8_57 0 rfl rfl ?_
            refine r_iload_n (pc' := 118) X hl 2 rfl rfl 67 rfl rfl ?_
            refine r_iald (pc' := 119) X Y 68 rfl rfl 15 rfl (vin g1) ?_
            exact KJ15 ((ms_bests u13.2) (i1).toNatClampNeg) _ _ _ hM Y (lv_sub hl [1, 2, 3, 4, 5, 6, 7, 0] rfl)
          · replace hM := mE hM c17
            refine r_iload (pc' := 110) X hl 6 rfl 63 rfl rfl ?_
            refine r_goto X 119 64 rfl (by decide) ?_
            exact KJ15 st2.2.1 _ _ _ hM Y (lv_sub hl [1, 2, 3, 4, 5, 6, 7, 0] rfl)
        obtain ⟨J18, hJ18, hM⟩ := mJ hM
        have KJ18 : ∀ (v18 : Unit) (H : Heap) (locs : List Loc) (ls : Array Slot), J18 v18 = LL2 → rY G A s (wMS G h h_items h_lanes h_sizes h_firms h_kinds h_now h_before h_images h_tape h_trace h_readFirms h_readKinds h_readAt h_rows h_bests u13.2) H locs → lv_has ls 8 [(0, .ref h), (1, .int i1), (2, .int i2), (3, .int i3), (4, .int st2.1), (5, .int st2.2.1), (6, .int (-u13.1))] → W p l e q_X8_best1 s m args below meth c H locs 0 0 Q (F0 m 91 ls []) := by
          intro v18 H locs ls hM Y hl
          replace hM := (hJ18 _).symm.trans hM
          refine r_iconst (pc' := 92) X (1 : Int32) 54 rfl rfl rfl ?_
          refine r_goto X 96 55 rfl (by decide) ?_
          exact KJ14 (1 : Int32) _ _ _ hM Y (lv_sub hl [0, 1, 2, 3, 4, 5, 6] rfl)
        refine r_icmp_eq (pc' := 84) X 91 50 rfl rfl (by decide) (fun c19 => ?_) (fun c19 => ?_)
        · replace hM := mI hM c19
          exact KJ18 () _ _ _ hM Y (lv_sub hl [1, 2, 3, 4, 5, 6, 0] rfl)
        · replace hM := mE hM c19
          refine r_iload (pc' := 86) X hl 0 rfl 51 rfl rfl ?_
          refine r_iload (pc' := 88) X hl 5 rfl 52 rfl rfl ?_
          refine r_icmp_le (pc' := 91) X 95 53 rfl rfl (by decide) (fun c20 => ?_) (fun c20 => ?_)
          · replace hM := mI hM c20
            refine r_iconst (pc' := 96) X (0 : Int32) 56 rfl rfl rfl ?_
            exact KJ14 (0 : Int32) _ _ _ hM Y (lv_sub hl [1, 2, 3, 4, 5, 6, 0] rfl)
          · replace hM := mE hM c20
            exact KJ18 () _ _ _ hM Y (lv_sub hl [1, 2, 3, 4, 5, 6, 0] rfl)

def M_X8_all1 (S0 : MS) (i1 : Int32) (i2 : Int32) : Option (Int32 × MS) :=
  ((lp (σ := Int32 × Int32 × MS) (β := Int32 × MS) (fun rec1 st1 => (if (7 : Int32) ≤ st1.2.1 then (some (st1.1, st1.2.2)) else ((M_X8_best1 st1.2.2 i1 i2 st1.2.1).bind (fun u3 => (rec1 ((st1.1 + u3.1), (st1.2.1 + (1 : Int32)), u3.2)))))) 1000000 ((0 : Int32), (1 : Int32), S0)).bind (fun b1 => (some (b1.1, b1.2))))
def q_X8_all1 : Room := { frames := 8, cells := 0, slots := 0, locals := 235 }
set_option maxHeartbeats 4000000 in
set_option maxRecDepth 100000 in
theorem c_X8_all1 (l : Launch) (G : gT) (h h_items h_lanes h_sizes h_firms h_kinds h_now h_before h_images h_tape h_trace h_readFirms h_readKinds h_readAt h_rows h_bests : Nat) (S0 : MS) (i1 : Int32) (i2 : Int32) : CT l G yX8_all1 cX8_all1 5 (some .int) q_X8_all1 [.ref h, .int i1, .int i2] (wMS G h h_items h_lanes h_sizes h_firms h_kinds h_now h_before h_images h_tape h_trace h_readFirms h_readKinds h_readAt h_rows h_bests S0) (M_X8_all1 S0 i1 i2) (fun u => some (.int u.1)) (fun u => wMS G h h_items h_lanes h_sizes h_firms h_kinds h_now h_before h_images h_tape h_trace h_readFirms h_readKinds h_readAt h_rows h_bests u.2) := by
  refine CT.of (P := PX8_all1) (by decide) dPX8_all1 (Nat.le_of_ble_eq_true rfl) ?_
  intro p e s m args below meth c A Q ls hne X RT Y hl
  have hl : lv_has ls 5 [(0, .ref h), (1, .int i1), (2, .int i2)] := hl
  generalize hM : M_X8_all1 S0 i1 i2 = MM at hne RT
  unfold M_X8_all1 at hM
  refine r_iconst (pc' := 1) X (0 : Int32) 0 rfl rfl rfl ?_
  refine r_istore_n (pc' := 2) (L' := [(3, .int (0 : Int32)), (0, .ref h), (1, .int i1), (2, .int i2)]) X hl rfl 1 rfl rfl (by decide) rfl (fun ls hl => ?_)
  refine r_iconst (pc' := 3) X (1 : Int32) 2 rfl rfl rfl ?_
  refine r_istore (pc' := 5) (L' := [(4, .int (1 : Int32)), (3, .int (0 : Int32)), (0, .ref h), (1, .int i1), (2, .int i2)]) X hl 3 rfl rfl (by decide) rfl (fun ls hl => ?_)
  obtain ⟨LL1, hL1, hne1, hX1⟩ := mL hM hne
  have KX1 : ∀ (b1 : Int32 × MS) (H : Heap) (locs : List Loc) (ls : Array Slot), some b1 = LL1 → rY G A s (wMS G h h_items h_lanes h_sizes h_firms h_kinds h_now h_before h_images h_tape h_trace h_readFirms h_readKinds h_readAt h_rows h_bests b1.2) H locs → lv_has ls 5 [(3, .int b1.1)] → W p l e q_X8_all1 s m args below meth c H locs 0 0 Q (F0 m 29 ls []) := by
    intro b1 H locs ls hM Y hl
    replace hM := hX1 _ hM
    refine r_iload_n (pc' := 30) X hl 0 rfl rfl 17 rfl rfl ?_
    exact RT (b1.1, b1.2) _ _ _ _ _ hM (Or.inl ⟨rfl, rfl, _, rfl⟩) (X.d (k := 18) rfl) Y
  refine lp_rule (I := fun (st1 : Int32 × Int32 × MS) => ∀ (H : Heap) (locs : List Loc) (ls : Array Slot), rY G A s (wMS G h h_items h_lanes h_sizes h_firms h_kinds h_now h_before h_images h_tape h_trace h_readFirms h_readKinds h_readAt h_rows h_bests st1.2.2) H locs → lv_has ls 5 [(0, .ref h), (1, .int i1), (2, .int i2), (3, .int st1.1), (4, .int st1.2.1)] → W p l e q_X8_all1 s m args below meth c H locs 0 0 Q (F0 m 5 ls [])) hne1 (fun rec1 st1 IH1 hM => ?_) _ _ hL1 _ _ _ Y (lv_sub hl [2, 3, 4, 1, 0] rfl)
  intro H locs ls Y hl
  refine r_iload (pc' := 7) X hl 4 rfl 4 rfl rfl ?_
  refine r_bipush (pc' := 9) X (7 : Int32) 5 rfl rfl rfl ?_
  refine r_icmp_ge (pc' := 12) X 29 6 rfl rfl (by decide) (fun c2 => ?_) (fun c2 => ?_)
  · replace hM := mI hM c2
    exact KX1 _ _ _ _ hM Y (lv_sub hl [3] rfl)
  · replace hM := mE hM c2
    refine r_iload_n (pc' := 13) X hl 3 rfl rfl 7 rfl rfl ?_
    refine r_aload_n (pc' := 14) X hl 0 rfl rfl 8 rfl rfl ?_
    refine r_iload_n (pc' := 15) X hl 1 rfl rfl 9 rfl rfl ?_
    refine r_iload_n (pc' := 16) X hl 2 rfl rfl 10 rfl rfl ?_
    refine r_iload (pc' := 18) X hl 4 rfl 11 rfl rfl ?_
    refine r_callV (pc' := 21) (As := [.int i1, .int i2, .int st1.2.1]) (rest := [.int st1.1]) X Y 12 rfl rfl mRX8_260 (c_X8_best1 l G h h_items h_lanes h_sizes h_firms h_kinds h_now h_before h_images h_tape h_trace h_readFirms h_readKinds h_readAt h_rows h_bests st1.2.2 i1 i2 st1.2.1) (mB hM hne1) 0 rfl rfl [0, 1, 2, 3, 4, 5, 6, 7, 8, 9, 10, 11, 12, 13, 14, 15] [] [0, 1, 2, 3, 4, 5, 6, 7, 8, 9, 10, 11, 12, 13, 14, 15] rfl rfl ⟨rfl, rfl, rfl⟩ rfl (w2 := fun u3 => wMS G h h_items h_lanes h_sizes h_firms h_kinds h_now h_before h_images h_tape h_trace h_readFirms h_readKinds h_readAt h_rows h_bests u3.2) (fun _ => rfl) rfl (Nat.le_of_ble_eq_true rfl) ⟨rfl, rfl⟩ ⟨Nat.le_of_ble_eq_true rfl, Nat.le_of_ble_eq_true rfl⟩ ⟨Nat.zero_le _, Nat.zero_le _⟩ hl.1 (st' := fun u3 => [.int u3.1, .int st1.1]) (fun _ => rfl) (fun u3 H locs huu3 Y => ?_)
    replace hM := mS hM huu3
    refine r_iadd (pc' := 22) X 13 rfl rfl ?_
    refine r_istore_n (pc' := 23) (L' := [(3, .int (st1.1 + u3.1)), (0, .ref h), (1, .int i1), (2, .int i2), (4, .int st1.2.1)]) X hl rfl 14 rfl rfl (by decide) rfl (fun ls hl => ?_)
    refine r_iinc (pc' := 26) (L' := [(4, .int (st1.2.1 + (1 : Int32))), (3, .int (st1.1 + u3.1)), (0, .ref h), (1, .int i1), (2, .int i2)]) X (st1.2.1 + (1 : Int32)) hl 4 rfl rfl 15 rfl rfl (by decide) rfl (fun ls hl => ?_)
    refine r_goto X 5 16 rfl (by decide) ?_
    exact IH1 _ hM _ _ _ Y (lv_sub hl [2, 3, 4, 1, 0] rfl)

def M_X8_best2 (S0 : MS) (i1 : Int32) (i2 : Int32) : Option (Int32 × MS) :=
  ((lp (σ := Int32 × Int32 × MS) (β := Int32 × MS) (fun rec1 st1 => (if (ms_men st1.2.2) ≤ st1.2.1 then (some (st1.1, st1.2.2)) else (if inb st1.2.1 8 = true then (if ((ms_firms st1.2.2) (st1.2.1).toNatClampNeg) = i1 then ((M_X8_can st1.2.2 (0 : Int32) st1.2.1 i2).bind (fun u8 => (if u8 = 0 then (rec1 (st1.1, (st1.2.1 + (1 : Int32)), st1.2.2)) else ((M_X8_deeper st1.2.2 (0 : Int32)).bind (fun u10 => ((M_X8_goMan u10 (1 : Int32) st1.2.1 i2).bind (fun u11 => ((M_X8_all1 u11 (1 : Int32) (((1 : Int32) - i1))).bind (fun u12 => (jn (σ := Int32) (fun v13 => (jn (σ := Int32) (fun v14 => (if v13 = 0 then (rec1 (st1.1, (st1.2.1 + (1 : Int32)), ((ms_status u12.2), (ms_points u12.2), (ms_home u12.2), (ms_men u12.2), (ms_hasTable u12.2), (ms_acts u12.2), (ms_imaged u12.2), (ms_length u12.2), (ms_fault u12.2), (ms_traced u12.2), (ms_spot u12.2), (ms_begins u12.2), (ms_token u12.2), (ms_number u12.2), (ms_readPoints u12.2), (ms_readHome u12.2), (ms_readMen u12.2), (ms_otherOne u12.2), (ms_otherKind u12.2), (ms_items u12.2), (ms_lanes u12.2), (ms_sizes u12.2), (ms_firms u12.2), (ms_kinds u12.2), (ms_now u12.2), (ms_before u12.2), (ms_images u12.2), (ms_tape u12.2), (ms_trace u12.2), (ms_readFirms u12.2), (ms_readKinds u12.2), (ms_readAt u12.2), (ms_rows u12.2), (upd (ms_bests u12.2) ((0 : Int32)).toNatClampNeg v14)))) else (rec1 ((-u12.1), (st1.2.1 + (1 : Int32)), ((ms_status u12.2), (ms_points u12.2), (ms_home u12.2), (ms_men u12.2), (ms_hasTable u12.2), (ms_acts u12.2), (ms_imaged u12.2), (ms_length u12.2), (ms_fault u12.2), (ms_traced u12.2), (ms_spot u12.2), (ms_begins u12.2), (ms_token u12.2), (ms_number u12.2), (ms_readPoints u12.2), (ms_readHome u12.2), (ms_readMen u12.2), (ms_otherOne u12.2), (ms_otherKind u12.2), (ms_items u12.2), (ms_lanes u12.2), (ms_sizes u12.2), (ms_firms u12.2), (ms_kinds u12.2), (ms_now u12.2), (ms_before u12.2), (ms_images u12.2), (ms_tape u12.2), (ms_trace u12.2), (ms_readFirms u12.2), (ms_readKinds u12.2), (ms_readAt u12.2), (ms_rows u12.2), (upd (ms_bests u12.2) ((0 : Int32)).toNatClampNeg v14)))))) (fun J14 => (if v13 = 0 then (J14 ((ms_bests u12.2) ((0 : Int32)).toNatClampNeg)) else (J14 st1.2.1))))) (fun J13 => (jn (σ := Unit) (fun v17 => (J13 (1 : Int32))) (fun J17 => (if ((ms_bests u12.2) ((0 : Int32)).toNatClampNeg) = (-1000000 : Int32) then (J17 ()) else (if (-u12.1) ≤ st1.1 then (J13 (0 : Int32)) else (J17 ())))))))))))))))) else (rec1 (st1.1, (st1.2.1 + (1 : Int32)), st1.2.2))) else none))) 1000000 ((0 : Int32), (0 : Int32), ((ms_status S0), (ms_points S0), (ms_home S0), (ms_men S0), (ms_hasTable S0), (ms_acts S0), (ms_imaged S0), (ms_length S0), (ms_fault S0), (ms_traced S0), (ms_spot S0), (ms_begins S0), (ms_token S0), (ms_number S0), (ms_readPoints S0), (ms_readHome S0), (ms_readMen S0), (ms_otherOne S0), (ms_otherKind S0), (ms_items S0), (ms_lanes S0), (ms_sizes S0), (ms_firms S0), (ms_kinds S0), (ms_now S0), (ms_before S0), (ms_images S0), (ms_tape S0), (ms_trace S0), (ms_readFirms S0), (ms_readKinds S0), (ms_readAt S0), (ms_rows S0), (upd (ms_bests S0) ((0 : Int32)).toNatClampNeg (-1000000 : Int32))))).bind (fun b1 => (if ((ms_bests b1.2) ((0 : Int32)).toNatClampNeg) = (-1000000 : Int32) then ((M_X8_deeper b1.2 (0 : Int32)).bind (fun u3 => ((M_X8_all1 u3 (1 : Int32) (((1 : Int32) - i1))).bind (fun u4 => (some ((-u4.1), u4.2)))))) else (some (b1.1, b1.2)))))
def q_X8_best2 : Room := { frames := 9, cells := 0, slots := 0, locals := 259 }
set_option maxHeartbeats 4000000 in
set_option maxRecDepth 100000 in
theorem c_X8_best2 (l : Launch) (G : gT) (h h_items h_lanes h_sizes h_firms h_kinds h_now h_before h_images h_tape h_trace h_readFirms h_readKinds h_readAt h_rows h_bests : Nat) (S0 : MS) (i1 : Int32) (i2 : Int32) : CT l G yX8_best2 cX8_best2 7 (some .int) q_X8_best2 [.ref h, .int i1, .int i2] (wMS G h h_items h_lanes h_sizes h_firms h_kinds h_now h_before h_images h_tape h_trace h_readFirms h_readKinds h_readAt h_rows h_bests S0) (M_X8_best2 S0 i1 i2) (fun u => some (.int u.1)) (fun u => wMS G h h_items h_lanes h_sizes h_firms h_kinds h_now h_before h_images h_tape h_trace h_readFirms h_readKinds h_readAt h_rows h_bests u.2) := by
  refine CT.of (P := PX8_best2) (by decide) dPX8_best2 (Nat.le_of_ble_eq_true rfl) ?_
  intro p e s m args below meth c A Q ls hne X RT Y hl
  have hl : lv_has ls 7 [(0, .ref h), (1, .int i1), (2, .int i2)] := hl
  generalize hM : M_X8_best2 S0 i1 i2 = MM at hne RT
  unfold M_X8_best2 at hM
  refine r_iconst (pc' := 1) X (0 : Int32) 0 rfl rfl rfl ?_
  refine r_istore_n (pc' := 2) (L' := [(3, .int (0 : Int32)), (0, .ref h), (1, .int i1), (2, .int i2)]) X hl rfl 1 rfl rfl (by decide) rfl (fun ls hl => ?_)
  refine r_aload_n (pc' := 3) X hl 1 rfl rfl 2 rfl rfl ?_
  refine r_get (pc' := 6) (v := .ref h_bests) X Y 3 rfl rfl fRX8_57 0 rfl rfl ?_
  refine r_iconst (pc' := 7) X (0 : Int32) 4 rfl rfl rfl ?_
  refine r_ldc (pc' := 9) X mw530 5 rfl rfl ?_
  refine r_iast (pc' := 10) (ws' := wMS G h h_items h_lanes h_sizes h_firms h_kinds h_now h_before h_images h_tape h_trace h_readFirms h_readKinds h_readAt h_rows h_bests ((ms_status S0), (ms_points S0), (ms_home S0), (ms_men S0), (ms_hasTable S0), (ms_acts S0), (ms_imaged S0), (ms_length S0), (ms_fault S0), (ms_traced S0), (ms_spot S0), (ms_begins S0), (ms_token S0), (ms_number S0), (ms_readPoints S0), (ms_readHome S0), (ms_readMen S0), (ms_otherOne S0), (ms_otherKind S0), (ms_items S0), (ms_lanes S0), (ms_sizes S0), (ms_firms S0), (ms_kinds S0), (ms_now S0), (ms_before S0), (ms_images S0), (ms_tape S0), (ms_trace S0), (ms_readFirms S0), (ms_readKinds S0), (ms_readAt S0), (ms_rows S0), (upd (ms_bests S0) ((0 : Int32)).toNatClampNeg (-1000000 : Int32)))) X Y 6 rfl rfl 15 rfl (vin rfl) rfl (fun H locs Y => ?_)
  refine r_iconst (pc' := 11) X (0 : Int32) 7 rfl rfl rfl ?_
  refine r_istore (pc' := 13) (L' := [(4, .int (0 : Int32)), (3, .int (0 : Int32)), (0, .ref h), (1, .int i1), (2, .int i2)]) X hl 8 rfl rfl (by decide) rfl (fun ls hl => ?_)
  obtain ⟨LL1, hL1, hne1, hX1⟩ := mL hM hne
  have KX1 : ∀ (b1 : Int32 × MS) (H : Heap) (locs : List Loc) (ls : Array Slot), some b1 = LL1 → rY G A s (wMS G h h_items h_lanes h_sizes h_firms h_kinds h_now h_before h_images h_tape h_trace h_readFirms h_readKinds h_readAt h_rows h_bests b1.2) H locs → lv_has ls 7 [(0, .ref h), (1, .int i1), (3, .int b1.1)] → W p l e q_X8_best2 s m args below meth c H locs 0 0 Q (F0 m 132 ls []) := by
    intro b1 H locs ls hM Y hl
    replace hM := hX1 _ hM
    refine r_aload_n (pc' := 133) X hl 0 rfl rfl 74 rfl rfl ?_
    refine r_get (pc' := 136) (v := .ref h_bests) X Y 75 rfl rfl fRX8_57 0 rfl rfl ?_
    refine r_iconst (pc' := 137) X (0 : Int32) 76 rfl rfl rfl ?_
    refine r_iald (pc' := 138) X Y 77 rfl rfl 15 rfl (vin rfl) ?_
    refine r_ldc (pc' := 140) X mw530 78 rfl rfl ?_
    refine r_icmp_ne (pc' := 143) X 158 79 rfl rfl (by decide) (fun c2 => ?_) (fun c2 => ?_)
    · replace hM := mE hM c2
      refine r_iload_n (pc' := 159) X hl 2 rfl rfl 91 rfl rfl ?_
      exact RT (b1.1, b1.2) _ _ _ _ _ hM (Or.inl ⟨rfl, rfl, _, rfl⟩) (X.d (k := 92) rfl) Y
    · replace hM := mI hM c2
      refine r_aload_n (pc' := 144) X hl 0 rfl rfl 80 rfl rfl ?_
      refine r_iconst (pc' := 145) X (0 : Int32) 81 rfl rfl rfl ?_
      refine r_callV (pc' := 148) (As := [.int (0 : Int32)]) (rest := []) X Y 82 rfl rfl mRX8_251 (c_X8_deeper l G h h_items h_lanes h_sizes h_firms h_kinds h_now h_before h_images h_tape h_trace h_readFirms h_readKinds h_readAt h_rows h_bests b1.2 (0 : Int32)) (mB hM hne) 0 rfl rfl [0, 1, 2, 3, 4, 5, 6, 7, 8, 9, 10, 11, 12, 13, 14, 15] [] [0, 1, 2, 3, 4, 5, 6, 7, 8, 9, 10, 11, 12, 13, 14, 15] rfl rfl ⟨rfl, rfl, rfl⟩ rfl (w2 := fun u3 => wMS G h h_items h_lanes h_sizes h_firms h_kinds h_now h_before h_images h_tape h_trace h_readFirms h_readKinds h_readAt h_rows h_bests u3) (fun _ => rfl) rfl (Nat.le_of_ble_eq_true rfl) ⟨rfl, rfl⟩ ⟨Nat.le_of_ble_eq_true rfl, Nat.le_of_ble_eq_true rfl⟩ ⟨Nat.zero_le _, Nat.zero_le _⟩ hl.1 (st' := fun u3 => []) (fun _ => rfl) (fun u3 H locs huu3 Y => ?_)
      replace hM := mS hM huu3
      refine r_aload_n (pc' := 149) X hl 0 rfl rfl 83 rfl rfl ?_
      refine r_iconst (pc' := 150) X (1 : Int32) 84 rfl rfl rfl ?_
      refine r_iconst (pc' := 151) X (1 : Int32) 85 rfl rfl rfl ?_
      refine r_iload_n (pc' := 152) X hl 1 rfl rfl 86 rfl rfl ?_
      refine r_isub (pc' := 153) X 87 rfl rfl ?_
      refine r_callV (pc' := 156) (As := [.int (1 : Int32), .int ((1 : Int32) - i1)]) (rest := []) X Y 88 rfl rfl mRX8_263 (c_X8_all1 l G h h_items h_lanes h_sizes h_firms h_kinds h_now h_before h_images h_tape h_trace h_readFirms h_readKinds h_readAt h_rows h_bests u3 (1 : Int32) (((1 : Int32) - i1))) (mB hM hne) 0 rfl rfl [0, 1, 2, 3, 4, 5, 6, 7, 8, 9, 10, 11, 12, 13, 14, 15] [] [0, 1, 2, 3, 4, 5, 6, 7, 8, 9, 10, 11, 12, 13, 14, 15] rfl rfl ⟨rfl, rfl, rfl⟩ rfl (w2 := fun u4 => wMS G h h_items h_lanes h_sizes h_firms h_kinds h_now h_before h_images h_tape h_trace h_readFirms h_readKinds h_readAt h_rows h_bests u4.2) (fun _ => rfl) rfl (Nat.le_of_ble_eq_true rfl) ⟨rfl, rfl⟩ ⟨Nat.le_of_ble_eq_true rfl, Nat.le_of_ble_eq_true rfl⟩ ⟨Nat.zero_le _, Nat.zero_le _⟩ hl.1 (st' := fun u4 => [.int u4.1]) (fun _ => rfl) (fun u4 H locs huu4 Y => ?_)
      replace hM := mS hM huu4
      refine r_ineg (pc' := 157) X 89 rfl rfl ?_
      refine r_istore_n (pc' := 158) (L' := [(3, .int (-u4.1)), (0, .ref h), (1, .int i1)]) X hl rfl 90 rfl rfl (by decide) rfl (fun ls hl => ?_)
      refine r_iload_n (pc' := 159) X hl 0 rfl rfl 91 rfl rfl ?_
      exact RT ((-u4.1), u4.2) _ _ _ _ _ hM (Or.inl ⟨rfl, rfl, _, rfl⟩) (X.d (k := 92) rfl) Y
  refine lp_rule (I := fun (st1 : Int32 × Int32 × MS) => ∀ (H : Heap) (locs : List Loc) (ls : Array Slot), rY G A s (wMS G h h_items h_lanes h_sizes h_firms h_kinds h_now h_before h_images h_tape h_trace h_readFirms h_readKinds h_readAt h_rows h_bests st1.2.2) H locs → lv_has ls 7 [(0, .ref h), (1, .int i1), (2, .int i2), (3, .int st1.1), (4, .int st1.2.1)] → W p l e q_X8_best2 s m args below meth c H locs 0 0 Q (F0 m 13 ls [])) hne1 (fun rec1 st1 IH1 hM => ?_) _ _ hL1 _ _ _ Y (lv_sub hl [2, 3, 4, 1, 0] rfl)
  intro H locs ls Y hl
  refine r_iload (pc' := 15) X hl 4 rfl 9 rfl rfl ?_
  refine r_aload_n (pc' := 16) X hl 0 rfl rfl 10 rfl rfl ?_
  refine r_get (pc' := 19) (v := .int (ms_men st1.2.2)) X Y 11 rfl rfl fRX8_159 0 rfl rfl ?_
  refine r_icmp_ge (pc' := 22) X 132 12 rfl rfl (by decide) (fun c5 => ?_) (fun c5 => ?_)
  · replace hM := mI hM c5
    exact KX1 _ _ _ _ hM Y (lv_sub hl [0, 1, 3] rfl)
  · replace hM := mE hM c5
    refine r_aload_n (pc' := 23) X hl 0 rfl rfl 13 rfl rfl ?_
    refine r_get (pc' := 26) (v := .ref h_firms) X Y 14 rfl rfl fRX8_19 0 rfl rfl ?_
    refine r_iload (pc' := 28) X hl 4 rfl 15 rfl rfl ?_
    obtain ⟨g6, hM⟩ := mG hM hne1
    refine r_iald (pc' := 29) X Y 16 rfl rfl 4 rfl (vin g6) ?_
    refine r_iload_n (pc' := 30) X hl 1 rfl rfl 17 rfl rfl ?_
    refine r_icmp_ne (pc' := 33) X 126 18 rfl rfl (by decide) (fun c7 => ?_) (fun c7 => ?_)
    · replace hM := mE hM c7
      refine r_iinc (pc' := 129) (L' := [(4, .int (st1.2.1 + (1 : Int32))), (0, .ref h), (1, .int i1), (2, .int i2), (3, .int st1.1)]) X (st1.2.1 + (1 : Int32)) hl 4 rfl rfl 72 rfl rfl (by decide) rfl (fun ls hl => ?_)
      refine r_goto X 13 73 rfl (by decide) ?_
      exact IH1 _ hM _ _ _ Y (lv_sub hl [1, 2, 3, 4, 0] rfl)
    · replace hM := mI hM c7
      refine r_aload_n (pc' := 34) X hl 0 rfl rfl 19 rfl rfl ?_
      refine r_iconst (pc' := 35) X (0 : Int32) 20 rfl rfl rfl ?_
      refine r_iload (pc' := 37) X hl 4 rfl 21 rfl rfl ?_
      refine r_iload_n (pc' := 38) X hl 2 rfl rfl 22 rfl rfl ?_
      refine r_callV0 (pc' := 41) (As := [.int (0 : Int32), .int st1.2.1, .int i2]) (rest := []) X Y 23 rfl rfl mRX8_199 (c_X8_can l G h h_items h_lanes h_sizes h_firms h_kinds h_now h_before h_images h_tape h_trace h_readFirms h_readKinds h_readAt h_rows h_bests st1.2.2 (0 : Int32) st1.2.1 i2) (mB hM hne1) 0 rfl rfl [0, 1, 2, 3, 4, 5, 6, 7, 8, 9, 10, 11, 12, 13, 14, 15] rfl rfl rfl (Nat.le_of_ble_eq_true rfl) ⟨rfl, rfl⟩ ⟨Nat.le_of_ble_eq_true rfl, Nat.le_of_ble_eq_true rfl⟩ ⟨Nat.zero_le _, Nat.zero_le _⟩ hl.1 (st' := fun u8 => [.int u8]) (fun _ => rfl) (fun u8 H locs huu8 Y => ?_)
      replace hM := mS hM huu8
      refine r_if_eq (pc' := 44) X 126 24 rfl rfl (by decide) (fun c9 => ?_) (fun c9 => ?_)
      · replace hM := mI hM c9
        refine r_iinc (pc' := 129) (L' := [(4, .int (st1.2.1 + (1 : Int32))), (0, .ref h), (1, .int i1), (2, .int i2), (3, .int st1.1)]) X (st1.2.1 + (1 : Int32)) hl 4 rfl rfl 72 rfl rfl (by decide) rfl (fun ls hl => ?_)
        refine r_goto X 13 73 rfl (by decide) ?_
        exact IH1 _ hM _ _ _ Y (lv_sub hl [1, 2, 3, 4, 0] rfl)
      · replace hM := mE hM c9
        refine r_aload_n (pc' := 45) X hl 0 rfl rfl 25 rfl rfl ?_
        refine r_iconst (pc' := 46) X (0 : Int32) 26 rfl rfl rfl ?_
        refine r_callV (pc' := 49) (As := [.int (0 : Int32)]) (rest := []) X Y 27 rfl rfl mRX8_251 (c_X8_deeper l G h h_items h_lanes h_sizes h_firms h_kinds h_now h_before h_images h_tape h_trace h_readFirms h_readKinds h_readAt h_rows h_bests st1.2.2 (0 : Int32)) (mB hM hne1) 0 rfl rfl [0, 1, 2, 3, 4, 5, 6, 7, 8, 9, 10, 11, 12, 13, 14, 15] [] [0, 1, 2, 3, 4, 5, 6, 7, 8, 9, 10, 11, 12, 13, 14, 15] rfl rfl ⟨rfl, rfl, rfl⟩ rfl (w2 := fun u10 => wMS G h h_items h_lanes h_sizes h_firms h_kinds h_now h_before h_images h_tape h_trace h_readFirms h_readKinds h_readAt h_rows h_bests u10) (fun _ => rfl) rfl (Nat.le_of_ble_eq_true rfl) ⟨rfl, rfl⟩ ⟨Nat.le_of_ble_eq_true rfl, Nat.le_of_ble_eq_true rfl⟩ ⟨Nat.zero_le _, Nat.zero_le _⟩ hl.1 (st' := fun u10 => []) (fun _ => rfl) (fun u10 H locs huu10 Y => ?_)
        replace hM := mS hM huu10
        refine r_aload_n (pc' := 50) X hl 0 rfl rfl 28 rfl rfl ?_
        refine r_iconst (pc' := 51) X (1 : Int32) 29 rfl rfl rfl ?_
        refine r_iload (pc' := 53) X hl 4 rfl 30 rfl rfl ?_
        refine r_iload_n (pc' := 54) X hl 2 rfl rfl 31 rfl rfl ?_
        refine r_callV (pc' := 57) (As := [.int (1 : Int32), .int st1.2.1, .int i2]) (rest := []) X Y 32 rfl rfl mRX8_212 (c_X8_goMan l G h h_items h_lanes h_sizes h_firms h_kinds h_now h_before h_images h_tape h_trace h_readFirms h_readKinds h_readAt h_rows h_bests u10 (1 : Int32) st1.2.1 i2) (mB hM hne1) 0 rfl rfl [0, 1, 2, 3, 4, 5, 6, 7, 8, 9, 10, 11, 12, 13, 14, 15] [] [0, 1, 2, 3, 4, 5, 6, 7, 8, 9, 10, 11, 12, 13, 14, 15] rfl rfl ⟨rfl, rfl, rfl⟩ rfl (w2 := fun u11 => wMS G h h_items h_lanes h_sizes h_firms h_kinds h_now h_before h_images h_tape h_trace h_readFirms h_readKinds h_readAt h_rows h_bests u11) (fun _ => rfl) rfl (Nat.le_of_ble_eq_true rfl) ⟨rfl, rfl⟩ ⟨Nat.le_of_ble_eq_true rfl, Nat.le_of_ble_eq_true rfl⟩ ⟨Nat.zero_le _, Nat.zero_le _⟩ hl.1 (st' := fun u11 => []) (fun _ => rfl) (fun u11 H locs huu11 Y => ?_)
        replace hM := mS hM huu11
        refine r_aload_n (pc' := 58) X hl 0 rfl rfl 33 rfl rfl ?_
        refine r_iconst (pc' := 59) X (1 : Int32) 34 rfl rfl rfl ?_
        refine r_iconst (pc' := 60) X (1 : Int32) 35 rfl rfl rfl ?_
        refine r_iload_n (pc' := 61) X hl 1 rfl rfl 36 rfl rfl ?_
        refine r_isub (pc' := 62) X 37 rfl rfl ?_
        refine r_callV (pc' := 65) (As := [.int (1 : Int32), .int ((1 : Int32) - i1)]) (rest := []) X Y 38 rfl rfl mRX8_263 (c_X8_all1 l G h h_items h_lanes h_sizes h_firms h_kinds h_now h_before h_images h_tape h_trace h_readFirms h_readKinds h_readAt h_rows h_bests u11 (1 : Int32) (((1 : Int32) - i1))) (mB hM hne1) 0 rfl rfl [0, 1, 2, 3, 4, 5, 6, 7, 8, 9, 10, 11, 12, 13, 14, 15] [] [0, 1, 2, 3, 4, 5, 6, 7, 8, 9, 10, 11, 12, 13, 14, 15] rfl rfl ⟨rfl, rfl, rfl⟩ rfl (w2 := fun u12 => wMS G h h_items h_lanes h_sizes h_firms h_kinds h_now h_before h_images h_tape h_trace h_readFirms h_readKinds h_readAt h_rows h_bests u12.2) (fun _ => rfl) rfl (Nat.le_of_ble_eq_true rfl) ⟨rfl, rfl⟩ ⟨Nat.le_of_ble_eq_true rfl, Nat.le_of_ble_eq_true rfl⟩ ⟨Nat.zero_le _, Nat.zero_le _⟩ hl.1 (st' := fun u12 => [.int u12.1]) (fun _ => rfl) (fun u12 H locs huu12 Y => ?_)
        replace hM := mS hM huu12
        refine r_ineg (pc' := 66) X 39 rfl rfl ?_
        refine r_istore (pc' := 68) (L' := [(5, .int (-u12.1)), (0, .ref h), (1, .int i1), (2, .int i2), (3, .int st1.1), (4, .int st1.2.1)]) X hl 40 rfl rfl (by decide) rfl (fun ls hl => ?_)
        refine r_aload_n (pc' := 69) X hl 1 rfl rfl 41 rfl rfl ?_
        refine r_get (pc' := 72) (v := .ref h_bests) X Y 42 rfl rfl fRX8_57 0 rfl rfl ?_
        refine r_iconst (pc' := 73) X (0 : Int32) 43 rfl rfl rfl ?_
        refine r_iald (pc' := 74) X Y 44 rfl rfl 15 rfl (vin rfl) ?_
        refine r_ldc (pc' := 76) X mw530 45 rfl rfl ?_
        obtain ⟨J13, hJ13, hM⟩ := mJ hM
        have KJ13 : ∀ (v13 : Int32) (H : Heap) (locs : List Loc) (ls : Array Slot), J13 v13 = LL1 → rY G A s (wMS G h h_items h_lanes h_sizes h_firms h_kinds h_now h_before h_images h_tape h_trace h_readFirms h_readKinds h_readAt h_rows h_bests u12.2) H locs → lv_has ls 7 [(0, .ref h), (1, .int i1), (2, .int i2), (3, .int st1.1), (4, .int st1.2.1), (5, .int (-u12.1))] → W p l e q_X8_best2 s m args below meth c H locs 0 0 Q (F0 m 90 ls [.int v13]) := by
          intro v13 H locs ls hM Y hl
          replace hM := (hJ13 _).symm.trans hM
          refine r_istore (pc' := 92) (L' := [(6, .int v13), (0, .ref h), (1, .int i1), (2, .int i2), (3, .int st1.1), (4, .int st1.2.1), (5, .int (-u12.1))]) X hl 53 rfl rfl (by decide) rfl (fun ls hl => ?_)
          refine r_aload_n (pc' := 93) X hl 1 rfl rfl 54 rfl rfl ?_
          refine r_get (pc' := 96) (v := .ref h_bests) X Y 55 rfl rfl fRX8_57 0 rfl rfl ?_
          refine r_iconst (pc' := 97) X (0 : Int32) 56 rfl rfl rfl ?_
          refine r_iload (pc' := 99) X hl 0 rfl 57 rfl rfl ?_
          obtain ⟨J14, hJ14, hM⟩ := mJ hM
          have KJ14 : ∀ (v14 : Int32) (H : Heap) (locs : List Loc) (ls : Array Slot), J14 v14 = LL1 → rY G A s (wMS G h h_items h_lanes h_sizes h_firms h_kinds h_now h_before h_images h_tape h_trace h_readFirms h_readKinds h_readAt h_rows h_bests u12.2) H locs → lv_has ls 7 [(0, .ref h), (1, .int i1), (2, .int i2), (3, .int st1.1), (4, .int st1.2.1), (5, .int (-u12.1)), (6, .int v13)] → W p l e q_X8_best2 s m args below meth c H locs 0 0 Q (F0 m 113 ls [.int v14, .int (0 : Int32), .ref h_bests]) := by
            intro v14 H locs ls hM Y hl
            replace hM := (hJ14 _).symm.trans hM
            refine r_iast (pc' := 114) (ws' := wMS G h h_items h_lanes h_sizes h_firms h_kinds h_now h_before h_images h_tape h_trace h_readFirms h_readKinds h_readAt h_rows h_bests ((ms_status u12.2), (ms_points u12.2), (ms_home u12.2), (ms_men u12.2), (ms_hasTable u12.2), (ms_acts u12.2), (ms_imaged u12.2), (ms_length u12.2), (ms_fault u12.2), (ms_traced u12.2), (ms_spot u12.2), (ms_begins u12.2), (ms_token u12.2), (ms_number u12.2), (ms_readPoints u12.2), (ms_readHome u12.2), (ms_readMen u12.2), (ms_otherOne u12.2), (ms_otherKind u12.2), (ms_items u12.2), (ms_lanes u12.2), (ms_sizes u12.2), (ms_firms u12.2), (ms_kinds u12.2), (ms_now u12.2), (ms_before u12.2), (ms_images u12.2), (ms_tape u12.2), (ms_trace u12.2), (ms_readFirms u12.2), (ms_readKinds u12.2), (ms_readAt u12.2), (ms_rows u12.2), (upd (ms_bests u12.2) ((0 : Int32)).toNatClampNeg v14))) X Y 65 rfl rfl 15 rfl (vin rfl) rfl (fun H locs Y => ?_)
            refine r_iload (pc' := 116) X hl 6 rfl 66 rfl rfl ?_
            refine r_if_eq (pc' := 119) X 124 67 rfl rfl (by decide) (fun c15 => ?_) (fun c15 => ?_)
            · replace hM := mI hM c15
              refine r_iload_n (pc' := 125) X hl 3 rfl rfl 70 rfl rfl ?_
              refine r_istore_n (pc' := 126) (L' := [(3, .int st1.1), (0, .ref h), (1, .int i1), (2, .int i2), (4, .int st1.2.1), (5, .int (-u12.1)), (6, .int v13)]) X hl rfl 71 rfl rfl (by decide) rfl (fun ls hl => ?_)
              refine r_iinc (pc' := 129) (L' := [(4, .int (st1.2.1 + (1 : Int32))), (3, .int st1.1), (0, .ref h), (1, .int i1), (2, .int i2), (5, .int (-u12.1)), (6, .int v13)]) X (st1.2.1 + (1 : Int32)) hl 4 rfl rfl 72 rfl rfl (by decide) rfl (fun ls hl => ?_)
              refine r_goto X 13 73 rfl (by decide) ?_
              exact IH1 _ hM _ _ _ Y (lv_sub hl [2, 3, 4, 1, 0] rfl)
            · replace hM := mE hM c15
              refine r_iload (pc' := 121) X hl 5 rfl 68 rfl rfl ?_
              refine r_goto X 125 69 rfl (by decide) ?_
              refine r_istore_n (pc' := 126) (L' := [(3, .int (-u12.1)), (0, .ref h), (1, .int i1), (2, .int i2), (4, .int st1.2.1), (5, .int (-u12.1)), (6, .int v13)]) X hl rfl 71 rfl rfl (by decide) rfl (fun ls hl => ?_)
              refine r_iinc (pc' := 129) (L' := [(4, .int (st1.2.1 + (1 : Int32))), (3, .int (-u12.1)), (0, .ref h), (1, .int i1), (2, .int i2), (5, .int (-u12.1)), (6, .int v13)]) X (st1.2.1 + (1 : Int32)) hl 4 rfl rfl 72 rfl rfl (by decide) rfl (fun ls hl => ?_)
              refine r_goto X 13 73 rfl (by decide) ?_
              exact IH1 _ hM _ _ _ Y (lv_sub hl [2, 3, 4, 1, 0] rfl)
          refine r_if_eq (pc' := 102) X 107 58 rfl rfl (by decide) (fun c16 => ?_) (fun c16 => ?_)
          · replace hM := mI hM c16
            refine r_aload_n (pc' := 108) X hl 1 rfl rfl 61 rfl rfl ?_
            refine r_get (pc' := 111) (v := .ref h_bests) X Y 62 rfl rfl fRX8_57 0 rfl rfl ?_
            refine r_iconst (pc' := 112) X (0 : Int32) 63 rfl rfl rfl ?_
            refine r_iald (pc' := 113) X Y 64 rfl rfl 15 rfl (vin rfl) ?_
            exact KJ14 ((ms_bests u12.2) ((0 : Int32)).toNatClampNeg) _ _ _ hM Y (lv_sub hl [1, 2, 3, 4, 5, 6, 0] rfl)
          · replace hM := mE hM c16
            refine r_iload (pc' := 104) X hl 5 rfl 59 rfl rfl ?_
            refine r_goto X 113 60 rfl (by decide) ?_
            exact KJ14 st1.2.1 _ _ _ hM Y (lv_sub hl [1, 2, 3, 4, 5, 6, 0] rfl)
        obtain ⟨J17, hJ17, hM⟩ := mJ hM
        have KJ17 : ∀ (v17 : Unit) (H : Heap) (locs : List Loc) (ls : Array Slot), J17 v17 = LL1 → rY G A s (wMS G h h_items h_lanes h_sizes h_firms h_kinds h_now h_before h_images h_tape h_trace h_readFirms h_readKinds h_readAt h_rows h_bests u12.2) H locs → lv_has ls 7 [(0, .ref h), (1, .int i1), (2, .int i2), (3, .int st1.1), (4, .int st1.2.1), (5, .int (-u12.1))] → W p l e q_X8_best2 s m args below meth c H locs 0 0 Q (F0 m 85 ls []) := by
          intro v17 H locs ls hM Y hl
          replace hM := (hJ17 _).symm.trans hM
          refine r_iconst (pc' := 86) X (1 : Int32) 50 rfl rfl rfl ?_
          refine r_goto X 90 51 rfl (by decide) ?_
          exact KJ13 (1 : Int32) _ _ _ hM Y (lv_sub hl [0, 1, 2, 3, 4, 5] rfl)
        refine r_icmp_eq (pc' := 79) X 85 46 rfl rfl (by decide) (fun c18 => ?_) (fun c18 => ?_)
        · replace hM := mI hM c18
          exact KJ17 () _ _ _ hM Y (lv_sub hl [1, 2, 3, 4, 5, 0] rfl)
        · replace hM := mE hM c18
          refine r_iload (pc' := 81) X hl 0 rfl 47 rfl rfl ?_
          refine r_iload_n (pc' := 82) X hl 4 rfl rfl 48 rfl rfl ?_
          refine r_icmp_le (pc' := 85) X 89 49 rfl rfl (by decide) (fun c19 => ?_) (fun c19 => ?_)
          · replace hM := mI hM c19
            refine r_iconst (pc' := 90) X (0 : Int32) 52 rfl rfl rfl ?_
            exact KJ13 (0 : Int32) _ _ _ hM Y (lv_sub hl [1, 2, 3, 4, 5, 0] rfl)
          · replace hM := mE hM c19
            exact KJ17 () _ _ _ hM Y (lv_sub hl [1, 2, 3, 4, 5, 0] rfl)

def M_X8_best (S0 : MS) (i1 : Int32) (i2 : Int32) (i3 : Int32) : Option (Int32 × MS) :=
  (if (ms_hasTable S0) = 0 then (some ((-1000002 : Int32), S0)) else ((M_X8_isThrow i1).bind (fun u2 => (if u2 = 0 then (some ((-1000001 : Int32), S0)) else ((M_X8_in ((i2).toInt64) (0 : Int64) (2 : Int64)).bind (fun u4 => (if u4 = 0 then (some ((-1000001 : Int32), S0)) else ((M_X8_in ((i3).toInt64) (0 : Int64) (1 : Int64)).bind (fun u6 => (if u6 = 0 then (some ((-1000001 : Int32), S0)) else ((M_X8_wonNow S0).bind (fun u8 => (if u8.1 = (-1000000 : Int32) then (jn (σ := MS × Int32) (fun v10 => (if i3 = 0 then (some (((ms_bests v10.1) ((0 : Int32)).toNatClampNeg), v10.1)) else (some (v10.2, v10.1)))) (fun J10 => (if i2 = 0 then ((M_X8_best0 u8.2 (0 : Int32) (((ms_now u8.2) ((8 : Int32)).toNatClampNeg)) i1).bind (fun u16 => (J10 (u16.2, u16.1)))) else (if i2 = (1 : Int32) then ((M_X8_best1 u8.2 (0 : Int32) (((ms_now u8.2) ((8 : Int32)).toNatClampNeg)) i1).bind (fun u15 => (J10 (u15.2, u15.1)))) else ((M_X8_best2 u8.2 (((ms_now u8.2) ((8 : Int32)).toNatClampNeg)) i1).bind (fun u14 => (J10 (u14.2, u14.1)))))))) else (some ((-1000002 : Int32), u8.2)))))))))))))))
def q_X8_best : Room := { frames := 10, cells := 0, slots := 0, locals := 285 }
set_option maxHeartbeats 4000000 in
set_option maxRecDepth 100000 in
theorem c_X8_best (l : Launch) (G : gT) (h h_items h_lanes h_sizes h_firms h_kinds h_now h_before h_images h_tape h_trace h_readFirms h_readKinds h_readAt h_rows h_bests : Nat) (S0 : MS) (i1 : Int32) (i2 : Int32) (i3 : Int32) : CT l G yX8_best cX8_best 6 (some .int) q_X8_best [.ref h, .int i1, .int i2, .int i3] (wMS G h h_items h_lanes h_sizes h_firms h_kinds h_now h_before h_images h_tape h_trace h_readFirms h_readKinds h_readAt h_rows h_bests S0) (M_X8_best S0 i1 i2 i3) (fun u => some (.int u.1)) (fun u => wMS G h h_items h_lanes h_sizes h_firms h_kinds h_now h_before h_images h_tape h_trace h_readFirms h_readKinds h_readAt h_rows h_bests u.2) := by
  refine CT.of (P := PX8_best) (by decide) dPX8_best (Nat.le_of_ble_eq_true rfl) ?_
  intro p e s m args below meth c A Q ls hne X RT Y hl
  have hl : lv_has ls 6 [(0, .ref h), (1, .int i1), (2, .int i2), (3, .int i3)] := hl
  generalize hM : M_X8_best S0 i1 i2 i3 = MM at hne RT
  unfold M_X8_best at hM
  refine r_aload_n (pc' := 1) X hl 0 rfl rfl 0 rfl rfl ?_
  refine r_get (pc' := 4) (v := .int (ms_hasTable S0)) X Y 1 rfl rfl fRX8_162 0 rfl rfl ?_
  refine r_if_ne (pc' := 7) X 10 2 rfl rfl (by decide) (fun c1 => ?_) (fun c1 => ?_)
  · replace hM := mE hM c1
    refine r_iload_n (pc' := 11) X hl 1 rfl rfl 5 rfl rfl ?_
    refine r_callS0 (pc' := 14) (As := [.int i1]) (rest := []) X Y 6 rfl rfl mRX8_225 (c_X8_isThrow l G i1) (mB hM hne) rfl [] rfl rfl rfl (Nat.le_of_ble_eq_true rfl) ⟨rfl, rfl⟩ ⟨Nat.le_of_ble_eq_true rfl, Nat.le_of_ble_eq_true rfl⟩ ⟨Nat.zero_le _, Nat.zero_le _⟩ hl.1 (st' := fun u2 => [.int u2]) (fun _ => rfl) (fun u2 H locs huu2 Y => ?_)
    replace hM := mS hM huu2
    refine r_if_eq (pc' := 17) X 39 7 rfl rfl (by decide) (fun c3 => ?_) (fun c3 => ?_)
    · replace hM := mI hM c3
      refine r_ldc (pc' := 41) X mw546 20 rfl rfl ?_
      exact RT ((-1000001 : Int32), S0) _ _ _ _ _ hM (Or.inl ⟨rfl, rfl, _, rfl⟩) (X.d (k := 21) rfl) Y
    · replace hM := mE hM c3
      refine r_iload_n (pc' := 18) X hl 2 rfl rfl 8 rfl rfl ?_
      refine r_i2l (pc' := 19) X 9 rfl rfl ?_
      refine r_lconst (pc' := 20) X (0 : Int64) 10 rfl rfl rfl ?_
      refine r_ldc2 (pc' := 23) X mw545 11 rfl rfl ?_
      refine r_callS0 (pc' := 26) (As := [.long (i2).toInt64, .long (0 : Int64), .long (2 : Int64)]) (rest := []) X Y 12 rfl rfl mRX8_66 (c_X8_in l G ((i2).toInt64) (0 : Int64) (2 : Int64)) (mB hM hne) rfl [] rfl rfl rfl (Nat.le_of_ble_eq_true rfl) ⟨rfl, rfl⟩ ⟨Nat.le_of_ble_eq_true rfl, Nat.le_of_ble_eq_true rfl⟩ ⟨Nat.zero_le _, Nat.zero_le _⟩ hl.1 (st' := fun u4 => [.int u4]) (fun _ => rfl) (fun u4 H locs huu4 Y => ?_)
      replace hM := mS hM huu4
      refine r_if_eq (pc' := 29) X 39 13 rfl rfl (by decide) (fun c5 => ?_) (fun c5 => ?_)
      · replace hM := mI hM c5
        refine r_ldc (pc' := 41) X mw546 20 rfl rfl ?_
        exact RT ((-1000001 : Int32), S0) _ _ _ _ _ hM (Or.inl ⟨rfl, rfl, _, rfl⟩) (X.d (k := 21) rfl) Y
      · replace hM := mE hM c5
        refine r_iload_n (pc' := 30) X hl 3 rfl rfl 14 rfl rfl ?_
        refine r_i2l (pc' := 31) X 15 rfl rfl ?_
        refine r_lconst (pc' := 32) X (0 : Int64) 16 rfl rfl rfl ?_
        refine r_lconst (pc' := 33) X (1 : Int64) 17 rfl rfl rfl ?_
        refine r_callS0 (pc' := 36) (As := [.long (i3).toInt64, .long (0 : Int64), .long (1 : Int64)]) (rest := []) X Y 18 rfl rfl mRX8_66 (c_X8_in l G ((i3).toInt64) (0 : Int64) (1 : Int64)) (mB hM hne) rfl [] rfl rfl rfl (Nat.le_of_ble_eq_true rfl) ⟨rfl, rfl⟩ ⟨Nat.le_of_ble_eq_true rfl, Nat.le_of_ble_eq_true rfl⟩ ⟨Nat.zero_le _, Nat.zero_le _⟩ hl.1 (st' := fun u6 => [.int u6]) (fun _ => rfl) (fun u6 H locs huu6 Y => ?_)
        replace hM := mS hM huu6
        refine r_if_ne (pc' := 39) X 42 19 rfl rfl (by decide) (fun c7 => ?_) (fun c7 => ?_)
        · replace hM := mE hM c7
          refine r_aload_n (pc' := 43) X hl 0 rfl rfl 22 rfl rfl ?_
          refine r_callV (pc' := 46) (As := []) (rest := []) X Y 23 rfl rfl mRX8_228 (c_X8_wonNow l G h h_items h_lanes h_sizes h_firms h_kinds h_now h_before h_images h_tape h_trace h_readFirms h_readKinds h_readAt h_rows h_bests S0) (mB hM hne) 0 rfl rfl [0, 1, 2, 3, 4, 5, 6, 7, 8, 9, 10, 11, 12, 13, 14, 15] [] [0, 1, 2, 3, 4, 5, 6, 7, 8, 9, 10, 11, 12, 13, 14, 15] rfl rfl ⟨rfl, rfl, rfl⟩ rfl (w2 := fun u8 => wMS G h h_items h_lanes h_sizes h_firms h_kinds h_now h_before h_images h_tape h_trace h_readFirms h_readKinds h_readAt h_rows h_bests u8.2) (fun _ => rfl) rfl (Nat.le_of_ble_eq_true rfl) ⟨rfl, rfl⟩ ⟨Nat.le_of_ble_eq_true rfl, Nat.le_of_ble_eq_true rfl⟩ ⟨Nat.zero_le _, Nat.zero_le _⟩ hl.1 (st' := fun u8 => [.int u8.1]) (fun _ => rfl) (fun u8 H locs huu8 Y => ?_)
          replace hM := mS hM huu8
          refine r_ldc (pc' := 48) X mw530 24 rfl rfl ?_
          refine r_icmp_eq (pc' := 51) X 54 25 rfl rfl (by decide) (fun c9 => ?_) (fun c9 => ?_)
          · replace hM := mI hM c9
            refine r_aload_n (pc' := 55) X hl 0 rfl rfl 28 rfl rfl ?_
            refine r_get (pc' := 58) (v := .ref h_now) X Y 29 rfl rfl fRX8_25 0 rfl rfl ?_
            refine r_bipush (pc' := 60) X (8 : Int32) 30 rfl rfl rfl ?_
            refine r_iald (pc' := 61) X Y 31 rfl rfl 6 rfl (vin rfl) ?_
            refine r_istore (pc' := 63) (L' := [(4, .int ((ms_now u8.2) ((8 : Int32)).toNatClampNeg)), (0, .ref h), (1, .int i1), (2, .int i2), (3, .int i3)]) X hl 32 rfl rfl (by decide) rfl (fun ls hl => ?_)
            refine r_iload_n (pc' := 64) X hl 3 rfl rfl 33 rfl rfl ?_
            obtain ⟨J10, hJ10, hM⟩ := mJ hM
            have KJ10 : ∀ (v10 : MS × Int32) (H : Heap) (locs : List Loc) (ls : Array Slot), J10 v10 = MM → rY G A s (wMS G h h_items h_lanes h_sizes h_firms h_kinds h_now h_before h_images h_tape h_trace h_readFirms h_readKinds h_readAt h_rows h_bests v10.1) H locs → lv_has ls 6 [(0, .ref h), (3, .int i3)] → W p l e q_X8_best s m args below meth c H locs 0 0 Q (F0 m 101 ls [.int v10.2]) := by
              intro v10 H locs ls hM Y hl
              replace hM := (hJ10 _).symm.trans hM
              refine r_istore (pc' := 103) (L' := [(5, .int v10.2), (0, .ref h), (3, .int i3)]) X hl 54 rfl rfl (by decide) rfl (fun ls hl => ?_)
              refine r_iload_n (pc' := 104) X hl 2 rfl rfl 55 rfl rfl ?_
              refine r_if_ne (pc' := 107) X 116 56 rfl rfl (by decide) (fun c11 => ?_) (fun c11 => ?_)
              · replace hM := mE hM c11
                refine r_iload (pc' := 118) X hl 0 rfl 62 rfl rfl ?_
                exact RT (v10.2, v10.1) _ _ _ _ _ hM (Or.inl ⟨rfl, rfl, _, rfl⟩) (X.d (k := 63) rfl) Y
              · replace hM := mI hM c11
                refine r_aload_n (pc' := 108) X hl 1 rfl rfl 57 rfl rfl ?_
                refine r_get (pc' := 111) (v := .ref h_bests) X Y 58 rfl rfl fRX8_57 0 rfl rfl ?_
                refine r_iconst (pc' := 112) X (0 : Int32) 59 rfl rfl rfl ?_
                refine r_iald (pc' := 113) X Y 60 rfl rfl 15 rfl (vin rfl) ?_
                refine r_goto X 118 61 rfl (by decide) ?_
                exact RT (((ms_bests v10.1) ((0 : Int32)).toNatClampNeg), v10.1) _ _ _ _ _ hM (Or.inl ⟨rfl, rfl, _, rfl⟩) (X.d (k := 63) rfl) Y
            refine r_if_ne (pc' := 67) X 78 34 rfl rfl (by decide) (fun c12 => ?_) (fun c12 => ?_)
            · replace hM := mE hM c12
              refine r_iload_n (pc' := 79) X hl 3 rfl rfl 41 rfl rfl ?_
              refine r_iconst (pc' := 80) X (1 : Int32) 42 rfl rfl rfl ?_
              refine r_icmp_ne (pc' := 83) X 94 43 rfl rfl (by decide) (fun c13 => ?_) (fun c13 => ?_)
              · replace hM := mE hM c13
                refine r_aload_n (pc' := 95) X hl 1 rfl rfl 50 rfl rfl ?_
                refine r_iload (pc' := 97) X hl 0 rfl 51 rfl rfl ?_
                refine r_iload_n (pc' := 98) X hl 2 rfl rfl 52 rfl rfl ?_
                refine r_callV (pc' := 101) (As := [.int ((ms_now u8.2) ((8 : Int32)).toNatClampNeg), .int i1]) (rest := []) X Y 53 rfl rfl mRX8_266 (c_X8_best2 l G h h_items h_lanes h_sizes h_firms h_kinds h_now h_before h_images h_tape h_trace h_readFirms h_readKinds h_readAt h_rows h_bests u8.2 (((ms_now u8.2) ((8 : Int32)).toNatClampNeg)) i1) (mB hM hne) 0 rfl rfl [0, 1, 2, 3, 4, 5, 6, 7, 8, 9, 10, 11, 12, 13, 14, 15] [] [0, 1, 2, 3, 4, 5, 6, 7, 8, 9, 10, 11, 12, 13, 14, 15] rfl rfl ⟨rfl, rfl, rfl⟩ rfl (w2 := fun u14 => wMS G h h_items h_lanes h_sizes h_firms h_kinds h_now h_before h_images h_tape h_trace h_readFirms h_readKinds h_readAt h_rows h_bests u14.2) (fun _ => rfl) rfl (Nat.le_of_ble_eq_true rfl) ⟨rfl, rfl⟩ ⟨Nat.le_of_ble_eq_true rfl, Nat.le_of_ble_eq_true rfl⟩ ⟨Nat.zero_le _, Nat.zero_le _⟩ hl.1 (st' := fun u14 => [.int u14.1]) (fun _ => rfl) (fun u14 H locs huu14 Y => ?_)
                replace hM := mS hM huu14
                exact KJ10 (u14.2, u14.1) _ _ _ hM Y (lv_sub hl [1, 4] rfl)
              · replace hM := mI hM c13
                refine r_aload_n (pc' := 84) X hl 1 rfl rfl 44 rfl rfl ?_
                refine r_iconst (pc' := 85) X (0 : Int32) 45 rfl rfl rfl ?_
                refine r_iload (pc' := 87) X hl 0 rfl 46 rfl rfl ?_
                refine r_iload_n (pc' := 88) X hl 2 rfl rfl 47 rfl rfl ?_
                refine r_callV (pc' := 91) (As := [.int (0 : Int32), .int ((ms_now u8.2) ((8 : Int32)).toNatClampNeg), .int i1]) (rest := []) X Y 48 rfl rfl mRX8_260 (c_X8_best1 l G h h_items h_lanes h_sizes h_firms h_kinds h_now h_before h_images h_tape h_trace h_readFirms h_readKinds h_readAt h_rows h_bests u8.2 (0 : Int32) (((ms_now u8.2) ((8 : Int32)).toNatClampNeg)) i1) (mB hM hne) 0 rfl rfl [0, 1, 2, 3, 4, 5, 6, 7, 8, 9, 10, 11, 12, 13, 14, 15] [] [0, 1, 2, 3, 4, 5, 6, 7, 8, 9, 10, 11, 12, 13, 14, 15] rfl rfl ⟨rfl, rfl, rfl⟩ rfl (w2 := fun u15 => wMS G h h_items h_lanes h_sizes h_firms h_kinds h_now h_before h_images h_tape h_trace h_readFirms h_readKinds h_readAt h_rows h_bests u15.2) (fun _ => rfl) rfl (Nat.le_of_ble_eq_true rfl) ⟨rfl, rfl⟩ ⟨Nat.le_of_ble_eq_true rfl, Nat.le_of_ble_eq_true rfl⟩ ⟨Nat.zero_le _, Nat.zero_le _⟩ hl.1 (st' := fun u15 => [.int u15.1]) (fun _ => rfl) (fun u15 H locs huu15 Y => ?_)
                replace hM := mS hM huu15
                refine r_goto X 101 49 rfl (by decide) ?_
                exact KJ10 (u15.2, u15.1) _ _ _ hM Y (lv_sub hl [1, 4] rfl)
            · replace hM := mI hM c12
              refine r_aload_n (pc' := 68) X hl 1 rfl rfl 35 rfl rfl ?_
              refine r_iconst (pc' := 69) X (0 : Int32) 36 rfl rfl rfl ?_
              refine r_iload (pc' := 71) X hl 0 rfl 37 rfl rfl ?_
              refine r_iload_n (pc' := 72) X hl 2 rfl rfl 38 rfl rfl ?_
              refine r_callV (pc' := 75) (As := [.int (0 : Int32), .int ((ms_now u8.2) ((8 : Int32)).toNatClampNeg), .int i1]) (rest := []) X Y 39 rfl rfl mRX8_254 (c_X8_best0 l G h h_items h_lanes h_sizes h_firms h_kinds h_now h_before h_images h_tape h_trace h_readFirms h_readKinds h_readAt h_rows h_bests u8.2 (0 : Int32) (((ms_now u8.2) ((8 : Int32)).toNatClampNeg)) i1) (mB hM hne) 0 rfl rfl [0, 1, 2, 3, 4, 5, 6, 7, 8, 9, 10, 11, 12, 13, 14, 15] [] [0, 1, 2, 3, 4, 5, 6, 7, 8, 9, 10, 11, 12, 13, 14, 15] rfl rfl ⟨rfl, rfl, rfl⟩ rfl (w2 := fun u16 => wMS G h h_items h_lanes h_sizes h_firms h_kinds h_now h_before h_images h_tape h_trace h_readFirms h_readKinds h_readAt h_rows h_bests u16.2) (fun _ => rfl) rfl (Nat.le_of_ble_eq_true rfl) ⟨rfl, rfl⟩ ⟨Nat.le_of_ble_eq_true rfl, Nat.le_of_ble_eq_true rfl⟩ ⟨Nat.zero_le _, Nat.zero_le _⟩ hl.1 (st' := fun u16 => [.int u16.1]) (fun _ => rfl) (fun u16 H locs huu16 Y => ?_)
              replace hM := mS hM huu16
              refine r_goto X 101 40 rfl (by decide) ?_
              exact KJ10 (u16.2, u16.1) _ _ _ hM Y (lv_sub hl [1, 4] rfl)
          · replace hM := mE hM c9
            refine r_ldc (pc' := 53) X mw688 26 rfl rfl ?_
            exact RT ((-1000002 : Int32), u8.2) _ _ _ _ _ hM (Or.inl ⟨rfl, rfl, _, rfl⟩) (X.d (k := 27) rfl) Y
        · replace hM := mI hM c7
          refine r_ldc (pc' := 41) X mw546 20 rfl rfl ?_
          exact RT ((-1000001 : Int32), S0) _ _ _ _ _ hM (Or.inl ⟨rfl, rfl, _, rfl⟩) (X.d (k := 21) rfl) Y
  · replace hM := mI hM c1
    refine r_ldc (pc' := 9) X mw688 3 rfl rfl ?_
    exact RT ((-1000002 : Int32), S0) _ _ _ _ _ hM (Or.inl ⟨rfl, rfl, _, rfl⟩) (X.d (k := 4) rfl) Y

def M_X8_hasMen (S0 : MS) (i1 : Int32) : Option (Int32) :=
  ((lp (σ := Int32 × Int32) (β := Int32) (fun rec1 st1 => (if (ms_men S0) ≤ st1.2 then (some st1.1) else (if inb st1.2 8 = true then (if ((ms_firms S0) (st1.2).toNatClampNeg) = i1 then (rec1 ((st1.1 + (1 : Int32)), (st1.2 + (1 : Int32)))) else (rec1 ((st1.1 + (0 : Int32)), (st1.2 + (1 : Int32))))) else none))) 1000000 ((0 : Int32), (0 : Int32))).bind (fun b1 => (if b1 ≤ 0 then (some (0 : Int32)) else (some (1 : Int32)))))
def q_X8_hasMen : Room := { frames := 1, cells := 0, slots := 0, locals := 60 }
set_option maxHeartbeats 4000000 in
set_option maxRecDepth 100000 in
theorem c_X8_hasMen (l : Launch) (G : gT) (h h_items h_lanes h_sizes h_firms h_kinds h_now h_before h_images h_tape h_trace h_readFirms h_readKinds h_readAt h_rows h_bests : Nat) (S0 : MS) (i1 : Int32) : CT l G yX8_hasMen cX8_hasMen 4 (some .boolean) q_X8_hasMen [.ref h, .int i1] (wMS G h h_items h_lanes h_sizes h_firms h_kinds h_now h_before h_images h_tape h_trace h_readFirms h_readKinds h_readAt h_rows h_bests S0) (M_X8_hasMen S0 i1) (fun u => some (.int u)) (fun u => wMS G h h_items h_lanes h_sizes h_firms h_kinds h_now h_before h_images h_tape h_trace h_readFirms h_readKinds h_readAt h_rows h_bests S0) := by
  refine CT.of (P := PX8_hasMen) (by decide) dPX8_hasMen (Nat.le_of_ble_eq_true rfl) ?_
  intro p e s m args below meth c A Q ls hne X RT Y hl
  have hl : lv_has ls 4 [(0, .ref h), (1, .int i1)] := hl
  generalize hM : M_X8_hasMen S0 i1 = MM at hne RT
  unfold M_X8_hasMen at hM
  refine r_iconst (pc' := 1) X (0 : Int32) 0 rfl rfl rfl ?_
  refine r_istore_n (pc' := 2) (L' := [(2, .int (0 : Int32)), (0, .ref h), (1, .int i1)]) X hl rfl 1 rfl rfl (by decide) rfl (fun ls hl => ?_)
  refine r_iconst (pc' := 3) X (0 : Int32) 2 rfl rfl rfl ?_
  refine r_istore_n (pc' := 4) (L' := [(3, .int (0 : Int32)), (2, .int (0 : Int32)), (0, .ref h), (1, .int i1)]) X hl rfl 3 rfl rfl (by decide) rfl (fun ls hl => ?_)
  obtain ⟨LL1, hL1, hne1, hX1⟩ := mL hM hne
  have KX1 : ∀ (b1 : Int32) (H : Heap) (locs : List Loc) (ls : Array Slot), some b1 = LL1 → rY G A s (wMS G h h_items h_lanes h_sizes h_firms h_kinds h_now h_before h_images h_tape h_trace h_readFirms h_readKinds h_readAt h_rows h_bests S0) H locs → lv_has ls 4 [(2, .int b1)] → W p l e q_X8_hasMen s m args below meth c H locs 0 0 Q (F0 m 36 ls []) := by
    intro b1 H locs ls hM Y hl
    replace hM := hX1 _ hM
    refine r_iload_n (pc' := 37) X hl 0 rfl rfl 22 rfl rfl ?_
    refine r_if_le (pc' := 40) X 44 23 rfl rfl (by decide) (fun c2 => ?_) (fun c2 => ?_)
    · replace hM := mI hM c2
      refine r_iconst (pc' := 45) X (0 : Int32) 26 rfl rfl rfl ?_
      exact RT (0 : Int32) _ _ _ _ _ hM (Or.inr (Or.inl ⟨rfl, rfl, _, rfl, nb (Or.inl rfl)⟩)) (X.d (k := 27) rfl) Y
    · replace hM := mE hM c2
      refine r_iconst (pc' := 41) X (1 : Int32) 24 rfl rfl rfl ?_
      refine r_goto X 45 25 rfl (by decide) ?_
      exact RT (1 : Int32) _ _ _ _ _ hM (Or.inr (Or.inl ⟨rfl, rfl, _, rfl, nb (Or.inr rfl)⟩)) (X.d (k := 27) rfl) Y
  refine lp_rule (I := fun (st1 : Int32 × Int32) => ∀ (H : Heap) (locs : List Loc) (ls : Array Slot), rY G A s (wMS G h h_items h_lanes h_sizes h_firms h_kinds h_now h_before h_images h_tape h_trace h_readFirms h_readKinds h_readAt h_rows h_bests S0) H locs → lv_has ls 4 [(0, .ref h), (1, .int i1), (2, .int st1.1), (3, .int st1.2)] → W p l e q_X8_hasMen s m args below meth c H locs 0 0 Q (F0 m 4 ls [])) hne1 (fun rec1 st1 IH1 hM => ?_) _ _ hL1 _ _ _ Y (lv_sub hl [2, 3, 1, 0] rfl)
  intro H locs ls Y hl
  refine r_iload_n (pc' := 5) X hl 3 rfl rfl 4 rfl rfl ?_
  refine r_aload_n (pc' := 6) X hl 0 rfl rfl 5 rfl rfl ?_
  refine r_get (pc' := 9) (v := .int (ms_men S0)) X Y 6 rfl rfl fRX8_159 0 rfl rfl ?_
  refine r_icmp_ge (pc' := 12) X 36 7 rfl rfl (by decide) (fun c3 => ?_) (fun c3 => ?_)
  · replace hM := mI hM c3
    exact KX1 _ _ _ _ hM Y (lv_sub hl [2] rfl)
  · replace hM := mE hM c3
    refine r_iload_n (pc' := 13) X hl 2 rfl rfl 8 rfl rfl ?_
    refine r_aload_n (pc' := 14) X hl 0 rfl rfl 9 rfl rfl ?_
    refine r_get (pc' := 17) (v := .ref h_firms) X Y 10 rfl rfl fRX8_19 0 rfl rfl ?_
    refine r_iload_n (pc' := 18) X hl 3 rfl rfl 11 rfl rfl ?_
    obtain ⟨g4, hM⟩ := mG hM hne1
    refine r_iald (pc' := 19) X Y 12 rfl rfl 4 rfl (vin g4) ?_
    refine r_iload_n (pc' := 20) X hl 1 rfl rfl 13 rfl rfl ?_
    refine r_icmp_ne (pc' := 23) X 27 14 rfl rfl (by decide) (fun c5 => ?_) (fun c5 => ?_)
    · replace hM := mE hM c5
      refine r_iconst (pc' := 28) X (0 : Int32) 17 rfl rfl rfl ?_
      refine r_iadd (pc' := 29) X 18 rfl rfl ?_
      refine r_istore_n (pc' := 30) (L' := [(2, .int (st1.1 + (0 : Int32))), (0, .ref h), (1, .int i1), (3, .int st1.2)]) X hl rfl 19 rfl rfl (by decide) rfl (fun ls hl => ?_)
      refine r_iinc (pc' := 33) (L' := [(3, .int (st1.2 + (1 : Int32))), (2, .int (st1.1 + (0 : Int32))), (0, .ref h), (1, .int i1)]) X (st1.2 + (1 : Int32)) hl 3 rfl rfl 20 rfl rfl (by decide) rfl (fun ls hl => ?_)
      refine r_goto X 4 21 rfl (by decide) ?_
      exact IH1 _ hM _ _ _ Y (lv_sub hl [2, 3, 1, 0] rfl)
    · replace hM := mI hM c5
      refine r_iconst (pc' := 24) X (1 : Int32) 15 rfl rfl rfl ?_
      refine r_goto X 28 16 rfl (by decide) ?_
      refine r_iadd (pc' := 29) X 18 rfl rfl ?_
      refine r_istore_n (pc' := 30) (L' := [(2, .int (st1.1 + (1 : Int32))), (0, .ref h), (1, .int i1), (3, .int st1.2)]) X hl rfl 19 rfl rfl (by decide) rfl (fun ls hl => ?_)
      refine r_iinc (pc' := 33) (L' := [(3, .int (st1.2 + (1 : Int32))), (2, .int (st1.1 + (1 : Int32))), (0, .ref h), (1, .int i1)]) X (st1.2 + (1 : Int32)) hl 3 rfl rfl 20 rfl rfl (by decide) rfl (fun ls hl => ?_)
      refine r_goto X 4 21 rfl (by decide) ?_
      exact IH1 _ hM _ _ _ Y (lv_sub hl [2, 3, 1, 0] rfl)

def M_X8_alone (S0 : MS) (i1 : Int32) : Option (MS) :=
  ((M_X8_aside S0 (0 : Int32)).bind (fun u1 => (lp (σ := Int32 × (Nat → Int32)) (β := MS) (fun rec2 st2 => (if (ms_men u1) ≤ st2.1 then (some ((ms_status u1), (ms_points u1), (ms_home u1), (ms_men u1), (ms_hasTable u1), (ms_acts u1), (ms_imaged u1), (ms_length u1), (ms_fault u1), (ms_traced u1), (ms_spot u1), (ms_begins u1), (ms_token u1), (ms_number u1), (ms_readPoints u1), (ms_readHome u1), (ms_readMen u1), (ms_otherOne u1), (ms_otherKind u1), (ms_items u1), (ms_lanes u1), (ms_sizes u1), (ms_firms u1), (ms_kinds u1), (ms_now u1), (ms_before u1), (ms_images u1), (ms_tape u1), (ms_trace u1), (ms_readFirms u1), (ms_readKinds u1), (ms_readAt u1), st2.2, (ms_bests u1))) else (if inb st2.1 8 = true then (if ((ms_firms u1) (st2.1).toNatClampNeg) = i1 then (if inb st2.1 48 = true then (rec2 ((st2.1 + (1 : Int32)), (upd st2.2 (st2.1).toNatClampNeg (st2.2 (st2.1).toNatClampNeg)))) else none) else (if inb st2.1 48 = true then (rec2 ((st2.1 + (1 : Int32)), (upd st2.2 (st2.1).toNatClampNeg (99 : Int32)))) else none)) else none))) 1000000 ((0 : Int32), (ms_rows u1)))))
def q_X8_alone : Room := { frames := 2, cells := 0, slots := 0, locals := 82 }
set_option maxHeartbeats 4000000 in
set_option maxRecDepth 100000 in
theorem c_X8_alone (l : Launch) (G : gT) (h h_items h_lanes h_sizes h_firms h_kinds h_now h_before h_images h_tape h_trace h_readFirms h_readKinds h_readAt h_rows h_bests : Nat) (S0 : MS) (i1 : Int32) : CT l G yX8_alone cX8_alone 3 none q_X8_alone [.ref h, .int i1] (wMS G h h_items h_lanes h_sizes h_firms h_kinds h_now h_before h_images h_tape h_trace h_readFirms h_readKinds h_readAt h_rows h_bests S0) (M_X8_alone S0 i1) (fun u => none) (fun u => wMS G h h_items h_lanes h_sizes h_firms h_kinds h_now h_before h_images h_tape h_trace h_readFirms h_readKinds h_readAt h_rows h_bests u) := by
  refine CT.of (P := PX8_alone) (by decide) dPX8_alone (Nat.le_of_ble_eq_true rfl) ?_
  intro p e s m args below meth c A Q ls hne X RT Y hl
  have hl : lv_has ls 3 [(0, .ref h), (1, .int i1)] := hl
  generalize hM : M_X8_alone S0 i1 = MM at hne RT
  unfold M_X8_alone at hM
  refine r_aload_n (pc' := 1) X hl 0 rfl rfl 0 rfl rfl ?_
  refine r_iconst (pc' := 2) X (0 : Int32) 1 rfl rfl rfl ?_
  refine r_callV (pc' := 5) (As := [.int (0 : Int32)]) (rest := []) X Y 2 rfl rfl mRX8_202 (c_X8_aside l G h h_items h_lanes h_sizes h_firms h_kinds h_now h_before h_images h_tape h_trace h_readFirms h_readKinds h_readAt h_rows h_bests S0 (0 : Int32)) (mB hM hne) 0 rfl rfl [0, 1, 2, 3, 4, 5, 6, 7, 8, 9, 10, 11, 12, 13, 14, 15] [] [0, 1, 2, 3, 4, 5, 6, 7, 8, 9, 10, 11, 12, 13, 14, 15] rfl rfl ⟨rfl, rfl, rfl⟩ rfl (w2 := fun u1 => wMS G h h_items h_lanes h_sizes h_firms h_kinds h_now h_before h_images h_tape h_trace h_readFirms h_readKinds h_readAt h_rows h_bests u1) (fun _ => rfl) rfl (Nat.le_of_ble_eq_true rfl) ⟨rfl, rfl⟩ ⟨Nat.le_of_ble_eq_true rfl, Nat.le_of_ble_eq_true rfl⟩ ⟨Nat.zero_le _, Nat.zero_le _⟩ hl.1 (st' := fun u1 => []) (fun _ => rfl) (fun u1 H locs huu1 Y => ?_)
  replace hM := mS hM huu1
  refine r_iconst (pc' := 6) X (0 : Int32) 3 rfl rfl rfl ?_
  refine r_istore_n (pc' := 7) (L' := [(2, .int (0 : Int32)), (0, .ref h), (1, .int i1)]) X hl rfl 4 rfl rfl (by decide) rfl (fun ls hl => ?_)
  refine lp_rule (I := fun (st2 : Int32 × (Nat → Int32)) => ∀ (H : Heap) (locs : List Loc) (ls : Array Slot), rY G A s (wMS G h h_items h_lanes h_sizes h_firms h_kinds h_now h_before h_images h_tape h_trace h_readFirms h_readKinds h_readAt h_rows h_bests ((ms_status u1), (ms_points u1), (ms_home u1), (ms_men u1), (ms_hasTable u1), (ms_acts u1), (ms_imaged u1), (ms_length u1), (ms_fault u1), (ms_traced u1), (ms_spot u1), (ms_begins u1), (ms_token u1), (ms_number u1), (ms_readPoints u1), (ms_readHome u1), (ms_readMen u1), (ms_otherOne u1), (ms_otherKind u1), (ms_items u1), (ms_lanes u1), (ms_sizes u1), (ms_firms u1), (ms_kinds u1), (ms_now u1), (ms_before u1), (ms_images u1), (ms_tape u1), (ms_trace u1), (ms_readFirms u1), (ms_readKinds u1), (ms_readAt u1), st2.2, (ms_bests u1))) H locs → lv_has ls 3 [(0, .ref h), (1, .int i1), (2, .int st2.1)] → W p l e q_X8_alone s m args below meth c H locs 0 0 Q (F0 m 7 ls [])) hne (fun rec2 st2 IH2 hM => ?_) _ _ hM _ _ _ Y (lv_sub hl [1, 2, 0] rfl)
  intro H locs ls Y hl
  refine r_iload_n (pc' := 8) X hl 2 rfl rfl 5 rfl rfl ?_
  refine r_aload_n (pc' := 9) X hl 0 rfl rfl 6 rfl rfl ?_
  refine r_get (pc' := 12) (v := .int (ms_men u1)) X Y 7 rfl rfl fRX8_159 0 rfl rfl ?_
  refine r_icmp_ge (pc' := 15) X 48 8 rfl rfl (by decide) (fun c3 => ?_) (fun c3 => ?_)
  · replace hM := mI hM c3
    exact RT ((ms_status u1), (ms_points u1), (ms_home u1), (ms_men u1), (ms_hasTable u1), (ms_acts u1), (ms_imaged u1), (ms_length u1), (ms_fault u1), (ms_traced u1), (ms_spot u1), (ms_begins u1), (ms_token u1), (ms_number u1), (ms_readPoints u1), (ms_readHome u1), (ms_readMen u1), (ms_otherOne u1), (ms_otherKind u1), (ms_items u1), (ms_lanes u1), (ms_sizes u1), (ms_firms u1), (ms_kinds u1), (ms_now u1), (ms_before u1), (ms_images u1), (ms_tape u1), (ms_trace u1), (ms_readFirms u1), (ms_readKinds u1), (ms_readAt u1), st2.2, (ms_bests u1)) _ _ _ _ _ hM (Or.inr (Or.inr (Or.inr (Or.inl ⟨rfl, rfl, rfl⟩)))) (X.d (k := 27) rfl) Y
  · replace hM := mE hM c3
    refine r_aload_n (pc' := 16) X hl 0 rfl rfl 9 rfl rfl ?_
    refine r_get (pc' := 19) (v := .ref h_rows) X Y 10 rfl rfl fRX8_49 0 rfl rfl ?_
    refine r_iload_n (pc' := 20) X hl 2 rfl rfl 11 rfl rfl ?_
    refine r_aload_n (pc' := 21) X hl 0 rfl rfl 12 rfl rfl ?_
    refine r_get (pc' := 24) (v := .ref h_firms) X Y 13 rfl rfl fRX8_19 0 rfl rfl ?_
    refine r_iload_n (pc' := 25) X hl 2 rfl rfl 14 rfl rfl ?_
    obtain ⟨g4, hM⟩ := mG hM hne
    refine r_iald (pc' := 26) X Y 15 rfl rfl 4 rfl (vin g4) ?_
    refine r_iload_n (pc' := 27) X hl 1 rfl rfl 16 rfl rfl ?_
    refine r_icmp_ne (pc' := 30) X 39 17 rfl rfl (by decide) (fun c5 => ?_) (fun c5 => ?_)
    · replace hM := mE hM c5
      refine r_bipush (pc' := 41) X (99 : Int32) 23 rfl rfl rfl ?_
      obtain ⟨g6, hM⟩ := mG hM hne
      refine r_iast (pc' := 42) (ws' := wMS G h h_items h_lanes h_sizes h_firms h_kinds h_now h_before h_images h_tape h_trace h_readFirms h_readKinds h_readAt h_rows h_bests ((ms_status u1), (ms_points u1), (ms_home u1), (ms_men u1), (ms_hasTable u1), (ms_acts u1), (ms_imaged u1), (ms_length u1), (ms_fault u1), (ms_traced u1), (ms_spot u1), (ms_begins u1), (ms_token u1), (ms_number u1), (ms_readPoints u1), (ms_readHome u1), (ms_readMen u1), (ms_otherOne u1), (ms_otherKind u1), (ms_items u1), (ms_lanes u1), (ms_sizes u1), (ms_firms u1), (ms_kinds u1), (ms_now u1), (ms_before u1), (ms_images u1), (ms_tape u1), (ms_trace u1), (ms_readFirms u1), (ms_readKinds u1), (ms_readAt u1), (upd st2.2 (st2.1).toNatClampNeg (99 : Int32)), (ms_bests u1))) X Y 24 rfl rfl 14 rfl (vin g6) rfl (fun H locs Y => ?_)
      refine r_iinc (pc' := 45) (L' := [(2, .int (st2.1 + (1 : Int32))), (0, .ref h), (1, .int i1)]) X (st2.1 + (1 : Int32)) hl 2 rfl rfl 25 rfl rfl (by decide) rfl (fun ls hl => ?_)
      refine r_goto X 7 26 rfl (by decide) ?_
      exact IH2 _ hM _ _ _ Y (lv_sub hl [1, 2, 0] rfl)
    · replace hM := mI hM c5
      refine r_aload_n (pc' := 31) X hl 0 rfl rfl 18 rfl rfl ?_
      refine r_get (pc' := 34) (v := .ref h_rows) X Y 19 rfl rfl fRX8_49 0 rfl rfl ?_
      refine r_iload_n (pc' := 35) X hl 2 rfl rfl 20 rfl rfl ?_
      obtain ⟨g7, hM⟩ := mG hM hne
      refine r_iald (pc' := 36) X Y 21 rfl rfl 14 rfl (vin g7) ?_
      refine r_goto X 41 22 rfl (by decide) ?_
      refine r_iast (pc' := 42) (ws' := wMS G h h_items h_lanes h_sizes h_firms h_kinds h_now h_before h_images h_tape h_trace h_readFirms h_readKinds h_readAt h_rows h_bests ((ms_status u1), (ms_points u1), (ms_home u1), (ms_men u1), (ms_hasTable u1), (ms_acts u1), (ms_imaged u1), (ms_length u1), (ms_fault u1), (ms_traced u1), (ms_spot u1), (ms_begins u1), (ms_token u1), (ms_number u1), (ms_readPoints u1), (ms_readHome u1), (ms_readMen u1), (ms_otherOne u1), (ms_otherKind u1), (ms_items u1), (ms_lanes u1), (ms_sizes u1), (ms_firms u1), (ms_kinds u1), (ms_now u1), (ms_before u1), (ms_images u1), (ms_tape u1), (ms_trace u1), (ms_readFirms u1), (ms_readKinds u1), (ms_readAt u1), (upd st2.2 (st2.1).toNatClampNeg (st2.2 (st2.1).toNatClampNeg)), (ms_bests u1))) X Y 24 rfl rfl 14 rfl (vin g7) rfl (fun H locs Y => ?_)
      refine r_iinc (pc' := 45) (L' := [(2, .int (st2.1 + (1 : Int32))), (0, .ref h), (1, .int i1)]) X (st2.1 + (1 : Int32)) hl 2 rfl rfl 25 rfl rfl (by decide) rfl (fun ls hl => ?_)
      refine r_goto X 7 26 rfl (by decide) ?_
      exact IH2 _ hM _ _ _ Y (lv_sub hl [1, 2, 0] rfl)

def M_X8_isDone (S0 : MS) (i1 : Int32) (i2 : Int32) : Option (Int32) :=
  ((M_X8_pipsOfAll S0 i1 i2).bind (fun u1 => (if u1 = 0 then (some (1 : Int32)) else (some (0 : Int32)))))
def q_X8_isDone : Room := { frames := 4, cells := 0, slots := 0, locals := 128 }
set_option maxHeartbeats 4000000 in
set_option maxRecDepth 100000 in
theorem c_X8_isDone (l : Launch) (G : gT) (h h_items h_lanes h_sizes h_firms h_kinds h_now h_before h_images h_tape h_trace h_readFirms h_readKinds h_readAt h_rows h_bests : Nat) (S0 : MS) (i1 : Int32) (i2 : Int32) : CT l G yX8_isDone cX8_isDone 3 (some .boolean) q_X8_isDone [.ref h, .int i1, .int i2] (wMS G h h_items h_lanes h_sizes h_firms h_kinds h_now h_before h_images h_tape h_trace h_readFirms h_readKinds h_readAt h_rows h_bests S0) (M_X8_isDone S0 i1 i2) (fun u => some (.int u)) (fun u => wMS G h h_items h_lanes h_sizes h_firms h_kinds h_now h_before h_images h_tape h_trace h_readFirms h_readKinds h_readAt h_rows h_bests S0) := by
  refine CT.of (P := PX8_isDone) (by decide) dPX8_isDone (Nat.le_of_ble_eq_true rfl) ?_
  intro p e s m args below meth c A Q ls hne X RT Y hl
  have hl : lv_has ls 3 [(0, .ref h), (1, .int i1), (2, .int i2)] := hl
  generalize hM : M_X8_isDone S0 i1 i2 = MM at hne RT
  unfold M_X8_isDone at hM
  refine r_aload_n (pc' := 1) X hl 0 rfl rfl 0 rfl rfl ?_
  refine r_iload_n (pc' := 2) X hl 1 rfl rfl 1 rfl rfl ?_
  refine r_iload_n (pc' := 3) X hl 2 rfl rfl 2 rfl rfl ?_
  refine r_callV0 (pc' := 6) (As := [.int i1, .int i2]) (rest := []) X Y 3 rfl rfl mRX8_219 (c_X8_pipsOfAll l G h h_items h_lanes h_sizes h_firms h_kinds h_now h_before h_images h_tape h_trace h_readFirms h_readKinds h_readAt h_rows h_bests S0 i1 i2) (mB hM hne) 0 rfl rfl [0, 1, 2, 3, 4, 5, 6, 7, 8, 9, 10, 11, 12, 13, 14, 15] rfl rfl rfl (Nat.le_of_ble_eq_true rfl) ⟨rfl, rfl⟩ ⟨Nat.le_of_ble_eq_true rfl, Nat.le_of_ble_eq_true rfl⟩ ⟨Nat.zero_le _, Nat.zero_le _⟩ hl.1 (st' := fun u1 => [.int u1]) (fun _ => rfl) (fun u1 H locs huu1 Y => ?_)
  replace hM := mS hM huu1
  refine r_if_ne (pc' := 9) X 13 4 rfl rfl (by decide) (fun c2 => ?_) (fun c2 => ?_)
  · replace hM := mE hM c2
    refine r_iconst (pc' := 14) X (0 : Int32) 7 rfl rfl rfl ?_
    exact RT (0 : Int32) _ _ _ _ _ hM (Or.inr (Or.inl ⟨rfl, rfl, _, rfl, nb (Or.inl rfl)⟩)) (X.d (k := 8) rfl) Y
  · replace hM := mI hM c2
    refine r_iconst (pc' := 10) X (1 : Int32) 5 rfl rfl rfl ?_
    refine r_goto X 14 6 rfl (by decide) ?_
    exact RT (1 : Int32) _ _ _ _ _ hM (Or.inr (Or.inl ⟨rfl, rfl, _, rfl, nb (Or.inr rfl)⟩)) (X.d (k := 8) rfl) Y

def M_X8_goAlone (S0 : MS) (i1 : Int32) (i2 : Int32) (i3 : Int32) : Option (MS) :=
  ((M_X8_ruled S0 i1 i2 i3).bind (fun u1 => (if u1 = (-1000000 : Int32) then (some S0) else ((M_X8_goMan S0 i1 u1 i3).bind (fun u3 => (some u3))))))
def q_X8_goAlone : Room := { frames := 6, cells := 0, slots := 0, locals := 183 }
set_option maxHeartbeats 4000000 in
set_option maxRecDepth 100000 in
theorem c_X8_goAlone (l : Launch) (G : gT) (h h_items h_lanes h_sizes h_firms h_kinds h_now h_before h_images h_tape h_trace h_readFirms h_readKinds h_readAt h_rows h_bests : Nat) (S0 : MS) (i1 : Int32) (i2 : Int32) (i3 : Int32) : CT l G yX8_goAlone cX8_goAlone 5 none q_X8_goAlone [.ref h, .int i1, .int i2, .int i3] (wMS G h h_items h_lanes h_sizes h_firms h_kinds h_now h_before h_images h_tape h_trace h_readFirms h_readKinds h_readAt h_rows h_bests S0) (M_X8_goAlone S0 i1 i2 i3) (fun u => none) (fun u => wMS G h h_items h_lanes h_sizes h_firms h_kinds h_now h_before h_images h_tape h_trace h_readFirms h_readKinds h_readAt h_rows h_bests u) := by
  refine CT.of (P := PX8_goAlone) (by decide) dPX8_goAlone (Nat.le_of_ble_eq_true rfl) ?_
  intro p e s m args below meth c A Q ls hne X RT Y hl
  have hl : lv_has ls 5 [(0, .ref h), (1, .int i1), (2, .int i2), (3, .int i3)] := hl
  generalize hM : M_X8_goAlone S0 i1 i2 i3 = MM at hne RT
  unfold M_X8_goAlone at hM
  refine r_aload_n (pc' := 1) X hl 0 rfl rfl 0 rfl rfl ?_
  refine r_iload_n (pc' := 2) X hl 1 rfl rfl 1 rfl rfl ?_
  refine r_iload_n (pc' := 3) X hl 2 rfl rfl 2 rfl rfl ?_
  refine r_iload_n (pc' := 4) X hl 3 rfl rfl 3 rfl rfl ?_
  refine r_callV0 (pc' := 7) (As := [.int i1, .int i2, .int i3]) (rest := []) X Y 4 rfl rfl mRX8_209 (c_X8_ruled l G h h_items h_lanes h_sizes h_firms h_kinds h_now h_before h_images h_tape h_trace h_readFirms h_readKinds h_readAt h_rows h_bests S0 i1 i2 i3) (mB hM hne) 0 rfl rfl [0, 1, 2, 3, 4, 5, 6, 7, 8, 9, 10, 11, 12, 13, 14, 15] rfl rfl rfl (Nat.le_of_ble_eq_true rfl) ⟨rfl, rfl⟩ ⟨Nat.le_of_ble_eq_true rfl, Nat.le_of_ble_eq_true rfl⟩ ⟨Nat.zero_le _, Nat.zero_le _⟩ hl.1 (st' := fun u1 => [.int u1]) (fun _ => rfl) (fun u1 H locs huu1 Y => ?_)
  replace hM := mS hM huu1
  refine r_istore (pc' := 9) (L' := [(4, .int u1), (0, .ref h), (1, .int i1), (2, .int i2), (3, .int i3)]) X hl 5 rfl rfl (by decide) rfl (fun ls hl => ?_)
  refine r_iload (pc' := 11) X hl 0 rfl 6 rfl rfl ?_
  refine r_ldc (pc' := 13) X mw530 7 rfl rfl ?_
  refine r_icmp_eq (pc' := 16) X 24 8 rfl rfl (by decide) (fun c2 => ?_) (fun c2 => ?_)
  · replace hM := mI hM c2
    exact RT S0 _ _ _ _ _ hM (Or.inr (Or.inr (Or.inr (Or.inl ⟨rfl, rfl, rfl⟩)))) (X.d (k := 14) rfl) Y
  · replace hM := mE hM c2
    refine r_aload_n (pc' := 17) X hl 1 rfl rfl 9 rfl rfl ?_
    refine r_iload_n (pc' := 18) X hl 2 rfl rfl 10 rfl rfl ?_
    refine r_iload (pc' := 20) X hl 0 rfl 11 rfl rfl ?_
    refine r_iload_n (pc' := 21) X hl 4 rfl rfl 12 rfl rfl ?_
    refine r_callV (pc' := 24) (As := [.int i1, .int u1, .int i3]) (rest := []) X Y 13 rfl rfl mRX8_212 (c_X8_goMan l G h h_items h_lanes h_sizes h_firms h_kinds h_now h_before h_images h_tape h_trace h_readFirms h_readKinds h_readAt h_rows h_bests S0 i1 u1 i3) (mB hM hne) 0 rfl rfl [0, 1, 2, 3, 4, 5, 6, 7, 8, 9, 10, 11, 12, 13, 14, 15] [] [0, 1, 2, 3, 4, 5, 6, 7, 8, 9, 10, 11, 12, 13, 14, 15] rfl rfl ⟨rfl, rfl, rfl⟩ rfl (w2 := fun u3 => wMS G h h_items h_lanes h_sizes h_firms h_kinds h_now h_before h_images h_tape h_trace h_readFirms h_readKinds h_readAt h_rows h_bests u3) (fun _ => rfl) rfl (Nat.le_of_ble_eq_true rfl) ⟨rfl, rfl⟩ ⟨Nat.le_of_ble_eq_true rfl, Nat.le_of_ble_eq_true rfl⟩ ⟨Nat.zero_le _, Nat.zero_le _⟩ hl.1 (st' := fun u3 => []) (fun _ => rfl) (fun u3 H locs huu3 Y => ?_)
    replace hM := mS hM huu3
    exact RT u3 _ _ _ _ _ hM (Or.inr (Or.inr (Or.inr (Or.inl ⟨rfl, rfl, rfl⟩)))) (X.d (k := 14) rfl) Y

def M_X8_race (S0 : MS) (i1 : Int32) : Option (Int32 × MS) :=
  (if (ms_hasTable S0) = 0 then (some ((-1000002 : Int32), S0)) else ((M_X8_isFirm i1).bind (fun u2 => (if u2 = 0 then (some ((-1000001 : Int32), S0)) else ((M_X8_hasMen S0 i1).bind (fun u4 => (if u4 = 0 then (some ((-1000002 : Int32), S0)) else ((M_X8_alone S0 i1).bind (fun u6 => (lp (σ := Int32 × MS) (β := Int32 × MS) (fun rec7 st7 => (if (61 : Int32) ≤ st7.1 then (some ((-1000000 : Int32), st7.2)) else ((M_X8_isDone st7.2 (0 : Int32) i1).bind (fun u9 => (if u9 = 0 then ((M_X8_goAlone st7.2 (0 : Int32) i1 (6 : Int32)).bind (fun u11 => (rec7 ((st7.1 + (1 : Int32)), u11)))) else (some (st7.1, st7.2))))))) 1000000 ((0 : Int32), u6)))))))))))
def q_X8_race : Room := { frames := 7, cells := 0, slots := 0, locals := 207 }
set_option maxHeartbeats 4000000 in
set_option maxRecDepth 100000 in
theorem c_X8_race (l : Launch) (G : gT) (h h_items h_lanes h_sizes h_firms h_kinds h_now h_before h_images h_tape h_trace h_readFirms h_readKinds h_readAt h_rows h_bests : Nat) (S0 : MS) (i1 : Int32) : CT l G yX8_race cX8_race 3 (some .int) q_X8_race [.ref h, .int i1] (wMS G h h_items h_lanes h_sizes h_firms h_kinds h_now h_before h_images h_tape h_trace h_readFirms h_readKinds h_readAt h_rows h_bests S0) (M_X8_race S0 i1) (fun u => some (.int u.1)) (fun u => wMS G h h_items h_lanes h_sizes h_firms h_kinds h_now h_before h_images h_tape h_trace h_readFirms h_readKinds h_readAt h_rows h_bests u.2) := by
  refine CT.of (P := PX8_race) (by decide) dPX8_race (Nat.le_of_ble_eq_true rfl) ?_
  intro p e s m args below meth c A Q ls hne X RT Y hl
  have hl : lv_has ls 3 [(0, .ref h), (1, .int i1)] := hl
  generalize hM : M_X8_race S0 i1 = MM at hne RT
  unfold M_X8_race at hM
  refine r_aload_n (pc' := 1) X hl 0 rfl rfl 0 rfl rfl ?_
  refine r_get (pc' := 4) (v := .int (ms_hasTable S0)) X Y 1 rfl rfl fRX8_162 0 rfl rfl ?_
  refine r_if_ne (pc' := 7) X 10 2 rfl rfl (by decide) (fun c1 => ?_) (fun c1 => ?_)
  · replace hM := mE hM c1
    refine r_iload_n (pc' := 11) X hl 1 rfl rfl 5 rfl rfl ?_
    refine r_callS0 (pc' := 14) (As := [.int i1]) (rest := []) X Y 6 rfl rfl mRX8_245 (c_X8_isFirm l G i1) (mB hM hne) rfl [] rfl rfl rfl (Nat.le_of_ble_eq_true rfl) ⟨rfl, rfl⟩ ⟨Nat.le_of_ble_eq_true rfl, Nat.le_of_ble_eq_true rfl⟩ ⟨Nat.zero_le _, Nat.zero_le _⟩ hl.1 (st' := fun u2 => [.int u2]) (fun _ => rfl) (fun u2 H locs huu2 Y => ?_)
    replace hM := mS hM huu2
    refine r_if_ne (pc' := 17) X 20 7 rfl rfl (by decide) (fun c3 => ?_) (fun c3 => ?_)
    · replace hM := mE hM c3
      refine r_aload_n (pc' := 21) X hl 0 rfl rfl 10 rfl rfl ?_
      refine r_iload_n (pc' := 22) X hl 1 rfl rfl 11 rfl rfl ?_
      refine r_callV0 (pc' := 25) (As := [.int i1]) (rest := []) X Y 12 rfl rfl mRX8_269 (c_X8_hasMen l G h h_items h_lanes h_sizes h_firms h_kinds h_now h_before h_images h_tape h_trace h_readFirms h_readKinds h_readAt h_rows h_bests S0 i1) (mB hM hne) 0 rfl rfl [0, 1, 2, 3, 4, 5, 6, 7, 8, 9, 10, 11, 12, 13, 14, 15] rfl rfl rfl (Nat.le_of_ble_eq_true rfl) ⟨rfl, rfl⟩ ⟨Nat.le_of_ble_eq_true rfl, Nat.le_of_ble_eq_true rfl⟩ ⟨Nat.zero_le _, Nat.zero_le _⟩ hl.1 (st' := fun u4 => [.int u4]) (fun _ => rfl) (fun u4 H locs huu4 Y => ?_)
      replace hM := mS hM huu4
      refine r_if_ne (pc' := 28) X 31 13 rfl rfl (by decide) (fun c5 => ?_) (fun c5 => ?_)
      · replace hM := mE hM c5
        refine r_aload_n (pc' := 32) X hl 0 rfl rfl 16 rfl rfl ?_
        refine r_iload_n (pc' := 33) X hl 1 rfl rfl 17 rfl rfl ?_
        refine r_callV (pc' := 36) (As := [.int i1]) (rest := []) X Y 18 rfl rfl mRX8_272 (c_X8_alone l G h h_items h_lanes h_sizes h_firms h_kinds h_now h_before h_images h_tape h_trace h_readFirms h_readKinds h_readAt h_rows h_bests S0 i1) (mB hM hne) 0 rfl rfl [0, 1, 2, 3, 4, 5, 6, 7, 8, 9, 10, 11, 12, 13, 14, 15] [] [0, 1, 2, 3, 4, 5, 6, 7, 8, 9, 10, 11, 12, 13, 14, 15] rfl rfl ⟨rfl, rfl, rfl⟩ rfl (w2 := fun u6 => wMS G h h_items h_lanes h_sizes h_firms h_kinds h_now h_before h_images h_tape h_trace h_readFirms h_readKinds h_readAt h_rows h_bests u6) (fun _ => rfl) rfl (Nat.le_of_ble_eq_true rfl) ⟨rfl, rfl⟩ ⟨Nat.le_of_ble_eq_true rfl, Nat.le_of_ble_eq_true rfl⟩ ⟨Nat.zero_le _, Nat.zero_le _⟩ hl.1 (st' := fun u6 => []) (fun _ => rfl) (fun u6 H locs huu6 Y => ?_)
        replace hM := mS hM huu6
        refine r_iconst (pc' := 37) X (0 : Int32) 19 rfl rfl rfl ?_
        refine r_istore_n (pc' := 38) (L' := [(2, .int (0 : Int32)), (0, .ref h), (1, .int i1)]) X hl rfl 20 rfl rfl (by decide) rfl (fun ls hl => ?_)
        refine lp_rule (I := fun (st7 : Int32 × MS) => ∀ (H : Heap) (locs : List Loc) (ls : Array Slot), rY G A s (wMS G h h_items h_lanes h_sizes h_firms h_kinds h_now h_before h_images h_tape h_trace h_readFirms h_readKinds h_readAt h_rows h_bests st7.2) H locs → lv_has ls 3 [(0, .ref h), (1, .int i1), (2, .int st7.1)] → W p l e q_X8_race s m args below meth c H locs 0 0 Q (F0 m 38 ls [])) hne (fun rec7 st7 IH7 hM => ?_) _ _ hM _ _ _ Y (lv_sub hl [1, 2, 0] rfl)
        intro H locs ls Y hl
        refine r_iload_n (pc' := 39) X hl 2 rfl rfl 21 rfl rfl ?_
        refine r_bipush (pc' := 41) X (61 : Int32) 22 rfl rfl rfl ?_
        refine r_icmp_ge (pc' := 44) X 69 23 rfl rfl (by decide) (fun c8 => ?_) (fun c8 => ?_)
        · replace hM := mI hM c8
          refine r_ldc (pc' := 71) X mw530 38 rfl rfl ?_
          exact RT ((-1000000 : Int32), st7.2) _ _ _ _ _ hM (Or.inl ⟨rfl, rfl, _, rfl⟩) (X.d (k := 39) rfl) Y
        · replace hM := mE hM c8
          refine r_aload_n (pc' := 45) X hl 0 rfl rfl 24 rfl rfl ?_
          refine r_iconst (pc' := 46) X (0 : Int32) 25 rfl rfl rfl ?_
          refine r_iload_n (pc' := 47) X hl 1 rfl rfl 26 rfl rfl ?_
          refine r_callV0 (pc' := 50) (As := [.int (0 : Int32), .int i1]) (rest := []) X Y 27 rfl rfl mRX8_275 (c_X8_isDone l G h h_items h_lanes h_sizes h_firms h_kinds h_now h_before h_images h_tape h_trace h_readFirms h_readKinds h_readAt h_rows h_bests st7.2 (0 : Int32) i1) (mB hM hne) 0 rfl rfl [0, 1, 2, 3, 4, 5, 6, 7, 8, 9, 10, 11, 12, 13, 14, 15] rfl rfl rfl (Nat.le_of_ble_eq_true rfl) ⟨rfl, rfl⟩ ⟨Nat.le_of_ble_eq_true rfl, Nat.le_of_ble_eq_true rfl⟩ ⟨Nat.zero_le _, Nat.zero_le _⟩ hl.1 (st' := fun u9 => [.int u9]) (fun _ => rfl) (fun u9 H locs huu9 Y => ?_)
          replace hM := mS hM huu9
          refine r_if_eq (pc' := 53) X 55 28 rfl rfl (by decide) (fun c10 => ?_) (fun c10 => ?_)
          · replace hM := mI hM c10
            refine r_aload_n (pc' := 56) X hl 0 rfl rfl 31 rfl rfl ?_
            refine r_iconst (pc' := 57) X (0 : Int32) 32 rfl rfl rfl ?_
            refine r_iload_n (pc' := 58) X hl 1 rfl rfl 33 rfl rfl ?_
            refine r_bipush (pc' := 60) X (6 : Int32) 34 rfl rfl rfl ?_
            refine r_callV (pc' := 63) (As := [.int (0 : Int32), .int i1, .int (6 : Int32)]) (rest := []) X Y 35 rfl rfl mRX8_278 (c_X8_goAlone l G h h_items h_lanes h_sizes h_firms h_kinds h_now h_before h_images h_tape h_trace h_readFirms h_readKinds h_readAt h_rows h_bests st7.2 (0 : Int32) i1 (6 : Int32)) (mB hM hne) 0 rfl rfl [0, 1, 2, 3, 4, 5, 6, 7, 8, 9, 10, 11, 12, 13, 14, 15] [] [0, 1, 2, 3, 4, 5, 6, 7, 8, 9, 10, 11, 12, 13, 14, 15] rfl rfl ⟨rfl, rfl, rfl⟩ rfl (w2 := fun u11 => wMS G h h_items h_lanes h_sizes h_firms h_kinds h_now h_before h_images h_tape h_trace h_readFirms h_readKinds h_readAt h_rows h_bests u11) (fun _ => rfl) rfl (Nat.le_of_ble_eq_true rfl) ⟨rfl, rfl⟩ ⟨Nat.le_of_ble_eq_true rfl, Nat.le_of_ble_eq_true rfl⟩ ⟨Nat.zero_le _, Nat.zero_le _⟩ hl.1 (st' := fun u11 => []) (fun _ => rfl) (fun u11 H locs huu11 Y => ?_)
            replace hM := mS hM huu11
            refine r_iinc (pc' := 66) (L' := [(2, .int (st7.1 + (1 : Int32))), (0, .ref h), (1, .int i1)]) X (st7.1 + (1 : Int32)) hl 2 rfl rfl 36 rfl rfl (by decide) rfl (fun ls hl => ?_)
            refine r_goto X 38 37 rfl (by decide) ?_
            exact IH7 _ hM _ _ _ Y (lv_sub hl [1, 2, 0] rfl)
          · replace hM := mE hM c10
            refine r_iload_n (pc' := 54) X hl 2 rfl rfl 29 rfl rfl ?_
            exact RT (st7.1, st7.2) _ _ _ _ _ hM (Or.inl ⟨rfl, rfl, _, rfl⟩) (X.d (k := 30) rfl) Y
      · replace hM := mI hM c5
        refine r_ldc (pc' := 30) X mw688 14 rfl rfl ?_
        exact RT ((-1000002 : Int32), S0) _ _ _ _ _ hM (Or.inl ⟨rfl, rfl, _, rfl⟩) (X.d (k := 15) rfl) Y
    · replace hM := mI hM c3
      refine r_ldc (pc' := 19) X mw546 8 rfl rfl ?_
      exact RT ((-1000001 : Int32), S0) _ _ _ _ _ hM (Or.inl ⟨rfl, rfl, _, rfl⟩) (X.d (k := 9) rfl) Y
  · replace hM := mI hM c1
    refine r_ldc (pc' := 9) X mw688 3 rfl rfl ?_
    exact RT ((-1000002 : Int32), S0) _ _ _ _ _ hM (Or.inl ⟨rfl, rfl, _, rfl⟩) (X.d (k := 4) rfl) Y

def M_X8_safe (S0 : MS) (i1 : Int32) : Option (Int32 × MS) :=
  (if (ms_hasTable S0) = 0 then (some ((-1000002 : Int32), S0)) else ((M_X8_isFirm i1).bind (fun u2 => (if u2 = 0 then (some ((-1000001 : Int32), S0)) else ((M_X8_aside S0 (0 : Int32)).bind (fun u4 => ((lp (σ := Int32 × Int32) (β := Int32) (fun rec5 st5 => (if (ms_men u4) ≤ st5.2 then (some st5.1) else (if inb st5.2 8 = true then (if ((ms_firms u4) (st5.2).toNatClampNeg) = i1 then (if inb st5.2 12 = true then (if (ms_points u4) ≤ ((ms_now u4) (st5.2).toNatClampNeg) then (rec5 ((st5.1 ||| (0 : Int32)), (st5.2 + (1 : Int32)))) else ((M_X8_manyAt u4 (0 : Int32) i1 (((ms_now u4) (st5.2).toNatClampNeg)) st5.2).bind (fun u11 => (if u11 ≤ 0 then (rec5 ((st5.1 ||| (0 : Int32)), (st5.2 + (1 : Int32)))) else (rec5 ((st5.1 ||| ((1 : Int32) <<< (st5.2 &&& 31))), (st5.2 + (1 : Int32)))))))) else none) else (rec5 ((st5.1 ||| (0 : Int32)), (st5.2 + (1 : Int32))))) else none))) 1000000 ((0 : Int32), (0 : Int32))).bind (fun b5 => (some (b5, u4))))))))))
def q_X8_safe : Room := { frames := 3, cells := 0, slots := 0, locals := 108 }
set_option maxHeartbeats 4000000 in
set_option maxRecDepth 100000 in
theorem c_X8_safe (l : Launch) (G : gT) (h h_items h_lanes h_sizes h_firms h_kinds h_now h_before h_images h_tape h_trace h_readFirms h_readKinds h_readAt h_rows h_bests : Nat) (S0 : MS) (i1 : Int32) : CT l G yX8_safe cX8_safe 4 (some .int) q_X8_safe [.ref h, .int i1] (wMS G h h_items h_lanes h_sizes h_firms h_kinds h_now h_before h_images h_tape h_trace h_readFirms h_readKinds h_readAt h_rows h_bests S0) (M_X8_safe S0 i1) (fun u => some (.int u.1)) (fun u => wMS G h h_items h_lanes h_sizes h_firms h_kinds h_now h_before h_images h_tape h_trace h_readFirms h_readKinds h_readAt h_rows h_bests u.2) := by
  refine CT.of (P := PX8_safe) (by decide) dPX8_safe (Nat.le_of_ble_eq_true rfl) ?_
  intro p e s m args below meth c A Q ls hne X RT Y hl
  have hl : lv_has ls 4 [(0, .ref h), (1, .int i1)] := hl
  generalize hM : M_X8_safe S0 i1 = MM at hne RT
  unfold M_X8_safe at hM
  refine r_aload_n (pc' := 1) X hl 0 rfl rfl 0 rfl rfl ?_
  refine r_get (pc' := 4) (v := .int (ms_hasTable S0)) X Y 1 rfl rfl fRX8_162 0 rfl rfl ?_
  refine r_if_ne (pc' := 7) X 10 2 rfl rfl (by decide) (fun c1 => ?_) (fun c1 => ?_)
  · replace hM := mE hM c1
    refine r_iload_n (pc' := 11) X hl 1 rfl rfl 5 rfl rfl ?_
    refine r_callS0 (pc' := 14) (As := [.int i1]) (rest := []) X Y 6 rfl rfl mRX8_245 (c_X8_isFirm l G i1) (mB hM hne) rfl [] rfl rfl rfl (Nat.le_of_ble_eq_true rfl) ⟨rfl, rfl⟩ ⟨Nat.le_of_ble_eq_true rfl, Nat.le_of_ble_eq_true rfl⟩ ⟨Nat.zero_le _, Nat.zero_le _⟩ hl.1 (st' := fun u2 => [.int u2]) (fun _ => rfl) (fun u2 H locs huu2 Y => ?_)
    replace hM := mS hM huu2
    refine r_if_ne (pc' := 17) X 20 7 rfl rfl (by decide) (fun c3 => ?_) (fun c3 => ?_)
    · replace hM := mE hM c3
      refine r_aload_n (pc' := 21) X hl 0 rfl rfl 10 rfl rfl ?_
      refine r_iconst (pc' := 22) X (0 : Int32) 11 rfl rfl rfl ?_
      refine r_callV (pc' := 25) (As := [.int (0 : Int32)]) (rest := []) X Y 12 rfl rfl mRX8_202 (c_X8_aside l G h h_items h_lanes h_sizes h_firms h_kinds h_now h_before h_images h_tape h_trace h_readFirms h_readKinds h_readAt h_rows h_bests S0 (0 : Int32)) (mB hM hne) 0 rfl rfl [0, 1, 2, 3, 4, 5, 6, 7, 8, 9, 10, 11, 12, 13, 14, 15] [] [0, 1, 2, 3, 4, 5, 6, 7, 8, 9, 10, 11, 12, 13, 14, 15] rfl rfl ⟨rfl, rfl, rfl⟩ rfl (w2 := fun u4 => wMS G h h_items h_lanes h_sizes h_firms h_kinds h_now h_before h_images h_tape h_trace h_readFirms h_readKinds h_readAt h_rows h_bests u4) (fun _ => rfl) rfl (Nat.le_of_ble_eq_true rfl) ⟨rfl, rfl⟩ ⟨Nat.le_of_ble_eq_true rfl, Nat.le_of_ble_eq_true rfl⟩ ⟨Nat.zero_le _, Nat.zero_le _⟩ hl.1 (st' := fun u4 => []) (fun _ => rfl) (fun u4 H locs huu4 Y => ?_)
      replace hM := mS hM huu4
      refine r_iconst (pc' := 26) X (0 : Int32) 13 rfl rfl rfl ?_
      refine r_istore_n (pc' := 27) (L' := [(2, .int (0 : Int32)), (0, .ref h), (1, .int i1)]) X hl rfl 14 rfl rfl (by decide) rfl (fun ls hl => ?_)
      refine r_iconst (pc' := 28) X (0 : Int32) 15 rfl rfl rfl ?_
      refine r_istore_n (pc' := 29) (L' := [(3, .int (0 : Int32)), (2, .int (0 : Int32)), (0, .ref h), (1, .int i1)]) X hl rfl 16 rfl rfl (by decide) rfl (fun ls hl => ?_)
      obtain ⟨LL5, hL5, hne5, hX5⟩ := mL hM hne
      have KX5 : ∀ (b5 : Int32) (H : Heap) (locs : List Loc) (ls : Array Slot), some b5 = LL5 → rY G A s (wMS G h h_items h_lanes h_sizes h_firms h_kinds h_now h_before h_images h_tape h_trace h_readFirms h_readKinds h_readAt h_rows h_bests u4) H locs → lv_has ls 4 [(2, .int b5)] → W p l e q_X8_safe s m args below meth c H locs 0 0 Q (F0 m 92 ls []) := by
        intro b5 H locs ls hM Y hl
        replace hM := hX5 _ hM
        refine r_iload_n (pc' := 93) X hl 0 rfl rfl 54 rfl rfl ?_
        exact RT (b5, u4) _ _ _ _ _ hM (Or.inl ⟨rfl, rfl, _, rfl⟩) (X.d (k := 55) rfl) Y
      refine lp_rule (I := fun (st5 : Int32 × Int32) => ∀ (H : Heap) (locs : List Loc) (ls : Array Slot), rY G A s (wMS G h h_items h_lanes h_sizes h_firms h_kinds h_now h_before h_images h_tape h_trace h_readFirms h_readKinds h_readAt h_rows h_bests u4) H locs → lv_has ls 4 [(0, .ref h), (1, .int i1), (2, .int st5.1), (3, .int st5.2)] → W p l e q_X8_safe s m args below meth c H locs 0 0 Q (F0 m 29 ls [])) hne5 (fun rec5 st5 IH5 hM => ?_) _ _ hL5 _ _ _ Y (lv_sub hl [2, 3, 1, 0] rfl)
      intro H locs ls Y hl
      refine r_iload_n (pc' := 30) X hl 3 rfl rfl 17 rfl rfl ?_
      refine r_aload_n (pc' := 31) X hl 0 rfl rfl 18 rfl rfl ?_
      refine r_get (pc' := 34) (v := .int (ms_men u4)) X Y 19 rfl rfl fRX8_159 0 rfl rfl ?_
      refine r_icmp_ge (pc' := 37) X 92 20 rfl rfl (by decide) (fun c6 => ?_) (fun c6 => ?_)
      · replace hM := mI hM c6
        exact KX5 _ _ _ _ hM Y (lv_sub hl [2] rfl)
      · replace hM := mE hM c6
        refine r_iload_n (pc' := 38) X hl 2 rfl rfl 21 rfl rfl ?_
        refine r_aload_n (pc' := 39) X hl 0 rfl rfl 22 rfl rfl ?_
        refine r_get (pc' := 42) (v := .ref h_firms) X Y 23 rfl rfl fRX8_19 0 rfl rfl ?_
        refine r_iload_n (pc' := 43) X hl 3 rfl rfl 24 rfl rfl ?_
        obtain ⟨g7, hM⟩ := mG hM hne5
        refine r_iald (pc' := 44) X Y 25 rfl rfl 4 rfl (vin g7) ?_
        refine r_iload_n (pc' := 45) X hl 1 rfl rfl 26 rfl rfl ?_
        refine r_icmp_ne (pc' := 48) X 83 27 rfl rfl (by decide) (fun c8 => ?_) (fun c8 => ?_)
        · replace hM := mE hM c8
          refine r_iconst (pc' := 84) X (0 : Int32) 49 rfl rfl rfl ?_
          refine r_ior (pc' := 85) X 50 rfl rfl ?_
          refine r_istore_n (pc' := 86) (L' := [(2, .int (st5.1 ||| (0 : Int32))), (0, .ref h), (1, .int i1), (3, .int st5.2)]) X hl rfl 51 rfl rfl (by decide) rfl (fun ls hl => ?_)
          refine r_iinc (pc' := 89) (L' := [(3, .int (st5.2 + (1 : Int32))), (2, .int (st5.1 ||| (0 : Int32))), (0, .ref h), (1, .int i1)]) X (st5.2 + (1 : Int32)) hl 3 rfl rfl 52 rfl rfl (by decide) rfl (fun ls hl => ?_)
          refine r_goto X 29 53 rfl (by decide) ?_
          exact IH5 _ hM _ _ _ Y (lv_sub hl [2, 3, 1, 0] rfl)
        · replace hM := mI hM c8
          refine r_aload_n (pc' := 49) X hl 0 rfl rfl 28 rfl rfl ?_
          refine r_get (pc' := 52) (v := .ref h_now) X Y 29 rfl rfl fRX8_25 0 rfl rfl ?_
          refine r_iload_n (pc' := 53) X hl 3 rfl rfl 30 rfl rfl ?_
          obtain ⟨g9, hM⟩ := mG hM hne5
          refine r_iald (pc' := 54) X Y 31 rfl rfl 6 rfl (vin g9) ?_
          refine r_aload_n (pc' := 55) X hl 0 rfl rfl 32 rfl rfl ?_
          refine r_get (pc' := 58) (v := .int (ms_points u4)) X Y 33 rfl rfl fRX8_153 0 rfl rfl ?_
          refine r_icmp_ge (pc' := 61) X 83 34 rfl rfl (by decide) (fun c10 => ?_) (fun c10 => ?_)
          · replace hM := mI hM c10
            refine r_iconst (pc' := 84) X (0 : Int32) 49 rfl rfl rfl ?_
            refine r_ior (pc' := 85) X 50 rfl rfl ?_
            refine r_istore_n (pc' := 86) (L' := [(2, .int (st5.1 ||| (0 : Int32))), (0, .ref h), (1, .int i1), (3, .int st5.2)]) X hl rfl 51 rfl rfl (by decide) rfl (fun ls hl => ?_)
            refine r_iinc (pc' := 89) (L' := [(3, .int (st5.2 + (1 : Int32))), (2, .int (st5.1 ||| (0 : Int32))), (0, .ref h), (1, .int i1)]) X (st5.2 + (1 : Int32)) hl 3 rfl rfl 52 rfl rfl (by decide) rfl (fun ls hl => ?_)
            refine r_goto X 29 53 rfl (by decide) ?_
            exact IH5 _ hM _ _ _ Y (lv_sub hl [2, 3, 1, 0] rfl)
          · replace hM := mE hM c10
            refine r_aload_n (pc' := 62) X hl 0 rfl rfl 35 rfl rfl ?_
            refine r_iconst (pc' := 63) X (0 : Int32) 36 rfl rfl rfl ?_
            refine r_iload_n (pc' := 64) X hl 1 rfl rfl 37 rfl rfl ?_
            refine r_aload_n (pc' := 65) X hl 0 rfl rfl 38 rfl rfl ?_
            refine r_get (pc' := 68) (v := .ref h_now) X Y 39 rfl rfl fRX8_25 0 rfl rfl ?_
            refine r_iload_n (pc' := 69) X hl 3 rfl rfl 40 rfl rfl ?_
            refine r_iald (pc' := 70) X Y 41 rfl rfl 6 rfl (vin g9) ?_
            refine r_iload_n (pc' := 71) X hl 3 rfl rfl 42 rfl rfl ?_
            refine r_callV0 (pc' := 74) (As := [.int (0 : Int32), .int i1, .int ((ms_now u4) (st5.2).toNatClampNeg), .int st5.2]) (rest := [.int st5.1]) X Y 43 rfl rfl mRX8_187 (c_X8_manyAt l G h h_items h_lanes h_sizes h_firms h_kinds h_now h_before h_images h_tape h_trace h_readFirms h_readKinds h_readAt h_rows h_bests u4 (0 : Int32) i1 (((ms_now u4) (st5.2).toNatClampNeg)) st5.2) (mB hM hne5) 0 rfl rfl [0, 1, 2, 3, 4, 5, 6, 7, 8, 9, 10, 11, 12, 13, 14, 15] rfl rfl rfl (Nat.le_of_ble_eq_true rfl) ⟨rfl, rfl⟩ ⟨Nat.le_of_ble_eq_true rfl, Nat.le_of_ble_eq_true rfl⟩ ⟨Nat.zero_le _, Nat.zero_le _⟩ hl.1 (st' := fun u11 => [.int u11, .int st5.1]) (fun _ => rfl) (fun u11 H locs huu11 Y => ?_)
            replace hM := mS hM huu11
            refine r_if_le (pc' := 77) X 83 44 rfl rfl (by decide) (fun c12 => ?_) (fun c12 => ?_)
            · replace hM := mI hM c12
              refine r_iconst (pc' := 84) X (0 : Int32) 49 rfl rfl rfl ?_
              refine r_ior (pc' := 85) X 50 rfl rfl ?_
              refine r_istore_n (pc' := 86) (L' := [(2, .int (st5.1 ||| (0 : Int32))), (0, .ref h), (1, .int i1), (3, .int st5.2)]) X hl rfl 51 rfl rfl (by decide) rfl (fun ls hl => ?_)
              refine r_iinc (pc' := 89) (L' := [(3, .int (st5.2 + (1 : Int32))), (2, .int (st5.1 ||| (0 : Int32))), (0, .ref h), (1, .int i1)]) X (st5.2 + (1 : Int32)) hl 3 rfl rfl 52 rfl rfl (by decide) rfl (fun ls hl => ?_)
              refine r_goto X 29 53 rfl (by decide) ?_
              exact IH5 _ hM _ _ _ Y (lv_sub hl [2, 3, 1, 0] rfl)
            · replace hM := mE hM c12
              refine r_iconst (pc' := 78) X (1 : Int32) 45 rfl rfl rfl ?_
              refine r_iload_n (pc' := 79) X hl 3 rfl rfl 46 rfl rfl ?_
              refine r_ishl (pc' := 80) X 47 rfl rfl ?_
              refine r_goto X 84 48 rfl (by decide) ?_
              refine r_ior (pc' := 85) X 50 rfl rfl ?_
              refine r_istore_n (pc' := 86) (L' := [(2, .int (st5.1 ||| ((1 : Int32) <<< (st5.2 &&& 31)))), (0, .ref h), (1, .int i1), (3, .int st5.2)]) X hl rfl 51 rfl rfl (by decide) rfl (fun ls hl => ?_)
              refine r_iinc (pc' := 89) (L' := [(3, .int (st5.2 + (1 : Int32))), (2, .int (st5.1 ||| ((1 : Int32) <<< (st5.2 &&& 31)))), (0, .ref h), (1, .int i1)]) X (st5.2 + (1 : Int32)) hl 3 rfl rfl 52 rfl rfl (by decide) rfl (fun ls hl => ?_)
              refine r_goto X 29 53 rfl (by decide) ?_
              exact IH5 _ hM _ _ _ Y (lv_sub hl [2, 3, 1, 0] rfl)
    · replace hM := mI hM c3
      refine r_ldc (pc' := 19) X mw546 8 rfl rfl ?_
      exact RT ((-1000001 : Int32), S0) _ _ _ _ _ hM (Or.inl ⟨rfl, rfl, _, rfl⟩) (X.d (k := 9) rfl) Y
  · replace hM := mI hM c1
    refine r_ldc (pc' := 9) X mw688 3 rfl rfl ?_
    exact RT ((-1000002 : Int32), S0) _ _ _ _ _ hM (Or.inl ⟨rfl, rfl, _, rfl⟩) (X.d (k := 4) rfl) Y

def M_X8_isAs (S0 : MS) (i1 : Int32) (i2 : Int32) (i3 : Int32) : Option (Int32) :=
  ((lp (σ := Int32 × Int32) (β := Int32) (fun rec1 st1 => (if (ms_men S0) ≤ st1.2 then (some st1.1) else (if st1.1 = 0 then (rec1 ((0 : Int32), (st1.2 + (1 : Int32)))) else (if inb ((((40 : Int32) * i2) + i3) + st1.2) 320 = true then ((M_X8_at S0 i1 st1.2).bind (fun u6 => (if ((ms_items S0) (((((40 : Int32) * i2) + i3) + st1.2)).toNatClampNeg) = u6 then (rec1 ((1 : Int32), (st1.2 + (1 : Int32)))) else (rec1 ((0 : Int32), (st1.2 + (1 : Int32))))))) else none)))) 1000000 ((1 : Int32), (0 : Int32))).bind (fun b1 => (if (b1 = 0 ∨ b1 = 1) then (some b1) else none)))
def q_X8_isAs : Room := { frames := 2, cells := 0, slots := 0, locals := 82 }
set_option maxHeartbeats 4000000 in
set_option maxRecDepth 100000 in
theorem c_X8_isAs (l : Launch) (G : gT) (h h_items h_lanes h_sizes h_firms h_kinds h_now h_before h_images h_tape h_trace h_readFirms h_readKinds h_readAt h_rows h_bests : Nat) (S0 : MS) (i1 : Int32) (i2 : Int32) (i3 : Int32) : CT l G yX8_isAs cX8_isAs 6 (some .boolean) q_X8_isAs [.ref h, .int i1, .int i2, .int i3] (wMS G h h_items h_lanes h_sizes h_firms h_kinds h_now h_before h_images h_tape h_trace h_readFirms h_readKinds h_readAt h_rows h_bests S0) (M_X8_isAs S0 i1 i2 i3) (fun u => some (.int u)) (fun u => wMS G h h_items h_lanes h_sizes h_firms h_kinds h_now h_before h_images h_tape h_trace h_readFirms h_readKinds h_readAt h_rows h_bests S0) := by
  refine CT.of (P := PX8_isAs) (by decide) dPX8_isAs (Nat.le_of_ble_eq_true rfl) ?_
  intro p e s m args below meth c A Q ls hne X RT Y hl
  have hl : lv_has ls 6 [(0, .ref h), (1, .int i1), (2, .int i2), (3, .int i3)] := hl
  generalize hM : M_X8_isAs S0 i1 i2 i3 = MM at hne RT
  unfold M_X8_isAs at hM
  refine r_iconst (pc' := 1) X (1 : Int32) 0 rfl rfl rfl ?_
  refine r_istore (pc' := 3) (L' := [(4, .int (1 : Int32)), (0, .ref h), (1, .int i1), (2, .int i2), (3, .int i3)]) X hl 1 rfl rfl (by decide) rfl (fun ls hl => ?_)
  refine r_iconst (pc' := 4) X (0 : Int32) 2 rfl rfl rfl ?_
  refine r_istore (pc' := 6) (L' := [(5, .int (0 : Int32)), (4, .int (1 : Int32)), (0, .ref h), (1, .int i1), (2, .int i2), (3, .int i3)]) X hl 3 rfl rfl (by decide) rfl (fun ls hl => ?_)
  obtain ⟨LL1, hL1, hne1, hX1⟩ := mL hM hne
  have KX1 : ∀ (b1 : Int32) (H : Heap) (locs : List Loc) (ls : Array Slot), some b1 = LL1 → rY G A s (wMS G h h_items h_lanes h_sizes h_firms h_kinds h_now h_before h_images h_tape h_trace h_readFirms h_readKinds h_readAt h_rows h_bests S0) H locs → lv_has ls 6 [(4, .int b1)] → W p l e q_X8_isAs s m args below meth c H locs 0 0 Q (F0 m 57 ls []) := by
    intro b1 H locs ls hM Y hl
    replace hM := hX1 _ hM
    refine r_iload (pc' := 59) X hl 0 rfl 31 rfl rfl ?_
    obtain ⟨g2, hM⟩ := mG hM hne
    exact RT b1 _ _ _ _ _ hM (Or.inr (Or.inl ⟨rfl, rfl, _, rfl, nb g2⟩)) (X.d (k := 32) rfl) Y
  refine lp_rule (I := fun (st1 : Int32 × Int32) => ∀ (H : Heap) (locs : List Loc) (ls : Array Slot), rY G A s (wMS G h h_items h_lanes h_sizes h_firms h_kinds h_now h_before h_images h_tape h_trace h_readFirms h_readKinds h_readAt h_rows h_bests S0) H locs → lv_has ls 6 [(0, .ref h), (1, .int i1), (2, .int i2), (3, .int i3), (4, .int st1.1), (5, .int st1.2)] → W p l e q_X8_isAs s m args below meth c H locs 0 0 Q (F0 m 6 ls [])) hne1 (fun rec1 st1 IH1 hM => ?_) _ _ hL1 _ _ _ Y (lv_sub hl [2, 3, 4, 5, 1, 0] rfl)
  intro H locs ls Y hl
  refine r_iload (pc' := 8) X hl 5 rfl 4 rfl rfl ?_
  refine r_aload_n (pc' := 9) X hl 0 rfl rfl 5 rfl rfl ?_
  refine r_get (pc' := 12) (v := .int (ms_men S0)) X Y 6 rfl rfl fRX8_159 0 rfl rfl ?_
  refine r_icmp_ge (pc' := 15) X 57 7 rfl rfl (by decide) (fun c3 => ?_) (fun c3 => ?_)
  · replace hM := mI hM c3
    exact KX1 _ _ _ _ hM Y (lv_sub hl [4] rfl)
  · replace hM := mE hM c3
    refine r_iload (pc' := 17) X hl 4 rfl 8 rfl rfl ?_
    refine r_if_eq (pc' := 20) X 48 9 rfl rfl (by decide) (fun c4 => ?_) (fun c4 => ?_)
    · replace hM := mI hM c4
      refine r_iconst (pc' := 49) X (0 : Int32) 27 rfl rfl rfl ?_
      refine r_istore (pc' := 51) (L' := [(4, .int (0 : Int32)), (0, .ref h), (1, .int i1), (2, .int i2), (3, .int i3), (5, .int st1.2)]) X hl 28 rfl rfl (by decide) rfl (fun ls hl => ?_)
      refine r_iinc (pc' := 54) (L' := [(5, .int (st1.2 + (1 : Int32))), (4, .int (0 : Int32)), (0, .ref h), (1, .int i1), (2, .int i2), (3, .int i3)]) X (st1.2 + (1 : Int32)) hl 5 rfl rfl 29 rfl rfl (by decide) rfl (fun ls hl => ?_)
      refine r_goto X 6 30 rfl (by decide) ?_
      exact IH1 _ hM _ _ _ Y (lv_sub hl [2, 3, 4, 5, 1, 0] rfl)
    · replace hM := mE hM c4
      refine r_aload_n (pc' := 21) X hl 0 rfl rfl 10 rfl rfl ?_
      refine r_get (pc' := 24) (v := .ref h_items) X Y 11 rfl rfl fRX8_7 0 rfl rfl ?_
      refine r_bipush (pc' := 26) X (40 : Int32) 12 rfl rfl rfl ?_
      refine r_iload_n (pc' := 27) X hl 2 rfl rfl 13 rfl rfl ?_
      refine r_imul (pc' := 28) X 14 rfl rfl ?_
      refine r_iload_n (pc' := 29) X hl 3 rfl rfl 15 rfl rfl ?_
      refine r_iadd (pc' := 30) X 16 rfl rfl ?_
      refine r_iload (pc' := 32) X hl 5 rfl 17 rfl rfl ?_
      refine r_iadd (pc' := 33) X 18 rfl rfl ?_
      obtain ⟨g5, hM⟩ := mG hM hne1
      refine r_iald (pc' := 34) X Y 19 rfl rfl 1 rfl (vin g5) ?_
      refine r_aload_n (pc' := 35) X hl 0 rfl rfl 20 rfl rfl ?_
      refine r_iload_n (pc' := 36) X hl 1 rfl rfl 21 rfl rfl ?_
      refine r_iload (pc' := 38) X hl 5 rfl 22 rfl rfl ?_
      refine r_callV0 (pc' := 41) (As := [.int i1, .int st1.2]) (rest := [.int ((ms_items S0) (((((40 : Int32) * i2) + i3) + st1.2)).toNatClampNeg)]) X Y 23 rfl rfl mRX8_169 (c_X8_at l G h h_items h_lanes h_sizes h_firms h_kinds h_now h_before h_images h_tape h_trace h_readFirms h_readKinds h_readAt h_rows h_bests S0 i1 st1.2) (mB hM hne1) 0 rfl rfl [0, 1, 2, 3, 4, 5, 6, 7, 8, 9, 10, 11, 12, 13, 14, 15] rfl rfl rfl (Nat.le_of_ble_eq_true rfl) ⟨rfl, rfl⟩ ⟨Nat.le_of_ble_eq_true rfl, Nat.le_of_ble_eq_true rfl⟩ ⟨Nat.zero_le _, Nat.zero_le _⟩ hl.1 (st' := fun u6 => [.int u6, .int ((ms_items S0) (((((40 : Int32) * i2) + i3) + st1.2)).toNatClampNeg)]) (fun _ => rfl) (fun u6 H locs huu6 Y => ?_)
      replace hM := mS hM huu6
      refine r_icmp_ne (pc' := 44) X 48 24 rfl rfl (by decide) (fun c7 => ?_) (fun c7 => ?_)
      · replace hM := mE hM c7
        refine r_iconst (pc' := 49) X (0 : Int32) 27 rfl rfl rfl ?_
        refine r_istore (pc' := 51) (L' := [(4, .int (0 : Int32)), (0, .ref h), (1, .int i1), (2, .int i2), (3, .int i3), (5, .int st1.2)]) X hl 28 rfl rfl (by decide) rfl (fun ls hl => ?_)
        refine r_iinc (pc' := 54) (L' := [(5, .int (st1.2 + (1 : Int32))), (4, .int (0 : Int32)), (0, .ref h), (1, .int i1), (2, .int i2), (3, .int i3)]) X (st1.2 + (1 : Int32)) hl 5 rfl rfl 29 rfl rfl (by decide) rfl (fun ls hl => ?_)
        refine r_goto X 6 30 rfl (by decide) ?_
        exact IH1 _ hM _ _ _ Y (lv_sub hl [2, 3, 4, 5, 1, 0] rfl)
      · replace hM := mI hM c7
        refine r_iconst (pc' := 45) X (1 : Int32) 25 rfl rfl rfl ?_
        refine r_goto X 49 26 rfl (by decide) ?_
        refine r_istore (pc' := 51) (L' := [(4, .int (1 : Int32)), (0, .ref h), (1, .int i1), (2, .int i2), (3, .int i3), (5, .int st1.2)]) X hl 28 rfl rfl (by decide) rfl (fun ls hl => ?_)
        refine r_iinc (pc' := 54) (L' := [(5, .int (st1.2 + (1 : Int32))), (4, .int (1 : Int32)), (0, .ref h), (1, .int i1), (2, .int i2), (3, .int i3)]) X (st1.2 + (1 : Int32)) hl 5 rfl rfl 29 rfl rfl (by decide) rfl (fun ls hl => ?_)
        refine r_goto X 6 30 rfl (by decide) ?_
        exact IH1 _ hM _ _ _ Y (lv_sub hl [2, 3, 4, 5, 1, 0] rfl)

def M_X8_lacks (S0 : MS) (i1 : Int32) (i2 : Int32) : Option (Int32) :=
  (if inb i1 8 = true then (if 0 ≤ ((ms_sizes S0) (i1).toNatClampNeg) then ((M_X8_isSpan S0 i1 i2 (ms_men S0)).bind (fun u3 => (if u3 = 0 then (some (2 : Int32)) else (some (0 : Int32))))) else (some (1 : Int32))) else none)
def q_X8_lacks : Room := { frames := 2, cells := 0, slots := 0, locals := 83 }
set_option maxHeartbeats 4000000 in
set_option maxRecDepth 100000 in
theorem c_X8_lacks (l : Launch) (G : gT) (h h_items h_lanes h_sizes h_firms h_kinds h_now h_before h_images h_tape h_trace h_readFirms h_readKinds h_readAt h_rows h_bests : Nat) (S0 : MS) (i1 : Int32) (i2 : Int32) : CT l G yX8_lacks cX8_lacks 3 (some .int) q_X8_lacks [.ref h, .int i1, .int i2] (wMS G h h_items h_lanes h_sizes h_firms h_kinds h_now h_before h_images h_tape h_trace h_readFirms h_readKinds h_readAt h_rows h_bests S0) (M_X8_lacks S0 i1 i2) (fun u => some (.int u)) (fun u => wMS G h h_items h_lanes h_sizes h_firms h_kinds h_now h_before h_images h_tape h_trace h_readFirms h_readKinds h_readAt h_rows h_bests S0) := by
  refine CT.of (P := PX8_lacks) (by decide) dPX8_lacks (Nat.le_of_ble_eq_true rfl) ?_
  intro p e s m args below meth c A Q ls hne X RT Y hl
  have hl : lv_has ls 3 [(0, .ref h), (1, .int i1), (2, .int i2)] := hl
  generalize hM : M_X8_lacks S0 i1 i2 = MM at hne RT
  unfold M_X8_lacks at hM
  refine r_aload_n (pc' := 1) X hl 0 rfl rfl 0 rfl rfl ?_
  refine r_get (pc' := 4) (v := .ref h_sizes) X Y 1 rfl rfl fRX8_16 0 rfl rfl ?_
  refine r_iload_n (pc' := 5) X hl 1 rfl rfl 2 rfl rfl ?_
  obtain ⟨g1, hM⟩ := mG hM hne
  refine r_iald (pc' := 6) X Y 3 rfl rfl 3 rfl (vin g1) ?_
  refine r_if_ge (pc' := 9) X 13 4 rfl rfl (by decide) (fun c2 => ?_) (fun c2 => ?_)
  · replace hM := mI hM c2
    refine r_aload_n (pc' := 14) X hl 0 rfl rfl 7 rfl rfl ?_
    refine r_iload_n (pc' := 15) X hl 1 rfl rfl 8 rfl rfl ?_
    refine r_iload_n (pc' := 16) X hl 2 rfl rfl 9 rfl rfl ?_
    refine r_aload_n (pc' := 17) X hl 0 rfl rfl 10 rfl rfl ?_
    refine r_get (pc' := 20) (v := .int (ms_men S0)) X Y 11 rfl rfl fRX8_159 0 rfl rfl ?_
    refine r_callV0 (pc' := 23) (As := [.int i1, .int i2, .int (ms_men S0)]) (rest := []) X Y 12 rfl rfl mRX8_84 (c_X8_isSpan l G h h_items h_lanes h_sizes h_firms h_kinds h_now h_before h_images h_tape h_trace h_readFirms h_readKinds h_readAt h_rows h_bests S0 i1 i2 (ms_men S0)) (mB hM hne) 0 rfl rfl [0, 1, 2, 3, 4, 5, 6, 7, 8, 9, 10, 11, 12, 13, 14, 15] rfl rfl rfl (Nat.le_of_ble_eq_true rfl) ⟨rfl, rfl⟩ ⟨Nat.le_of_ble_eq_true rfl, Nat.le_of_ble_eq_true rfl⟩ ⟨Nat.zero_le _, Nat.zero_le _⟩ hl.1 (st' := fun u3 => [.int u3]) (fun _ => rfl) (fun u3 H locs huu3 Y => ?_)
    replace hM := mS hM huu3
    refine r_if_eq (pc' := 26) X 30 13 rfl rfl (by decide) (fun c4 => ?_) (fun c4 => ?_)
    · replace hM := mI hM c4
      refine r_iconst (pc' := 31) X (2 : Int32) 16 rfl rfl rfl ?_
      exact RT (2 : Int32) _ _ _ _ _ hM (Or.inl ⟨rfl, rfl, _, rfl⟩) (X.d (k := 17) rfl) Y
    · replace hM := mE hM c4
      refine r_iconst (pc' := 27) X (0 : Int32) 14 rfl rfl rfl ?_
      refine r_goto X 31 15 rfl (by decide) ?_
      exact RT (0 : Int32) _ _ _ _ _ hM (Or.inl ⟨rfl, rfl, _, rfl⟩) (X.d (k := 17) rfl) Y
  · replace hM := mE hM c2
    refine r_iconst (pc' := 10) X (1 : Int32) 5 rfl rfl rfl ?_
    refine r_goto X 31 6 rfl (by decide) ?_
    exact RT (1 : Int32) _ _ _ _ _ hM (Or.inl ⟨rfl, rfl, _, rfl⟩) (X.d (k := 17) rfl) Y

def M_X8_cast (S0 : MS) (i1 : Int32) (i2 : Int32) : Option (Int32 × MS) :=
  (if (ms_hasTable S0) = 0 then (some ((-1000002 : Int32), S0)) else ((M_X8_isRow i1).bind (fun u2 => (if u2 = 0 then (some ((-1000001 : Int32), S0)) else ((M_X8_wonNow S0).bind (fun u4 => (if u4.1 = (-1000000 : Int32) then ((M_X8_lacks u4.2 i1 i2).bind (fun u6 => (if u6 = 0 then ((lp (σ := Int32 × Int32 × MS) (β := Int32 × MS) (fun rec8 st8 => (if (7 : Int32) ≤ st8.2.1 then (some (st8.1, st8.2.2)) else ((M_X8_aside st8.2.2 (0 : Int32)).bind (fun u11 => ((M_X8_goRuled u11 (0 : Int32) st8.2.1).bind (fun u12 => ((M_X8_isAs u12.2 (0 : Int32) i1 i2).bind (fun u13 => (if u13 = 0 then (rec8 ((st8.1 ||| (0 : Int32)), (st8.2.1 + (1 : Int32)), u12.2)) else (rec8 ((st8.1 ||| ((1 : Int32) <<< (st8.2.1 &&& 31))), (st8.2.1 + (1 : Int32)), u12.2))))))))))) 1000000 ((0 : Int32), (1 : Int32), u4.2)).bind (fun b8 => ((M_X8_well b8.2 b8.1).bind (fun u9 => (some (u9.1, u9.2)))))) else ((M_X8_lacks u4.2 i1 i2).bind (fun u15 => ((M_X8_found u4.2 u15).bind (fun u16 => (some (u16.1, u16.2))))))))) else (some ((-1000002 : Int32), u4.2)))))))))
def q_X8_cast : Room := { frames := 7, cells := 0, slots := 0, locals := 206 }
set_option maxHeartbeats 4000000 in
set_option maxRecDepth 100000 in
theorem c_X8_cast (l : Launch) (G : gT) (h h_items h_lanes h_sizes h_firms h_kinds h_now h_before h_images h_tape h_trace h_readFirms h_readKinds h_readAt h_rows h_bests : Nat) (S0 : MS) (i1 : Int32) (i2 : Int32) : CT l G yX8_cast cX8_cast 5 (some .int) q_X8_cast [.ref h, .int i1, .int i2] (wMS G h h_items h_lanes h_sizes h_firms h_kinds h_now h_before h_images h_tape h_trace h_readFirms h_readKinds h_readAt h_rows h_bests S0) (M_X8_cast S0 i1 i2) (fun u => some (.int u.1)) (fun u => wMS G h h_items h_lanes h_sizes h_firms h_kinds h_now h_before h_images h_tape h_trace h_readFirms h_readKinds h_readAt h_rows h_bests u.2) := by
  refine CT.of (P := PX8_cast) (by decide) dPX8_cast (Nat.le_of_ble_eq_true rfl) ?_
  intro p e s m args below meth c A Q ls hne X RT Y hl
  have hl : lv_has ls 5 [(0, .ref h), (1, .int i1), (2, .int i2)] := hl
  generalize hM : M_X8_cast S0 i1 i2 = MM at hne RT
  unfold M_X8_cast at hM
  refine r_aload_n (pc' := 1) X hl 0 rfl rfl 0 rfl rfl ?_
  refine r_get (pc' := 4) (v := .int (ms_hasTable S0)) X Y 1 rfl rfl fRX8_162 0 rfl rfl ?_
  refine r_if_ne (pc' := 7) X 10 2 rfl rfl (by decide) (fun c1 => ?_) (fun c1 => ?_)
  · replace hM := mE hM c1
    refine r_iload_n (pc' := 11) X hl 1 rfl rfl 5 rfl rfl ?_
    refine r_callS0 (pc' := 14) (As := [.int i1]) (rest := []) X Y 6 rfl rfl mRX8_70 (c_X8_isRow l G i1) (mB hM hne) rfl [] rfl rfl rfl (Nat.le_of_ble_eq_true rfl) ⟨rfl, rfl⟩ ⟨Nat.le_of_ble_eq_true rfl, Nat.le_of_ble_eq_true rfl⟩ ⟨Nat.zero_le _, Nat.zero_le _⟩ hl.1 (st' := fun u2 => [.int u2]) (fun _ => rfl) (fun u2 H locs huu2 Y => ?_)
    replace hM := mS hM huu2
    refine r_if_ne (pc' := 17) X 20 7 rfl rfl (by decide) (fun c3 => ?_) (fun c3 => ?_)
    · replace hM := mE hM c3
      refine r_aload_n (pc' := 21) X hl 0 rfl rfl 10 rfl rfl ?_
      refine r_callV (pc' := 24) (As := []) (rest := []) X Y 11 rfl rfl mRX8_228 (c_X8_wonNow l G h h_items h_lanes h_sizes h_firms h_kinds h_now h_before h_images h_tape h_trace h_readFirms h_readKinds h_readAt h_rows h_bests S0) (mB hM hne) 0 rfl rfl [0, 1, 2, 3, 4, 5, 6, 7, 8, 9, 10, 11, 12, 13, 14, 15] [] [0, 1, 2, 3, 4, 5, 6, 7, 8, 9, 10, 11, 12, 13, 14, 15] rfl rfl ⟨rfl, rfl, rfl⟩ rfl (w2 := fun u4 => wMS G h h_items h_lanes h_sizes h_firms h_kinds h_now h_before h_images h_tape h_trace h_readFirms h_readKinds h_readAt h_rows h_bests u4.2) (fun _ => rfl) rfl (Nat.le_of_ble_eq_true rfl) ⟨rfl, rfl⟩ ⟨Nat.le_of_ble_eq_true rfl, Nat.le_of_ble_eq_true rfl⟩ ⟨Nat.zero_le _, Nat.zero_le _⟩ hl.1 (st' := fun u4 => [.int u4.1]) (fun _ => rfl) (fun u4 H locs huu4 Y => ?_)
      replace hM := mS hM huu4
      refine r_ldc (pc' := 26) X mw530 12 rfl rfl ?_
      refine r_icmp_eq (pc' := 29) X 32 13 rfl rfl (by decide) (fun c5 => ?_) (fun c5 => ?_)
      · replace hM := mI hM c5
        refine r_aload_n (pc' := 33) X hl 0 rfl rfl 16 rfl rfl ?_
        refine r_iload_n (pc' := 34) X hl 1 rfl rfl 17 rfl rfl ?_
        refine r_iload_n (pc' := 35) X hl 2 rfl rfl 18 rfl rfl ?_
        refine r_callV0 (pc' := 38) (As := [.int i1, .int i2]) (rest := []) X Y 19 rfl rfl mRX8_281 (c_X8_lacks l G h h_items h_lanes h_sizes h_firms h_kinds h_now h_before h_images h_tape h_trace h_readFirms h_readKinds h_readAt h_rows h_bests u4.2 i1 i2) (mB hM hne) 0 rfl rfl [0, 1, 2, 3, 4, 5, 6, 7, 8, 9, 10, 11, 12, 13, 14, 15] rfl rfl rfl (Nat.le_of_ble_eq_true rfl) ⟨rfl, rfl⟩ ⟨Nat.le_of_ble_eq_true rfl, Nat.le_of_ble_eq_true rfl⟩ ⟨Nat.zero_le _, Nat.zero_le _⟩ hl.1 (st' := fun u6 => [.int u6]) (fun _ => rfl) (fun u6 H locs huu6 Y => ?_)
        replace hM := mS hM huu6
        refine r_if_eq (pc' := 41) X 52 20 rfl rfl (by decide) (fun c7 => ?_) (fun c7 => ?_)
        · replace hM := mI hM c7
          refine r_iconst (pc' := 53) X (0 : Int32) 28 rfl rfl rfl ?_
          refine r_istore_n (pc' := 54) (L' := [(3, .int (0 : Int32)), (0, .ref h), (1, .int i1), (2, .int i2)]) X hl rfl 29 rfl rfl (by decide) rfl (fun ls hl => ?_)
          refine r_iconst (pc' := 55) X (1 : Int32) 30 rfl rfl rfl ?_
          refine r_istore (pc' := 57) (L' := [(4, .int (1 : Int32)), (3, .int (0 : Int32)), (0, .ref h), (1, .int i1), (2, .int i2)]) X hl 31 rfl rfl (by decide) rfl (fun ls hl => ?_)
          obtain ⟨LL8, hL8, hne8, hX8⟩ := mL hM hne
          have KX8 : ∀ (b8 : Int32 × MS) (H : Heap) (locs : List Loc) (ls : Array Slot), some b8 = LL8 → rY G A s (wMS G h h_items h_lanes h_sizes h_firms h_kinds h_now h_before h_images h_tape h_trace h_readFirms h_readKinds h_readAt h_rows h_bests b8.2) H locs → lv_has ls 5 [(0, .ref h), (3, .int b8.1)] → W p l e q_X8_cast s m args below meth c H locs 0 0 Q (F0 m 104 ls []) := by
            intro b8 H locs ls hM Y hl
            replace hM := hX8 _ hM
            refine r_aload_n (pc' := 105) X hl 0 rfl rfl 59 rfl rfl ?_
            refine r_iload_n (pc' := 106) X hl 1 rfl rfl 60 rfl rfl ?_
            refine r_callV (pc' := 109) (As := [.int b8.1]) (rest := []) X Y 61 rfl rfl mRX8_81 (c_X8_well l G h h_items h_lanes h_sizes h_firms h_kinds h_now h_before h_images h_tape h_trace h_readFirms h_readKinds h_readAt h_rows h_bests b8.2 b8.1) (mB hM hne) 0 rfl rfl [0, 1, 2, 3, 4, 5, 6, 7, 8, 9, 10, 11, 12, 13, 14, 15] [] [0, 1, 2, 3, 4, 5, 6, 7, 8, 9, 10, 11, 12, 13, 14, 15] rfl rfl ⟨rfl, rfl, rfl⟩ rfl (w2 := fun u9 => wMS G h h_items h_lanes h_sizes h_firms h_kinds h_now h_before h_images h_tape h_trace h_readFirms h_readKinds h_readAt h_rows h_bests u9.2) (fun _ => rfl) rfl (Nat.le_of_ble_eq_true rfl) ⟨rfl, rfl⟩ ⟨Nat.le_of_ble_eq_true rfl, Nat.le_of_ble_eq_true rfl⟩ ⟨Nat.zero_le _, Nat.zero_le _⟩ hl.1 (st' := fun u9 => [.int u9.1]) (fun _ => rfl) (fun u9 H locs huu9 Y => ?_)
            replace hM := mS hM huu9
            exact RT (u9.1, u9.2) _ _ _ _ _ hM (Or.inl ⟨rfl, rfl, _, rfl⟩) (X.d (k := 62) rfl) Y
          refine lp_rule (I := fun (st8 : Int32 × Int32 × MS) => ∀ (H : Heap) (locs : List Loc) (ls : Array Slot), rY G A s (wMS G h h_items h_lanes h_sizes h_firms h_kinds h_now h_before h_images h_tape h_trace h_readFirms h_readKinds h_readAt h_rows h_bests st8.2.2) H locs → lv_has ls 5 [(0, .ref h), (1, .int i1), (2, .int i2), (3, .int st8.1), (4, .int st8.2.1)] → W p l e q_X8_cast s m args below meth c H locs 0 0 Q (F0 m 57 ls [])) hne8 (fun rec8 st8 IH8 hM => ?_) _ _ hL8 _ _ _ Y (lv_sub hl [2, 3, 4, 1, 0] rfl)
          intro H locs ls Y hl
          refine r_iload (pc' := 59) X hl 4 rfl 32 rfl rfl ?_
          refine r_bipush (pc' := 61) X (7 : Int32) 33 rfl rfl rfl ?_
          refine r_icmp_ge (pc' := 64) X 104 34 rfl rfl (by decide) (fun c10 => ?_) (fun c10 => ?_)
          · replace hM := mI hM c10
            exact KX8 _ _ _ _ hM Y (lv_sub hl [0, 3] rfl)
          · replace hM := mE hM c10
            refine r_aload_n (pc' := 65) X hl 0 rfl rfl 35 rfl rfl ?_
            refine r_iconst (pc' := 66) X (0 : Int32) 36 rfl rfl rfl ?_
            refine r_callV (pc' := 69) (As := [.int (0 : Int32)]) (rest := []) X Y 37 rfl rfl mRX8_202 (c_X8_aside l G h h_items h_lanes h_sizes h_firms h_kinds h_now h_before h_images h_tape h_trace h_readFirms h_readKinds h_readAt h_rows h_bests st8.2.2 (0 : Int32)) (mB hM hne8) 0 rfl rfl [0, 1, 2, 3, 4, 5, 6, 7, 8, 9, 10, 11, 12, 13, 14, 15] [] [0, 1, 2, 3, 4, 5, 6, 7, 8, 9, 10, 11, 12, 13, 14, 15] rfl rfl ⟨rfl, rfl, rfl⟩ rfl (w2 := fun u11 => wMS G h h_items h_lanes h_sizes h_firms h_kinds h_now h_before h_images h_tape h_trace h_readFirms h_readKinds h_readAt h_rows h_bests u11) (fun _ => rfl) rfl (Nat.le_of_ble_eq_true rfl) ⟨rfl, rfl⟩ ⟨Nat.le_of_ble_eq_true rfl, Nat.le_of_ble_eq_true rfl⟩ ⟨Nat.zero_le _, Nat.zero_le _⟩ hl.1 (st' := fun u11 => []) (fun _ => rfl) (fun u11 H locs huu11 Y => ?_)
            replace hM := mS hM huu11
            refine r_aload_n (pc' := 70) X hl 0 rfl rfl 38 rfl rfl ?_
            refine r_iconst (pc' := 71) X (0 : Int32) 39 rfl rfl rfl ?_
            refine r_iload (pc' := 73) X hl 4 rfl 40 rfl rfl ?_
            refine r_callV (pc' := 76) (As := [.int (0 : Int32), .int st8.2.1]) (rest := []) X Y 41 rfl rfl mRX8_234 (c_X8_goRuled l G h h_items h_lanes h_sizes h_firms h_kinds h_now h_before h_images h_tape h_trace h_readFirms h_readKinds h_readAt h_rows h_bests u11 (0 : Int32) st8.2.1) (mB hM hne8) 0 rfl rfl [0, 1, 2, 3, 4, 5, 6, 7, 8, 9, 10, 11, 12, 13, 14, 15] [] [0, 1, 2, 3, 4, 5, 6, 7, 8, 9, 10, 11, 12, 13, 14, 15] rfl rfl ⟨rfl, rfl, rfl⟩ rfl (w2 := fun u12 => wMS G h h_items h_lanes h_sizes h_firms h_kinds h_now h_before h_images h_tape h_trace h_readFirms h_readKinds h_readAt h_rows h_bests u12.2) (fun _ => rfl) rfl (Nat.le_of_ble_eq_true rfl) ⟨rfl, rfl⟩ ⟨Nat.le_of_ble_eq_true rfl, Nat.le_of_ble_eq_true rfl⟩ ⟨Nat.zero_le _, Nat.zero_le _⟩ hl.1 (st' := fun u12 => [.int u12.1]) (fun _ => rfl) (fun u12 H locs huu12 Y => ?_)
            replace hM := mS hM huu12
            refine r_pop (pc' := 77) X 42 rfl rfl rfl ?_
            refine r_iload_n (pc' := 78) X hl 3 rfl rfl 43 rfl rfl ?_
            refine r_aload_n (pc' := 79) X hl 0 rfl rfl 44 rfl rfl ?_
            refine r_iconst (pc' := 80) X (0 : Int32) 45 rfl rfl rfl ?_
            refine r_iload_n (pc' := 81) X hl 1 rfl rfl 46 rfl rfl ?_
            refine r_iload_n (pc' := 82) X hl 2 rfl rfl 47 rfl rfl ?_
            refine r_callV0 (pc' := 85) (As := [.int (0 : Int32), .int i1, .int i2]) (rest := [.int st8.1]) X Y 48 rfl rfl mRX8_284 (c_X8_isAs l G h h_items h_lanes h_sizes h_firms h_kinds h_now h_before h_images h_tape h_trace h_readFirms h_readKinds h_readAt h_rows h_bests u12.2 (0 : Int32) i1 i2) (mB hM hne8) 0 rfl rfl [0, 1, 2, 3, 4, 5, 6, 7, 8, 9, 10, 11, 12, 13, 14, 15] rfl rfl rfl (Nat.le_of_ble_eq_true rfl) ⟨rfl, rfl⟩ ⟨Nat.le_of_ble_eq_true rfl, Nat.le_of_ble_eq_true rfl⟩ ⟨Nat.zero_le _, Nat.zero_le _⟩ hl.1 (st' := fun u13 => [.int u13, .int st8.1]) (fun _ => rfl) (fun u13 H locs huu13 Y => ?_)
            replace hM := mS hM huu13
            refine r_if_eq (pc' := 88) X 95 49 rfl rfl (by decide) (fun c14 => ?_) (fun c14 => ?_)
            · replace hM := mI hM c14
              refine r_iconst (pc' := 96) X (0 : Int32) 54 rfl rfl rfl ?_
              refine r_ior (pc' := 97) X 55 rfl rfl ?_
              refine r_istore_n (pc' := 98) (L' := [(3, .int (st8.1 ||| (0 : Int32))), (0, .ref h), (1, .int i1), (2, .int i2), (4, .int st8.2.1)]) X hl rfl 56 rfl rfl (by decide) rfl (fun ls hl => ?_)
              refine r_iinc (pc' := 101) (L' := [(4, .int (st8.2.1 + (1 : Int32))), (3, .int (st8.1 ||| (0 : Int32))), (0, .ref h), (1, .int i1), (2, .int i2)]) X (st8.2.1 + (1 : Int32)) hl 4 rfl rfl 57 rfl rfl (by decide) rfl (fun ls hl => ?_)
              refine r_goto X 57 58 rfl (by decide) ?_
              exact IH8 _ hM _ _ _ Y (lv_sub hl [2, 3, 4, 1, 0] rfl)
            · replace hM := mE hM c14
              refine r_iconst (pc' := 89) X (1 : Int32) 50 rfl rfl rfl ?_
              refine r_iload (pc' := 91) X hl 4 rfl 51 rfl rfl ?_
              refine r_ishl (pc' := 92) X 52 rfl rfl ?_
              refine r_goto X 96 53 rfl (by decide) ?_
              refine r_ior (pc' := 97) X 55 rfl rfl ?_
              refine r_istore_n (pc' := 98) (L' := [(3, .int (st8.1 ||| ((1 : Int32) <<< (st8.2.1 &&& 31)))), (0, .ref h), (1, .int i1), (2, .int i2), (4, .int st8.2.1)]) X hl rfl 56 rfl rfl (by decide) rfl (fun ls hl => ?_)
              refine r_iinc (pc' := 101) (L' := [(4, .int (st8.2.1 + (1 : Int32))), (3, .int (st8.1 ||| ((1 : Int32) <<< (st8.2.1 &&& 31)))), (0, .ref h), (1, .int i1), (2, .int i2)]) X (st8.2.1 + (1 : Int32)) hl 4 rfl rfl 57 rfl rfl (by decide) rfl (fun ls hl => ?_)
              refine r_goto X 57 58 rfl (by decide) ?_
              exact IH8 _ hM _ _ _ Y (lv_sub hl [2, 3, 4, 1, 0] rfl)
        · replace hM := mE hM c7
          refine r_aload_n (pc' := 42) X hl 0 rfl rfl 21 rfl rfl ?_
          refine r_aload_n (pc' := 43) X hl 0 rfl rfl 22 rfl rfl ?_
          refine r_iload_n (pc' := 44) X hl 1 rfl rfl 23 rfl rfl ?_
          refine r_iload_n (pc' := 45) X hl 2 rfl rfl 24 rfl rfl ?_
          refine r_callV0 (pc' := 48) (As := [.int i1, .int i2]) (rest := [.ref h]) X Y 25 rfl rfl mRX8_281 (c_X8_lacks l G h h_items h_lanes h_sizes h_firms h_kinds h_now h_before h_images h_tape h_trace h_readFirms h_readKinds h_readAt h_rows h_bests u4.2 i1 i2) (mB hM hne) 0 rfl rfl [0, 1, 2, 3, 4, 5, 6, 7, 8, 9, 10, 11, 12, 13, 14, 15] rfl rfl rfl (Nat.le_of_ble_eq_true rfl) ⟨rfl, rfl⟩ ⟨Nat.le_of_ble_eq_true rfl, Nat.le_of_ble_eq_true rfl⟩ ⟨Nat.zero_le _, Nat.zero_le _⟩ hl.1 (st' := fun u15 => [.int u15, .ref h]) (fun _ => rfl) (fun u15 H locs huu15 Y => ?_)
          replace hM := mS hM huu15
          refine r_callV (pc' := 51) (As := [.int u15]) (rest := []) X Y 26 rfl rfl mRX8_77 (c_X8_found l G h h_items h_lanes h_sizes h_firms h_kinds h_now h_before h_images h_tape h_trace h_readFirms h_readKinds h_readAt h_rows h_bests u4.2 u15) (mB hM hne) 0 rfl rfl [0, 1, 2, 3, 4, 5, 6, 7, 8, 9, 10, 11, 12, 13, 14, 15] [] [0, 1, 2, 3, 4, 5, 6, 7, 8, 9, 10, 11, 12, 13, 14, 15] rfl rfl ⟨rfl, rfl, rfl⟩ rfl (w2 := fun u16 => wMS G h h_items h_lanes h_sizes h_firms h_kinds h_now h_before h_images h_tape h_trace h_readFirms h_readKinds h_readAt h_rows h_bests u16.2) (fun _ => rfl) rfl (Nat.le_of_ble_eq_true rfl) ⟨rfl, rfl⟩ ⟨Nat.le_of_ble_eq_true rfl, Nat.le_of_ble_eq_true rfl⟩ ⟨Nat.zero_le _, Nat.zero_le _⟩ hl.1 (st' := fun u16 => [.int u16.1]) (fun _ => rfl) (fun u16 H locs huu16 Y => ?_)
          replace hM := mS hM huu16
          exact RT (u16.1, u16.2) _ _ _ _ _ hM (Or.inl ⟨rfl, rfl, _, rfl⟩) (X.d (k := 27) rfl) Y
      · replace hM := mE hM c5
        refine r_ldc (pc' := 31) X mw688 14 rfl rfl ?_
        exact RT ((-1000002 : Int32), u4.2) _ _ _ _ _ hM (Or.inl ⟨rfl, rfl, _, rfl⟩) (X.d (k := 15) rfl) Y
    · replace hM := mI hM c3
      refine r_ldc (pc' := 19) X mw546 8 rfl rfl ?_
      exact RT ((-1000001 : Int32), S0) _ _ _ _ _ hM (Or.inl ⟨rfl, rfl, _, rfl⟩) (X.d (k := 9) rfl) Y
  · replace hM := mI hM c1
    refine r_ldc (pc' := 9) X mw688 3 rfl rfl ?_
    exact RT ((-1000002 : Int32), S0) _ _ _ _ _ hM (Or.inl ⟨rfl, rfl, _, rfl⟩) (X.d (k := 4) rfl) Y

def M_X8_played (S0 : MS) (i1 : Int32) (i2 : Int32) (i3 : Int32) : Option (Int32 × MS) :=
  (if (ms_hasTable S0) = 0 then (some ((-1000002 : Int32), S0)) else ((M_X8_isThrow i1).bind (fun u2 => (if u2 = 0 then (some ((-1000001 : Int32), S0)) else ((M_X8_isRow i2).bind (fun u4 => (if u4 = 0 then (some ((-1000001 : Int32), S0)) else ((M_X8_wonNow S0).bind (fun u6 => (if u6.1 = (-1000000 : Int32) then ((M_X8_lacks u6.2 i2 i3).bind (fun u8 => (if u8 = 0 then ((lp (σ := Int32 × Int32 × MS) (β := Int32 × MS) (fun rec10 st10 => (if (ms_men st10.2.2) ≤ st10.2.1 then (some (st10.1, st10.2.2)) else ((M_X8_aside st10.2.2 (0 : Int32)).bind (fun u13 => (if inb st10.2.1 8 = true then (if ((ms_firms u13) (st10.2.1).toNatClampNeg) = ((ms_now u13) ((8 : Int32)).toNatClampNeg) then ((M_X8_can u13 (0 : Int32) st10.2.1 i1).bind (fun u16 => (if u16 = 0 then (rec10 (st10.1, (st10.2.1 + (1 : Int32)), u13)) else ((M_X8_goMan u13 (0 : Int32) st10.2.1 i1).bind (fun u18 => ((M_X8_isAs u18 (0 : Int32) i2 i3).bind (fun u19 => (if u19 = 0 then (rec10 ((st10.1 ||| (0 : Int32)), (st10.2.1 + (1 : Int32)), u18)) else (rec10 ((st10.1 ||| ((1 : Int32) <<< (st10.2.1 &&& 31))), (st10.2.1 + (1 : Int32)), u18)))))))))) else (rec10 (st10.1, (st10.2.1 + (1 : Int32)), u13))) else none))))) 1000000 ((0 : Int32), (0 : Int32), u6.2)).bind (fun b10 => ((M_X8_well b10.2 b10.1).bind (fun u11 => (some (u11.1, u11.2)))))) else ((M_X8_lacks u6.2 i2 i3).bind (fun u21 => ((M_X8_found u6.2 u21).bind (fun u22 => (some (u22.1, u22.2))))))))) else (some ((-1000002 : Int32), u6.2))))))))))))
def q_X8_played : Room := { frames := 5, cells := 0, slots := 0, locals := 157 }
set_option maxHeartbeats 4000000 in
set_option maxRecDepth 100000 in
theorem c_X8_played (l : Launch) (G : gT) (h h_items h_lanes h_sizes h_firms h_kinds h_now h_before h_images h_tape h_trace h_readFirms h_readKinds h_readAt h_rows h_bests : Nat) (S0 : MS) (i1 : Int32) (i2 : Int32) (i3 : Int32) : CT l G yX8_played cX8_played 6 (some .int) q_X8_played [.ref h, .int i1, .int i2, .int i3] (wMS G h h_items h_lanes h_sizes h_firms h_kinds h_now h_before h_images h_tape h_trace h_readFirms h_readKinds h_readAt h_rows h_bests S0) (M_X8_played S0 i1 i2 i3) (fun u => some (.int u.1)) (fun u => wMS G h h_items h_lanes h_sizes h_firms h_kinds h_now h_before h_images h_tape h_trace h_readFirms h_readKinds h_readAt h_rows h_bests u.2) := by
  refine CT.of (P := PX8_played) (by decide) dPX8_played (Nat.le_of_ble_eq_true rfl) ?_
  intro p e s m args below meth c A Q ls hne X RT Y hl
  have hl : lv_has ls 6 [(0, .ref h), (1, .int i1), (2, .int i2), (3, .int i3)] := hl
  generalize hM : M_X8_played S0 i1 i2 i3 = MM at hne RT
  unfold M_X8_played at hM
  refine r_aload_n (pc' := 1) X hl 0 rfl rfl 0 rfl rfl ?_
  refine r_get (pc' := 4) (v := .int (ms_hasTable S0)) X Y 1 rfl rfl fRX8_162 0 rfl rfl ?_
  refine r_if_ne (pc' := 7) X 10 2 rfl rfl (by decide) (fun c1 => ?_) (fun c1 => ?_)
  · replace hM := mE hM c1
    refine r_iload_n (pc' := 11) X hl 1 rfl rfl 5 rfl rfl ?_
    refine r_callS0 (pc' := 14) (As := [.int i1]) (rest := []) X Y 6 rfl rfl mRX8_225 (c_X8_isThrow l G i1) (mB hM hne) rfl [] rfl rfl rfl (Nat.le_of_ble_eq_true rfl) ⟨rfl, rfl⟩ ⟨Nat.le_of_ble_eq_true rfl, Nat.le_of_ble_eq_true rfl⟩ ⟨Nat.zero_le _, Nat.zero_le _⟩ hl.1 (st' := fun u2 => [.int u2]) (fun _ => rfl) (fun u2 H locs huu2 Y => ?_)
    replace hM := mS hM huu2
    refine r_if_eq (pc' := 17) X 24 7 rfl rfl (by decide) (fun c3 => ?_) (fun c3 => ?_)
    · replace hM := mI hM c3
      refine r_ldc (pc' := 26) X mw546 11 rfl rfl ?_
      exact RT ((-1000001 : Int32), S0) _ _ _ _ _ hM (Or.inl ⟨rfl, rfl, _, rfl⟩) (X.d (k := 12) rfl) Y
    · replace hM := mE hM c3
      refine r_iload_n (pc' := 18) X hl 2 rfl rfl 8 rfl rfl ?_
      refine r_callS0 (pc' := 21) (As := [.int i2]) (rest := []) X Y 9 rfl rfl mRX8_70 (c_X8_isRow l G i2) (mB hM hne) rfl [] rfl rfl rfl (Nat.le_of_ble_eq_true rfl) ⟨rfl, rfl⟩ ⟨Nat.le_of_ble_eq_true rfl, Nat.le_of_ble_eq_true rfl⟩ ⟨Nat.zero_le _, Nat.zero_le _⟩ hl.1 (st' := fun u4 => [.int u4]) (fun _ => rfl) (fun u4 H locs huu4 Y => ?_)
      replace hM := mS hM huu4
      refine r_if_ne (pc' := 24) X 27 10 rfl rfl (by decide) (fun c5 => ?_) (fun c5 => ?_)
      · replace hM := mE hM c5
        refine r_aload_n (pc' := 28) X hl 0 rfl rfl 13 rfl rfl ?_
        refine r_callV (pc' := 31) (As := []) (rest := []) X Y 14 rfl rfl mRX8_228 (c_X8_wonNow l G h h_items h_lanes h_sizes h_firms h_kinds h_now h_before h_images h_tape h_trace h_readFirms h_readKinds h_readAt h_rows h_bests S0) (mB hM hne) 0 rfl rfl [0, 1, 2, 3, 4, 5, 6, 7, 8, 9, 10, 11, 12, 13, 14, 15] [] [0, 1, 2, 3, 4, 5, 6, 7, 8, 9, 10, 11, 12, 13, 14, 15] rfl rfl ⟨rfl, rfl, rfl⟩ rfl (w2 := fun u6 => wMS G h h_items h_lanes h_sizes h_firms h_kinds h_now h_before h_images h_tape h_trace h_readFirms h_readKinds h_readAt h_rows h_bests u6.2) (fun _ => rfl) rfl (Nat.le_of_ble_eq_true rfl) ⟨rfl, rfl⟩ ⟨Nat.le_of_ble_eq_true rfl, Nat.le_of_ble_eq_true rfl⟩ ⟨Nat.zero_le _, Nat.zero_le _⟩ hl.1 (st' := fun u6 => [.int u6.1]) (fun _ => rfl) (fun u6 H locs huu6 Y => ?_)
        replace hM := mS hM huu6
        refine r_ldc (pc' := 33) X mw530 15 rfl rfl ?_
        refine r_icmp_eq (pc' := 36) X 39 16 rfl rfl (by decide) (fun c7 => ?_) (fun c7 => ?_)
        · replace hM := mI hM c7
          refine r_aload_n (pc' := 40) X hl 0 rfl rfl 19 rfl rfl ?_
          refine r_iload_n (pc' := 41) X hl 2 rfl rfl 20 rfl rfl ?_
          refine r_iload_n (pc' := 42) X hl 3 rfl rfl 21 rfl rfl ?_
          refine r_callV0 (pc' := 45) (As := [.int i2, .int i3]) (rest := []) X Y 22 rfl rfl mRX8_281 (c_X8_lacks l G h h_items h_lanes h_sizes h_firms h_kinds h_now h_before h_images h_tape h_trace h_readFirms h_readKinds h_readAt h_rows h_bests u6.2 i2 i3) (mB hM hne) 0 rfl rfl [0, 1, 2, 3, 4, 5, 6, 7, 8, 9, 10, 11, 12, 13, 14, 15] rfl rfl rfl (Nat.le_of_ble_eq_true rfl) ⟨rfl, rfl⟩ ⟨Nat.le_of_ble_eq_true rfl, Nat.le_of_ble_eq_true rfl⟩ ⟨Nat.zero_le _, Nat.zero_le _⟩ hl.1 (st' := fun u8 => [.int u8]) (fun _ => rfl) (fun u8 H locs huu8 Y => ?_)
          replace hM := mS hM huu8
          refine r_if_eq (pc' := 48) X 59 23 rfl rfl (by decide) (fun c9 => ?_) (fun c9 => ?_)
          · replace hM := mI hM c9
            refine r_iconst (pc' := 60) X (0 : Int32) 31 rfl rfl rfl ?_
            refine r_istore (pc' := 62) (L' := [(4, .int (0 : Int32)), (0, .ref h), (1, .int i1), (2, .int i2), (3, .int i3)]) X hl 32 rfl rfl (by decide) rfl (fun ls hl => ?_)
            refine r_iconst (pc' := 63) X (0 : Int32) 33 rfl rfl rfl ?_
            refine r_istore (pc' := 65) (L' := [(5, .int (0 : Int32)), (4, .int (0 : Int32)), (0, .ref h), (1, .int i1), (2, .int i2), (3, .int i3)]) X hl 34 rfl rfl (by decide) rfl (fun ls hl => ?_)
            obtain ⟨LL10, hL10, hne10, hX10⟩ := mL hM hne
            have KX10 : ∀ (b10 : Int32 × MS) (H : Heap) (locs : List Loc) (ls : Array Slot), some b10 = LL10 → rY G A s (wMS G h h_items h_lanes h_sizes h_firms h_kinds h_now h_before h_images h_tape h_trace h_readFirms h_readKinds h_readAt h_rows h_bests b10.2) H locs → lv_has ls 6 [(0, .ref h), (4, .int b10.1)] → W p l e q_X8_played s m args below meth c H locs 0 0 Q (F0 m 144 ls []) := by
              intro b10 H locs ls hM Y hl
              replace hM := hX10 _ hM
              refine r_aload_n (pc' := 145) X hl 0 rfl rfl 78 rfl rfl ?_
              refine r_iload (pc' := 147) X hl 1 rfl 79 rfl rfl ?_
              refine r_callV (pc' := 150) (As := [.int b10.1]) (rest := []) X Y 80 rfl rfl mRX8_81 (c_X8_well l G h h_items h_lanes h_sizes h_firms h_kinds h_now h_before h_images h_tape h_trace h_readFirms h_readKinds h_readAt h_rows h_bests b10.2 b10.1) (mB hM hne) 0 rfl rfl [0, 1, 2, 3, 4, 5, 6, 7, 8, 9, 10, 11, 12, 13, 14, 15] [] [0, 1, 2, 3, 4, 5, 6, 7, 8, 9, 10, 11, 12, 13, 14, 15] rfl rfl ⟨rfl, rfl, rfl⟩ rfl (w2 := fun u11 => wMS G h h_items h_lanes h_sizes h_firms h_kinds h_now h_before h_images h_tape h_trace h_readFirms h_readKinds h_readAt h_rows h_bests u11.2) (fun _ => rfl) rfl (Nat.le_of_ble_eq_true rfl) ⟨rfl, rfl⟩ ⟨Nat.le_of_ble_eq_true rfl, Nat.le_of_ble_eq_true rfl⟩ ⟨Nat.zero_le _, Nat.zero_le _⟩ hl.1 (st' := fun u11 => [.int u11.1]) (fun _ => rfl) (fun u11 H locs huu11 Y => ?_)
              replace hM := mS hM huu11
              exact RT (u11.1, u11.2) _ _ _ _ _ hM (Or.inl ⟨rfl, rfl, _, rfl⟩) (X.d (k := 81) rfl) Y
            refine lp_rule (I := fun (st10 : Int32 × Int32 × MS) => ∀ (H : Heap) (locs : List Loc) (ls : Array Slot), rY G A s (wMS G h h_items h_lanes h_sizes h_firms h_kinds h_now h_before h_images h_tape h_trace h_readFirms h_readKinds h_readAt h_rows h_bests st10.2.2) H locs → lv_has ls 6 [(0, .ref h), (1, .int i1), (2, .int i2), (3, .int i3), (4, .int st10.1), (5, .int st10.2.1)] → W p l e q_X8_played s m args below meth c H locs 0 0 Q (F0 m 65 ls [])) hne10 (fun rec10 st10 IH10 hM => ?_) _ _ hL10 _ _ _ Y (lv_sub hl [2, 3, 4, 5, 1, 0] rfl)
            intro H locs ls Y hl
            refine r_iload (pc' := 67) X hl 5 rfl 35 rfl rfl ?_
            refine r_aload_n (pc' := 68) X hl 0 rfl rfl 36 rfl rfl ?_
            refine r_get (pc' := 71) (v := .int (ms_men st10.2.2)) X Y 37 rfl rfl fRX8_159 0 rfl rfl ?_
            refine r_icmp_ge (pc' := 74) X 144 38 rfl rfl (by decide) (fun c12 => ?_) (fun c12 => ?_)
            · replace hM := mI hM c12
              exact KX10 _ _ _ _ hM Y (lv_sub hl [0, 4] rfl)
            · replace hM := mE hM c12
              refine r_aload_n (pc' := 75) X hl 0 rfl rfl 39 rfl rfl ?_
              refine r_iconst (pc' := 76) X (0 : Int32) 40 rfl rfl rfl ?_
              refine r_callV (pc' := 79) (As := [.int (0 : Int32)]) (rest := []) X Y 41 rfl rfl mRX8_202 (c_X8_aside l G h h_items h_lanes h_sizes h_firms h_kinds h_now h_before h_images h_tape h_trace h_readFirms h_readKinds h_readAt h_rows h_bests st10.2.2 (0 : Int32)) (mB hM hne10) 0 rfl rfl [0, 1, 2, 3, 4, 5, 6, 7, 8, 9, 10, 11, 12, 13, 14, 15] [] [0, 1, 2, 3, 4, 5, 6, 7, 8, 9, 10, 11, 12, 13, 14, 15] rfl rfl ⟨rfl, rfl, rfl⟩ rfl (w2 := fun u13 => wMS G h h_items h_lanes h_sizes h_firms h_kinds h_now h_before h_images h_tape h_trace h_readFirms h_readKinds h_readAt h_rows h_bests u13) (fun _ => rfl) rfl (Nat.le_of_ble_eq_true rfl) ⟨rfl, rfl⟩ ⟨Nat.le_of_ble_eq_true rfl, Nat.le_of_ble_eq_true rfl⟩ ⟨Nat.zero_le _, Nat.zero_le _⟩ hl.1 (st' := fun u13 => []) (fun _ => rfl) (fun u13 H locs huu13 Y => ?_)
              replace hM := mS hM huu13
              refine r_aload_n (pc' := 80) X hl 0 rfl rfl 42 rfl rfl ?_
              refine r_get (pc' := 83) (v := .ref h_firms) X Y 43 rfl rfl fRX8_19 0 rfl rfl ?_
              refine r_iload (pc' := 85) X hl 5 rfl 44 rfl rfl ?_
              obtain ⟨g14, hM⟩ := mG hM hne10
              refine r_iald (pc' := 86) X Y 45 rfl rfl 4 rfl (vin g14) ?_
              refine r_aload_n (pc' := 87) X hl 0 rfl rfl 46 rfl rfl ?_
              refine r_get (pc' := 90) (v := .ref h_now) X Y 47 rfl rfl fRX8_25 0 rfl rfl ?_
              refine r_bipush (pc' := 92) X (8 : Int32) 48 rfl rfl rfl ?_
              refine r_iald (pc' := 93) X Y 49 rfl rfl 6 rfl (vin rfl) ?_
              refine r_icmp_ne (pc' := 96) X 138 50 rfl rfl (by decide) (fun c15 => ?_) (fun c15 => ?_)
              · replace hM := mE hM c15
                refine r_iinc (pc' := 141) (L' := [(5, .int (st10.2.1 + (1 : Int32))), (0, .ref h), (1, .int i1), (2, .int i2), (3, .int i3), (4, .int st10.1)]) X (st10.2.1 + (1 : Int32)) hl 5 rfl rfl 76 rfl rfl (by decide) rfl (fun ls hl => ?_)
                refine r_goto X 65 77 rfl (by decide) ?_
                exact IH10 _ hM _ _ _ Y (lv_sub hl [1, 2, 3, 4, 5, 0] rfl)
              · replace hM := mI hM c15
                refine r_aload_n (pc' := 97) X hl 0 rfl rfl 51 rfl rfl ?_
                refine r_iconst (pc' := 98) X (0 : Int32) 52 rfl rfl rfl ?_
                refine r_iload (pc' := 100) X hl 5 rfl 53 rfl rfl ?_
                refine r_iload_n (pc' := 101) X hl 1 rfl rfl 54 rfl rfl ?_
                refine r_callV0 (pc' := 104) (As := [.int (0 : Int32), .int st10.2.1, .int i1]) (rest := []) X Y 55 rfl rfl mRX8_199 (c_X8_can l G h h_items h_lanes h_sizes h_firms h_kinds h_now h_before h_images h_tape h_trace h_readFirms h_readKinds h_readAt h_rows h_bests u13 (0 : Int32) st10.2.1 i1) (mB hM hne10) 0 rfl rfl [0, 1, 2, 3, 4, 5, 6, 7, 8, 9, 10, 11, 12, 13, 14, 15] rfl rfl rfl (Nat.le_of_ble_eq_true rfl) ⟨rfl, rfl⟩ ⟨Nat.le_of_ble_eq_true rfl, Nat.le_of_ble_eq_true rfl⟩ ⟨Nat.zero_le _, Nat.zero_le _⟩ hl.1 (st' := fun u16 => [.int u16]) (fun _ => rfl) (fun u16 H locs huu16 Y => ?_)
                replace hM := mS hM huu16
                refine r_if_eq (pc' := 107) X 138 56 rfl rfl (by decide) (fun c17 => ?_) (fun c17 => ?_)
                · replace hM := mI hM c17
                  refine r_iinc (pc' := 141) (L' := [(5, .int (st10.2.1 + (1 : Int32))), (0, .ref h), (1, .int i1), (2, .int i2), (3, .int i3), (4, .int st10.1)]) X (st10.2.1 + (1 : Int32)) hl 5 rfl rfl 76 rfl rfl (by decide) rfl (fun ls hl => ?_)
                  refine r_goto X 65 77 rfl (by decide) ?_
                  exact IH10 _ hM _ _ _ Y (lv_sub hl [1, 2, 3, 4, 5, 0] rfl)
                · replace hM := mE hM c17
                  refine r_aload_n (pc' := 108) X hl 0 rfl rfl 57 rfl rfl ?_
                  refine r_iconst (pc' := 109) X (0 : Int32) 58 rfl rfl rfl ?_
                  refine r_iload (pc' := 111) X hl 5 rfl 59 rfl rfl ?_
                  refine r_iload_n (pc' := 112) X hl 1 rfl rfl 60 rfl rfl ?_
                  refine r_callV (pc' := 115) (As := [.int (0 : Int32), .int st10.2.1, .int i1]) (rest := []) X Y 61 rfl rfl mRX8_212 (c_X8_goMan l G h h_items h_lanes h_sizes h_firms h_kinds h_now h_before h_images h_tape h_trace h_readFirms h_readKinds h_readAt h_rows h_bests u13 (0 : Int32) st10.2.1 i1) (mB hM hne10) 0 rfl rfl [0, 1, 2, 3, 4, 5, 6, 7, 8, 9, 10, 11, 12, 13, 14, 15] [] [0, 1, 2, 3, 4, 5, 6, 7, 8, 9, 10, 11, 12, 13, 14, 15] rfl rfl ⟨rfl, rfl, rfl⟩ rfl (w2 := fun u18 => wMS G h h_items h_lanes h_sizes h_firms h_kinds h_now h_before h_images h_tape h_trace h_readFirms h_readKinds h_readAt h_rows h_bests u18) (fun _ => rfl) rfl (Nat.le_of_ble_eq_true rfl) ⟨rfl, rfl⟩ ⟨Nat.le_of_ble_eq_true rfl, Nat.le_of_ble_eq_true rfl⟩ ⟨Nat.zero_le _, Nat.zero_le _⟩ hl.1 (st' := fun u18 => []) (fun _ => rfl) (fun u18 H locs huu18 Y => ?_)
                  replace hM := mS hM huu18
                  refine r_iload (pc' := 117) X hl 4 rfl 62 rfl rfl ?_
                  refine r_aload_n (pc' := 118) X hl 0 rfl rfl 63 rfl rfl ?_
                  refine r_iconst (pc' := 119) X (0 : Int32) 64 rfl rfl rfl ?_
                  refine r_iload_n (pc' := 120) X hl 2 rfl rfl 65 rfl rfl ?_
                  refine r_iload_n (pc' := 121) X hl 3 rfl rfl 66 rfl rfl ?_
                  refine r_callV0 (pc' := 124) (As := [.int (0 : Int32), .int i2, .int i3]) (rest := [.int st10.1]) X Y 67 rfl rfl mRX8_284 (c_X8_isAs l G h h_items h_lanes h_sizes h_firms h_kinds h_now h_before h_images h_tape h_trace h_readFirms h_readKinds h_readAt h_rows h_bests u18 (0 : Int32) i2 i3) (mB hM hne10) 0 rfl rfl [0, 1, 2, 3, 4, 5, 6, 7, 8, 9, 10, 11, 12, 13, 14, 15] rfl rfl rfl (Nat.le_of_ble_eq_true rfl) ⟨rfl, rfl⟩ ⟨Nat.le_of_ble_eq_true rfl, Nat.le_of_ble_eq_true rfl⟩ ⟨Nat.zero_le _, Nat.zero_le _⟩ hl.1 (st' := fun u19 => [.int u19, .int st10.1]) (fun _ => rfl) (fun u19 H locs huu19 Y => ?_)
                  replace hM := mS hM huu19
                  refine r_if_eq (pc' := 127) X 134 68 rfl rfl (by decide) (fun c20 => ?_) (fun c20 => ?_)
                  · replace hM := mI hM c20
                    refine r_iconst (pc' := 135) X (0 : Int32) 73 rfl rfl rfl ?_
                    refine r_ior (pc' := 136) X 74 rfl rfl ?_
                    refine r_istore (pc' := 138) (L' := [(4, .int (st10.1 ||| (0 : Int32))), (0, .ref h), (1, .int i1), (2, .int i2), (3, .int i3), (5, .int st10.2.1)]) X hl 75 rfl rfl (by decide) rfl (fun ls hl => ?_)
                    refine r_iinc (pc' := 141) (L' := [(5, .int (st10.2.1 + (1 : Int32))), (4, .int (st10.1 ||| (0 : Int32))), (0, .ref h), (1, .int i1), (2, .int i2), (3, .int i3)]) X (st10.2.1 + (1 : Int32)) hl 5 rfl rfl 76 rfl rfl (by decide) rfl (fun ls hl => ?_)
                    refine r_goto X 65 77 rfl (by decide) ?_
                    exact IH10 _ hM _ _ _ Y (lv_sub hl [2, 3, 4, 5, 1, 0] rfl)
                  · replace hM := mE hM c20
                    refine r_iconst (pc' := 128) X (1 : Int32) 69 rfl rfl rfl ?_
                    refine r_iload (pc' := 130) X hl 5 rfl 70 rfl rfl ?_
                    refine r_ishl (pc' := 131) X 71 rfl rfl ?_
                    refine r_goto X 135 72 rfl (by decide) ?_
                    refine r_ior (pc' := 136) X 74 rfl rfl ?_
                    refine r_istore (pc' := 138) (L' := [(4, .int (st10.1 ||| ((1 : Int32) <<< (st10.2.1 &&& 31)))), (0, .ref h), (1, .int i1), (2, .int i2), (3, .int i3), (5, .int st10.2.1)]) X hl 75 rfl rfl (by decide) rfl (fun ls hl => ?_)
                    refine r_iinc (pc' := 141) (L' := [(5, .int (st10.2.1 + (1 : Int32))), (4, .int (st10.1 ||| ((1 : Int32) <<< (st10.2.1 &&& 31)))), (0, .ref h), (1, .int i1), (2, .int i2), (3, .int i3)]) X (st10.2.1 + (1 : Int32)) hl 5 rfl rfl 76 rfl rfl (by decide) rfl (fun ls hl => ?_)
                    refine r_goto X 65 77 rfl (by decide) ?_
                    exact IH10 _ hM _ _ _ Y (lv_sub hl [2, 3, 4, 5, 1, 0] rfl)
          · replace hM := mE hM c9
            refine r_aload_n (pc' := 49) X hl 0 rfl rfl 24 rfl rfl ?_
            refine r_aload_n (pc' := 50) X hl 0 rfl rfl 25 rfl rfl ?_
            refine r_iload_n (pc' := 51) X hl 2 rfl rfl 26 rfl rfl ?_
            refine r_iload_n (pc' := 52) X hl 3 rfl rfl 27 rfl rfl ?_
            refine r_callV0 (pc' := 55) (As := [.int i2, .int i3]) (rest := [.ref h]) X Y 28 rfl rfl mRX8_281 (c_X8_lacks l G h h_items h_lanes h_sizes h_firms h_kinds h_now h_before h_images h_tape h_trace h_readFirms h_readKinds h_readAt h_rows h_bests u6.2 i2 i3) (mB hM hne) 0 rfl rfl [0, 1, 2, 3, 4, 5, 6, 7, 8, 9, 10, 11, 12, 13, 14, 15] rfl rfl rfl (Nat.le_of_ble_eq_true rfl) ⟨rfl, rfl⟩ ⟨Nat.le_of_ble_eq_true rfl, Nat.le_of_ble_eq_true rfl⟩ ⟨Nat.zero_le _, Nat.zero_le _⟩ hl.1 (st' := fun u21 => [.int u21, .ref h]) (fun _ => rfl) (fun u21 H locs huu21 Y => ?_)
            replace hM := mS hM huu21
            refine r_callV (pc' := 58) (As := [.int u21]) (rest := []) X Y 29 rfl rfl mRX8_77 (c_X8_found l G h h_items h_lanes h_sizes h_firms h_kinds h_now h_before h_images h_tape h_trace h_readFirms h_readKinds h_readAt h_rows h_bests u6.2 u21) (mB hM hne) 0 rfl rfl [0, 1, 2, 3, 4, 5, 6, 7, 8, 9, 10, 11, 12, 13, 14, 15] [] [0, 1, 2, 3, 4, 5, 6, 7, 8, 9, 10, 11, 12, 13, 14, 15] rfl rfl ⟨rfl, rfl, rfl⟩ rfl (w2 := fun u22 => wMS G h h_items h_lanes h_sizes h_firms h_kinds h_now h_before h_images h_tape h_trace h_readFirms h_readKinds h_readAt h_rows h_bests u22.2) (fun _ => rfl) rfl (Nat.le_of_ble_eq_true rfl) ⟨rfl, rfl⟩ ⟨Nat.le_of_ble_eq_true rfl, Nat.le_of_ble_eq_true rfl⟩ ⟨Nat.zero_le _, Nat.zero_le _⟩ hl.1 (st' := fun u22 => [.int u22.1]) (fun _ => rfl) (fun u22 H locs huu22 Y => ?_)
            replace hM := mS hM huu22
            exact RT (u22.1, u22.2) _ _ _ _ _ hM (Or.inl ⟨rfl, rfl, _, rfl⟩) (X.d (k := 30) rfl) Y
        · replace hM := mE hM c7
          refine r_ldc (pc' := 38) X mw688 17 rfl rfl ?_
          exact RT ((-1000002 : Int32), u6.2) _ _ _ _ _ hM (Or.inl ⟨rfl, rfl, _, rfl⟩) (X.d (k := 18) rfl) Y
      · replace hM := mI hM c5
        refine r_ldc (pc' := 26) X mw546 11 rfl rfl ?_
        exact RT ((-1000001 : Int32), S0) _ _ _ _ _ hM (Or.inl ⟨rfl, rfl, _, rfl⟩) (X.d (k := 12) rfl) Y
  · replace hM := mI hM c1
    refine r_ldc (pc' := 9) X mw688 3 rfl rfl ?_
    exact RT ((-1000002 : Int32), S0) _ _ _ _ _ hM (Or.inl ⟨rfl, rfl, _, rfl⟩) (X.d (k := 4) rfl) Y
