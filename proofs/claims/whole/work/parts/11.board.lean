def M_X2_pipsOf (S0 : BD) (i1 : Int32) : Option (Int32) :=
  (if inb i1 8 = true then (if ((bd_places S0) (i1).toNatClampNeg) ≤ (bd_points S0) then (if ((bd_places S0) (i1).toNatClampNeg) = (bd_points S0) then (some ((bd_points S0) + (1 : Int32))) else (if ((bd_firms S0) (i1).toNatClampNeg) = 0 then (some ((bd_points S0) - ((bd_places S0) (i1).toNatClampNeg))) else (some (((bd_places S0) (i1).toNatClampNeg) + (1 : Int32))))) else (some (0 : Int32))) else none)
def q_X2_pipsOf : Room := { frames := 1, cells := 0, slots := 0, locals := 60 }
set_option maxHeartbeats 4000000 in
set_option maxRecDepth 100000 in
theorem c_X2_pipsOf (l : Launch) (G : gT) (h h_firms h_kindsTold h_places h_crowds h_pipsLeft h_notHome : Nat) (S0_points : Int32) (S0_home : Int32) (S0_men : Int32) (S0_turn : Int32) (S0_thrower : Int32) (S0_cube : Int32) (S0_owner : Int32) (S0_firms : Nat → Int32) (S0_kindsTold : Nat → Int32) (S0_places : Nat → Int32) (S0_crowds : Nat → Int32) (S0_pipsLeft : Nat → Int32) (S0_notHome : Nat → Int32) (i1 : Int32) : CT l G yX2_pipsOf cX2_pipsOf 3 (some .int) q_X2_pipsOf [.ref h, .int i1] (wBD G h h_firms h_kindsTold h_places h_crowds h_pipsLeft h_notHome S0_points S0_home S0_men S0_turn S0_thrower S0_cube S0_owner S0_firms S0_kindsTold S0_places S0_crowds S0_pipsLeft S0_notHome) (M_X2_pipsOf (S0_points, S0_home, S0_men, S0_turn, S0_thrower, S0_cube, S0_owner, S0_firms, S0_kindsTold, S0_places, S0_crowds, S0_pipsLeft, S0_notHome) i1) (fun u => some (.int u)) (fun u => wBD G h h_firms h_kindsTold h_places h_crowds h_pipsLeft h_notHome S0_points S0_home S0_men S0_turn S0_thrower S0_cube S0_owner S0_firms S0_kindsTold S0_places S0_crowds S0_pipsLeft S0_notHome) := by
  refine CT.of (P := PX2_pipsOf) (by decide) dPX2_pipsOf (Nat.le_of_ble_eq_true rfl) ?_
  intro p e s m args below meth c A Q ls hne X RT Y hl
  have hl : lv_has ls 3 [(0, .ref h), (1, .int i1)] := hl
  generalize hM : M_X2_pipsOf (S0_points, S0_home, S0_men, S0_turn, S0_thrower, S0_cube, S0_owner, S0_firms, S0_kindsTold, S0_places, S0_crowds, S0_pipsLeft, S0_notHome) i1 = MM at hne RT
  unfold M_X2_pipsOf at hM
  refine r_aload_n (pc' := 1) X hl 0 rfl rfl 0 rfl rfl ?_
  refine r_get (pc' := 4) (v := .ref h_places) X Y 1 rfl rfl fRX2_23 0 rfl rfl ?_
  refine r_iload_n (pc' := 5) X hl 1 rfl rfl 2 rfl rfl ?_
  obtain ⟨g1, hM⟩ := mG hM hne
  refine r_iald (pc' := 6) X Y 3 rfl rfl 3 rfl (vin g1) ?_
  refine r_istore_n (pc' := 7) (L' := [(2, .int (S0_places (i1).toNatClampNeg)), (0, .ref h), (1, .int i1)]) X hl rfl 4 rfl rfl (by decide) rfl (fun ls hl => ?_)
  refine r_iload_n (pc' := 8) X hl 0 rfl rfl 5 rfl rfl ?_
  refine r_aload_n (pc' := 9) X hl 1 rfl rfl 6 rfl rfl ?_
  refine r_get (pc' := 12) (v := .int S0_points) X Y 7 rfl rfl fRX2_35 0 rfl rfl ?_
  refine r_icmp_le (pc' := 15) X 17 8 rfl rfl (by decide) (fun c2 => ?_) (fun c2 => ?_)
  · replace hM := mI hM c2
    refine r_iload_n (pc' := 18) X hl 0 rfl rfl 11 rfl rfl ?_
    refine r_aload_n (pc' := 19) X hl 1 rfl rfl 12 rfl rfl ?_
    refine r_get (pc' := 22) (v := .int S0_points) X Y 13 rfl rfl fRX2_35 0 rfl rfl ?_
    refine r_icmp_ne (pc' := 25) X 32 14 rfl rfl (by decide) (fun c3 => ?_) (fun c3 => ?_)
    · replace hM := mE hM c3
      refine r_aload_n (pc' := 33) X hl 1 rfl rfl 20 rfl rfl ?_
      refine r_get (pc' := 36) (v := .ref h_firms) X Y 21 rfl rfl fRX2_16 0 rfl rfl ?_
      refine r_iload_n (pc' := 37) X hl 2 rfl rfl 22 rfl rfl ?_
      refine r_iald (pc' := 38) X Y 23 rfl rfl 1 rfl (vin g1) ?_
      refine r_if_ne (pc' := 41) X 50 24 rfl rfl (by decide) (fun c4 => ?_) (fun c4 => ?_)
      · replace hM := mE hM c4
        refine r_iload_n (pc' := 51) X hl 0 rfl rfl 30 rfl rfl ?_
        refine r_iconst (pc' := 52) X (1 : Int32) 31 rfl rfl rfl ?_
        refine r_iadd (pc' := 53) X 32 rfl rfl ?_
        exact RT ((S0_places (i1).toNatClampNeg) + (1 : Int32)) _ _ _ _ _ hM (Or.inl ⟨rfl, rfl, _, rfl⟩) (X.d (k := 33) rfl) Y
      · replace hM := mI hM c4
        refine r_aload_n (pc' := 42) X hl 1 rfl rfl 25 rfl rfl ?_
        refine r_get (pc' := 45) (v := .int S0_points) X Y 26 rfl rfl fRX2_35 0 rfl rfl ?_
        refine r_iload_n (pc' := 46) X hl 0 rfl rfl 27 rfl rfl ?_
        refine r_isub (pc' := 47) X 28 rfl rfl ?_
        refine r_goto X 53 29 rfl (by decide) ?_
        exact RT (S0_points - (S0_places (i1).toNatClampNeg)) _ _ _ _ _ hM (Or.inl ⟨rfl, rfl, _, rfl⟩) (X.d (k := 33) rfl) Y
    · replace hM := mI hM c3
      refine r_aload_n (pc' := 26) X hl 1 rfl rfl 15 rfl rfl ?_
      refine r_get (pc' := 29) (v := .int S0_points) X Y 16 rfl rfl fRX2_35 0 rfl rfl ?_
      refine r_iconst (pc' := 30) X (1 : Int32) 17 rfl rfl rfl ?_
      refine r_iadd (pc' := 31) X 18 rfl rfl ?_
      exact RT (S0_points + (1 : Int32)) _ _ _ _ _ hM (Or.inl ⟨rfl, rfl, _, rfl⟩) (X.d (k := 19) rfl) Y
  · replace hM := mE hM c2
    refine r_iconst (pc' := 16) X (0 : Int32) 9 rfl rfl rfl ?_
    exact RT (0 : Int32) _ _ _ _ _ hM (Or.inl ⟨rfl, rfl, _, rfl⟩) (X.d (k := 10) rfl) Y

def M_X2_tally (S0 : BD) (i1 : Int32) (i2 : Int32) : Option (BD) :=
  (if inb i1 8 = true then ((M_X2_pipsOf S0 i1).bind (fun u2 => (if inb ((((bd_firms S0) (i1).toNatClampNeg) * (14 : Int32)) + ((bd_places S0) (i1).toNatClampNeg)) 28 = true then (if inb ((bd_firms S0) (i1).toNatClampNeg) 2 = true then (if u2 ≤ (bd_home S0) then (some (bd_s_pipsLeft (bd_s_crowds S0 (upd (bd_crowds S0) (((((bd_firms S0) (i1).toNatClampNeg) * (14 : Int32)) + ((bd_places S0) (i1).toNatClampNeg))).toNatClampNeg (((bd_crowds S0) (((((bd_firms S0) (i1).toNatClampNeg) * (14 : Int32)) + ((bd_places S0) (i1).toNatClampNeg))).toNatClampNeg) + i2))) (upd (bd_pipsLeft S0) (((bd_firms S0) (i1).toNatClampNeg)).toNatClampNeg (((bd_pipsLeft S0) (((bd_firms S0) (i1).toNatClampNeg)).toNatClampNeg) + (i2 * u2))))) else (some (bd_s_notHome (bd_s_pipsLeft (bd_s_crowds S0 (upd (bd_crowds S0) (((((bd_firms S0) (i1).toNatClampNeg) * (14 : Int32)) + ((bd_places S0) (i1).toNatClampNeg))).toNatClampNeg (((bd_crowds S0) (((((bd_firms S0) (i1).toNatClampNeg) * (14 : Int32)) + ((bd_places S0) (i1).toNatClampNeg))).toNatClampNeg) + i2))) (upd (bd_pipsLeft S0) (((bd_firms S0) (i1).toNatClampNeg)).toNatClampNeg (((bd_pipsLeft S0) (((bd_firms S0) (i1).toNatClampNeg)).toNatClampNeg) + (i2 * u2)))) (upd (bd_notHome S0) (((bd_firms S0) (i1).toNatClampNeg)).toNatClampNeg (((bd_notHome S0) (((bd_firms S0) (i1).toNatClampNeg)).toNatClampNeg) + i2))))) else none) else none))) else none)
def q_X2_tally : Room := { frames := 2, cells := 0, slots := 0, locals := 82 }
set_option maxHeartbeats 4000000 in
set_option maxRecDepth 100000 in
theorem c_X2_tally (l : Launch) (G : gT) (h h_firms h_kindsTold h_places h_crowds h_pipsLeft h_notHome : Nat) (S0_points : Int32) (S0_home : Int32) (S0_men : Int32) (S0_turn : Int32) (S0_thrower : Int32) (S0_cube : Int32) (S0_owner : Int32) (S0_firms : Nat → Int32) (S0_kindsTold : Nat → Int32) (S0_places : Nat → Int32) (S0_crowds : Nat → Int32) (S0_pipsLeft : Nat → Int32) (S0_notHome : Nat → Int32) (i1 : Int32) (i2 : Int32) : CT l G yX2_tally cX2_tally 5 none q_X2_tally [.ref h, .int i1, .int i2] (wBD G h h_firms h_kindsTold h_places h_crowds h_pipsLeft h_notHome S0_points S0_home S0_men S0_turn S0_thrower S0_cube S0_owner S0_firms S0_kindsTold S0_places S0_crowds S0_pipsLeft S0_notHome) (M_X2_tally (S0_points, S0_home, S0_men, S0_turn, S0_thrower, S0_cube, S0_owner, S0_firms, S0_kindsTold, S0_places, S0_crowds, S0_pipsLeft, S0_notHome) i1 i2) (fun u => none) (fun u => wBD G h h_firms h_kindsTold h_places h_crowds h_pipsLeft h_notHome u.1 u.2.1 u.2.2.1 u.2.2.2.1 u.2.2.2.2.1 u.2.2.2.2.2.1 u.2.2.2.2.2.2.1 u.2.2.2.2.2.2.2.1 u.2.2.2.2.2.2.2.2.1 u.2.2.2.2.2.2.2.2.2.1 u.2.2.2.2.2.2.2.2.2.2.1 u.2.2.2.2.2.2.2.2.2.2.2.1 u.2.2.2.2.2.2.2.2.2.2.2.2) := by
  refine CT.of (P := PX2_tally) (by decide) dPX2_tally (Nat.le_of_ble_eq_true rfl) ?_
  intro p e s m args below meth c A Q ls hne X RT Y hl
  have hl : lv_has ls 5 [(0, .ref h), (1, .int i1), (2, .int i2)] := hl
  generalize hM : M_X2_tally (S0_points, S0_home, S0_men, S0_turn, S0_thrower, S0_cube, S0_owner, S0_firms, S0_kindsTold, S0_places, S0_crowds, S0_pipsLeft, S0_notHome) i1 i2 = MM at hne RT
  unfold M_X2_tally at hM
  refine r_aload_n (pc' := 1) X hl 0 rfl rfl 0 rfl rfl ?_
  refine r_get (pc' := 4) (v := .ref h_firms) X Y 1 rfl rfl fRX2_16 0 rfl rfl ?_
  refine r_iload_n (pc' := 5) X hl 1 rfl rfl 2 rfl rfl ?_
  obtain ⟨g1, hM⟩ := mG hM hne
  refine r_iald (pc' := 6) X Y 3 rfl rfl 1 rfl (vin g1) ?_
  refine r_istore_n (pc' := 7) (L' := [(3, .int (S0_firms (i1).toNatClampNeg)), (0, .ref h), (1, .int i1), (2, .int i2)]) X hl rfl 4 rfl rfl (by decide) rfl (fun ls hl => ?_)
  refine r_aload_n (pc' := 8) X hl 1 rfl rfl 5 rfl rfl ?_
  refine r_iload_n (pc' := 9) X hl 2 rfl rfl 6 rfl rfl ?_
  refine r_callV0 (pc' := 12) (As := [.int i1]) (rest := []) X Y 7 rfl rfl mRX2_69 (c_X2_pipsOf l G h h_firms h_kindsTold h_places h_crowds h_pipsLeft h_notHome S0_points S0_home S0_men S0_turn S0_thrower S0_cube S0_owner S0_firms S0_kindsTold S0_places S0_crowds S0_pipsLeft S0_notHome i1) (mB hM hne) 0 rfl rfl [0, 1, 2, 3, 4, 5, 6] rfl rfl rfl (Nat.le_of_ble_eq_true rfl) ⟨rfl, rfl⟩ ⟨Nat.le_of_ble_eq_true rfl, Nat.le_of_ble_eq_true rfl⟩ ⟨Nat.zero_le _, Nat.zero_le _⟩ hl.1 (st' := fun u2 => [.int u2]) (fun _ => rfl) (fun u2 H locs huu2 Y => ?_)
  replace hM := mS hM huu2
  refine r_istore (pc' := 14) (L' := [(4, .int u2), (3, .int (S0_firms (i1).toNatClampNeg)), (0, .ref h), (1, .int i1), (2, .int i2)]) X hl 8 rfl rfl (by decide) rfl (fun ls hl => ?_)
  refine r_aload_n (pc' := 15) X hl 2 rfl rfl 9 rfl rfl ?_
  refine r_get (pc' := 18) (v := .ref h_crowds) X Y 10 rfl rfl fRX2_26 0 rfl rfl ?_
  refine r_iload_n (pc' := 19) X hl 1 rfl rfl 11 rfl rfl ?_
  refine r_bipush (pc' := 21) X (14 : Int32) 12 rfl rfl rfl ?_
  refine r_imul (pc' := 22) X 13 rfl rfl ?_
  refine r_aload_n (pc' := 23) X hl 2 rfl rfl 14 rfl rfl ?_
  refine r_get (pc' := 26) (v := .ref h_places) X Y 15 rfl rfl fRX2_23 0 rfl rfl ?_
  refine r_iload_n (pc' := 27) X hl 3 rfl rfl 16 rfl rfl ?_
  refine r_iald (pc' := 28) X Y 17 rfl rfl 3 rfl (vin g1) ?_
  refine r_iadd (pc' := 29) X 18 rfl rfl ?_
  refine r_dup2 (pc' := 30) X 19 rfl rfl rfl rfl ?_
  obtain ⟨g3, hM⟩ := mG hM hne
  refine r_iald (pc' := 31) X Y 20 rfl rfl 4 rfl (vin g3) ?_
  refine r_iload_n (pc' := 32) X hl 4 rfl rfl 21 rfl rfl ?_
  refine r_iadd (pc' := 33) X 22 rfl rfl ?_
  refine r_iast (pc' := 34) (ws' := wBD G h h_firms h_kindsTold h_places h_crowds h_pipsLeft h_notHome S0_points S0_home S0_men S0_turn S0_thrower S0_cube S0_owner S0_firms S0_kindsTold S0_places (upd S0_crowds ((((S0_firms (i1).toNatClampNeg) * (14 : Int32)) + (S0_places (i1).toNatClampNeg))).toNatClampNeg ((S0_crowds ((((S0_firms (i1).toNatClampNeg) * (14 : Int32)) + (S0_places (i1).toNatClampNeg))).toNatClampNeg) + i2)) S0_pipsLeft S0_notHome) X Y 23 rfl rfl 4 rfl (vin g3) rfl (fun H locs Y => ?_)
  refine r_aload_n (pc' := 35) X hl 2 rfl rfl 24 rfl rfl ?_
  refine r_get (pc' := 38) (v := .ref h_pipsLeft) X Y 25 rfl rfl fRX2_29 0 rfl rfl ?_
  refine r_iload_n (pc' := 39) X hl 1 rfl rfl 26 rfl rfl ?_
  refine r_dup2 (pc' := 40) X 27 rfl rfl rfl rfl ?_
  obtain ⟨g4, hM⟩ := mG hM hne
  refine r_iald (pc' := 41) X Y 28 rfl rfl 5 rfl (vin g4) ?_
  refine r_iload_n (pc' := 42) X hl 4 rfl rfl 29 rfl rfl ?_
  refine r_iload (pc' := 44) X hl 0 rfl 30 rfl rfl ?_
  refine r_imul (pc' := 45) X 31 rfl rfl ?_
  refine r_iadd (pc' := 46) X 32 rfl rfl ?_
  refine r_iast (pc' := 47) (ws' := wBD G h h_firms h_kindsTold h_places h_crowds h_pipsLeft h_notHome S0_points S0_home S0_men S0_turn S0_thrower S0_cube S0_owner S0_firms S0_kindsTold S0_places (upd S0_crowds ((((S0_firms (i1).toNatClampNeg) * (14 : Int32)) + (S0_places (i1).toNatClampNeg))).toNatClampNeg ((S0_crowds ((((S0_firms (i1).toNatClampNeg) * (14 : Int32)) + (S0_places (i1).toNatClampNeg))).toNatClampNeg) + i2)) (upd S0_pipsLeft ((S0_firms (i1).toNatClampNeg)).toNatClampNeg ((S0_pipsLeft ((S0_firms (i1).toNatClampNeg)).toNatClampNeg) + (i2 * u2))) S0_notHome) X Y 33 rfl rfl 5 rfl (vin g4) rfl (fun H locs Y => ?_)
  refine r_iload (pc' := 49) X hl 0 rfl 34 rfl rfl ?_
  refine r_aload_n (pc' := 50) X hl 2 rfl rfl 35 rfl rfl ?_
  refine r_get (pc' := 53) (v := .int S0_home) X Y 36 rfl rfl fRX2_38 0 rfl rfl ?_
  refine r_icmp_le (pc' := 56) X 66 37 rfl rfl (by decide) (fun c5 => ?_) (fun c5 => ?_)
  · replace hM := mI hM c5
    exact RT (S0_points, S0_home, S0_men, S0_turn, S0_thrower, S0_cube, S0_owner, S0_firms, S0_kindsTold, S0_places, (upd S0_crowds ((((S0_firms (i1).toNatClampNeg) * (14 : Int32)) + (S0_places (i1).toNatClampNeg))).toNatClampNeg ((S0_crowds ((((S0_firms (i1).toNatClampNeg) * (14 : Int32)) + (S0_places (i1).toNatClampNeg))).toNatClampNeg) + i2)), (upd S0_pipsLeft ((S0_firms (i1).toNatClampNeg)).toNatClampNeg ((S0_pipsLeft ((S0_firms (i1).toNatClampNeg)).toNatClampNeg) + (i2 * u2))), S0_notHome) _ _ _ _ _ hM (Or.inr (Or.inr (Or.inr (Or.inl ⟨rfl, rfl, rfl⟩)))) (X.d (k := 46) rfl) Y
  · replace hM := mE hM c5
    refine r_aload_n (pc' := 57) X hl 2 rfl rfl 38 rfl rfl ?_
    refine r_get (pc' := 60) (v := .ref h_notHome) X Y 39 rfl rfl fRX2_32 0 rfl rfl ?_
    refine r_iload_n (pc' := 61) X hl 1 rfl rfl 40 rfl rfl ?_
    refine r_dup2 (pc' := 62) X 41 rfl rfl rfl rfl ?_
    refine r_iald (pc' := 63) X Y 42 rfl rfl 6 rfl (vin g4) ?_
    refine r_iload_n (pc' := 64) X hl 4 rfl rfl 43 rfl rfl ?_
    refine r_iadd (pc' := 65) X 44 rfl rfl ?_
    refine r_iast (pc' := 66) (ws' := wBD G h h_firms h_kindsTold h_places h_crowds h_pipsLeft h_notHome S0_points S0_home S0_men S0_turn S0_thrower S0_cube S0_owner S0_firms S0_kindsTold S0_places (upd S0_crowds ((((S0_firms (i1).toNatClampNeg) * (14 : Int32)) + (S0_places (i1).toNatClampNeg))).toNatClampNeg ((S0_crowds ((((S0_firms (i1).toNatClampNeg) * (14 : Int32)) + (S0_places (i1).toNatClampNeg))).toNatClampNeg) + i2)) (upd S0_pipsLeft ((S0_firms (i1).toNatClampNeg)).toNatClampNeg ((S0_pipsLeft ((S0_firms (i1).toNatClampNeg)).toNatClampNeg) + (i2 * u2))) (upd S0_notHome ((S0_firms (i1).toNatClampNeg)).toNatClampNeg ((S0_notHome ((S0_firms (i1).toNatClampNeg)).toNatClampNeg) + i2))) X Y 45 rfl rfl 6 rfl (vin g4) rfl (fun H locs Y => ?_)
    exact RT (S0_points, S0_home, S0_men, S0_turn, S0_thrower, S0_cube, S0_owner, S0_firms, S0_kindsTold, S0_places, (upd S0_crowds ((((S0_firms (i1).toNatClampNeg) * (14 : Int32)) + (S0_places (i1).toNatClampNeg))).toNatClampNeg ((S0_crowds ((((S0_firms (i1).toNatClampNeg) * (14 : Int32)) + (S0_places (i1).toNatClampNeg))).toNatClampNeg) + i2)), (upd S0_pipsLeft ((S0_firms (i1).toNatClampNeg)).toNatClampNeg ((S0_pipsLeft ((S0_firms (i1).toNatClampNeg)).toNatClampNeg) + (i2 * u2))), (upd S0_notHome ((S0_firms (i1).toNatClampNeg)).toNatClampNeg ((S0_notHome ((S0_firms (i1).toNatClampNeg)).toNatClampNeg) + i2))) _ _ _ _ _ hM (Or.inr (Or.inr (Or.inr (Or.inl ⟨rfl, rfl, rfl⟩)))) (X.d (k := 46) rfl) Y

def M_X2_put (S0 : BD) (i1 : Int32) (i2 : Int32) : Option (BD) :=
  ((M_X2_tally S0 i1 (-1 : Int32)).bind (fun u1 => (if inb i1 8 = true then ((M_X2_tally ((bd_s_places u1 (upd (bd_places u1) (i1).toNatClampNeg i2))) i1 (1 : Int32)).bind (fun u3 => (some u3))) else none)))
def q_X2_put : Room := { frames := 3, cells := 0, slots := 0, locals := 106 }
set_option maxHeartbeats 4000000 in
set_option maxRecDepth 100000 in
theorem c_X2_put (l : Launch) (G : gT) (h h_firms h_kindsTold h_places h_crowds h_pipsLeft h_notHome : Nat) (S0_points : Int32) (S0_home : Int32) (S0_men : Int32) (S0_turn : Int32) (S0_thrower : Int32) (S0_cube : Int32) (S0_owner : Int32) (S0_firms : Nat → Int32) (S0_kindsTold : Nat → Int32) (S0_places : Nat → Int32) (S0_crowds : Nat → Int32) (S0_pipsLeft : Nat → Int32) (S0_notHome : Nat → Int32) (i1 : Int32) (i2 : Int32) : CT l G yX2_put cX2_put 3 none q_X2_put [.ref h, .int i1, .int i2] (wBD G h h_firms h_kindsTold h_places h_crowds h_pipsLeft h_notHome S0_points S0_home S0_men S0_turn S0_thrower S0_cube S0_owner S0_firms S0_kindsTold S0_places S0_crowds S0_pipsLeft S0_notHome) (M_X2_put (S0_points, S0_home, S0_men, S0_turn, S0_thrower, S0_cube, S0_owner, S0_firms, S0_kindsTold, S0_places, S0_crowds, S0_pipsLeft, S0_notHome) i1 i2) (fun u => none) (fun u => wBD G h h_firms h_kindsTold h_places h_crowds h_pipsLeft h_notHome u.1 u.2.1 u.2.2.1 u.2.2.2.1 u.2.2.2.2.1 u.2.2.2.2.2.1 u.2.2.2.2.2.2.1 u.2.2.2.2.2.2.2.1 u.2.2.2.2.2.2.2.2.1 u.2.2.2.2.2.2.2.2.2.1 u.2.2.2.2.2.2.2.2.2.2.1 u.2.2.2.2.2.2.2.2.2.2.2.1 u.2.2.2.2.2.2.2.2.2.2.2.2) := by
  refine CT.of (P := PX2_put) (by decide) dPX2_put (Nat.le_of_ble_eq_true rfl) ?_
  intro p e s m args below meth c A Q ls hne X RT Y hl
  have hl : lv_has ls 3 [(0, .ref h), (1, .int i1), (2, .int i2)] := hl
  generalize hM : M_X2_put (S0_points, S0_home, S0_men, S0_turn, S0_thrower, S0_cube, S0_owner, S0_firms, S0_kindsTold, S0_places, S0_crowds, S0_pipsLeft, S0_notHome) i1 i2 = MM at hne RT
  unfold M_X2_put at hM
  refine r_aload_n (pc' := 1) X hl 0 rfl rfl 0 rfl rfl ?_
  refine r_iload_n (pc' := 2) X hl 1 rfl rfl 1 rfl rfl ?_
  refine r_iconst (pc' := 3) X (-1 : Int32) 2 rfl rfl rfl ?_
  refine r_callV (pc' := 6) (As := [.int i1, .int (-1 : Int32)]) (rest := []) (wr := ([] : va_W)) X Y 3 rfl rfl mRX2_59 (c_X2_tally l G h h_firms h_kindsTold h_places h_crowds h_pipsLeft h_notHome S0_points S0_home S0_men S0_turn S0_thrower S0_cube S0_owner S0_firms S0_kindsTold S0_places S0_crowds S0_pipsLeft S0_notHome i1 (-1 : Int32)) (mB hM hne) 0 rfl rfl [0, 1, 2, 3, 4, 5, 6] [] [0, 1, 2, 3, 4, 5, 6] rfl rfl ⟨rfl, rfl, rfl⟩ rfl (w2 := fun u1 => wBD G h h_firms h_kindsTold h_places h_crowds h_pipsLeft h_notHome u1.1 u1.2.1 u1.2.2.1 u1.2.2.2.1 u1.2.2.2.2.1 u1.2.2.2.2.2.1 u1.2.2.2.2.2.2.1 u1.2.2.2.2.2.2.2.1 u1.2.2.2.2.2.2.2.2.1 u1.2.2.2.2.2.2.2.2.2.1 u1.2.2.2.2.2.2.2.2.2.2.1 u1.2.2.2.2.2.2.2.2.2.2.2.1 u1.2.2.2.2.2.2.2.2.2.2.2.2) (fun _ => rfl) rfl (Nat.le_of_ble_eq_true rfl) ⟨rfl, rfl⟩ ⟨Nat.le_of_ble_eq_true rfl, Nat.le_of_ble_eq_true rfl⟩ ⟨Nat.zero_le _, Nat.zero_le _⟩ hl.1 (st' := fun u1 => []) (fun _ => rfl) (fun u1 H locs huu1 Y => ?_)
  obtain ⟨u1_points, u1_home, u1_men, u1_turn, u1_thrower, u1_cube, u1_owner, u1_firms, u1_kindsTold, u1_places, u1_crowds, u1_pipsLeft, u1_notHome⟩ := u1
  replace Y : rY G A s (wBD G h h_firms h_kindsTold h_places h_crowds h_pipsLeft h_notHome u1_points u1_home u1_men u1_turn u1_thrower u1_cube u1_owner u1_firms u1_kindsTold u1_places u1_crowds u1_pipsLeft u1_notHome) H locs := Y
  replace hM := mS hM huu1
  show W p l e q_X2_put s m args below meth c H locs 0 0 Q (F0 m 6 ls [])
  refine r_aload_n (pc' := 7) X hl 0 rfl rfl 4 rfl rfl ?_
  refine r_get (pc' := 10) (v := .ref h_places) X Y 5 rfl rfl fRX2_23 0 rfl rfl ?_
  refine r_iload_n (pc' := 11) X hl 1 rfl rfl 6 rfl rfl ?_
  refine r_iload_n (pc' := 12) X hl 2 rfl rfl 7 rfl rfl ?_
  obtain ⟨g2, hM⟩ := mG hM hne
  refine r_iast (pc' := 13) (ws' := wBD G h h_firms h_kindsTold h_places h_crowds h_pipsLeft h_notHome u1_points u1_home u1_men u1_turn u1_thrower u1_cube u1_owner u1_firms u1_kindsTold (upd u1_places (i1).toNatClampNeg i2) u1_crowds u1_pipsLeft u1_notHome) X Y 8 rfl rfl 3 rfl (vin g2) rfl (fun H locs Y => ?_)
  refine r_aload_n (pc' := 14) X hl 0 rfl rfl 9 rfl rfl ?_
  refine r_iload_n (pc' := 15) X hl 1 rfl rfl 10 rfl rfl ?_
  refine r_iconst (pc' := 16) X (1 : Int32) 11 rfl rfl rfl ?_
  refine r_callV (pc' := 19) (As := [.int i1, .int (1 : Int32)]) (rest := []) (wr := ([] : va_W)) X Y 12 rfl rfl mRX2_59 (c_X2_tally l G h h_firms h_kindsTold h_places h_crowds h_pipsLeft h_notHome u1_points u1_home u1_men u1_turn u1_thrower u1_cube u1_owner u1_firms u1_kindsTold ((upd u1_places (i1).toNatClampNeg i2)) u1_crowds u1_pipsLeft u1_notHome i1 (1 : Int32)) (mB hM hne) 0 rfl rfl [0, 1, 2, 3, 4, 5, 6] [] [0, 1, 2, 3, 4, 5, 6] rfl rfl ⟨rfl, rfl, rfl⟩ rfl (w2 := fun u3 => wBD G h h_firms h_kindsTold h_places h_crowds h_pipsLeft h_notHome u3.1 u3.2.1 u3.2.2.1 u3.2.2.2.1 u3.2.2.2.2.1 u3.2.2.2.2.2.1 u3.2.2.2.2.2.2.1 u3.2.2.2.2.2.2.2.1 u3.2.2.2.2.2.2.2.2.1 u3.2.2.2.2.2.2.2.2.2.1 u3.2.2.2.2.2.2.2.2.2.2.1 u3.2.2.2.2.2.2.2.2.2.2.2.1 u3.2.2.2.2.2.2.2.2.2.2.2.2) (fun _ => rfl) rfl (Nat.le_of_ble_eq_true rfl) ⟨rfl, rfl⟩ ⟨Nat.le_of_ble_eq_true rfl, Nat.le_of_ble_eq_true rfl⟩ ⟨Nat.zero_le _, Nat.zero_le _⟩ hl.1 (st' := fun u3 => []) (fun _ => rfl) (fun u3 H locs huu3 Y => ?_)
  obtain ⟨u3_points, u3_home, u3_men, u3_turn, u3_thrower, u3_cube, u3_owner, u3_firms, u3_kindsTold, u3_places, u3_crowds, u3_pipsLeft, u3_notHome⟩ := u3
  replace Y : rY G A s (wBD G h h_firms h_kindsTold h_places h_crowds h_pipsLeft h_notHome u3_points u3_home u3_men u3_turn u3_thrower u3_cube u3_owner u3_firms u3_kindsTold u3_places u3_crowds u3_pipsLeft u3_notHome) H locs := Y
  replace hM := mS hM huu3
  show W p l e q_X2_put s m args below meth c H locs 0 0 Q (F0 m 19 ls [])
  exact RT (u3_points, u3_home, u3_men, u3_turn, u3_thrower, u3_cube, u3_owner, u3_firms, u3_kindsTold, u3_places, u3_crowds, u3_pipsLeft, u3_notHome) _ _ _ _ _ hM (Or.inr (Or.inr (Or.inr (Or.inl ⟨rfl, rfl, rfl⟩)))) (X.d (k := 13) rfl) Y

def M_X2_begin (S0 : BD) (i1 : Int32) (i2 : Int32) : Option (BD) :=
  ((M_J7_fill_53178 28 (bd_crowds S0) (0 : Int32)).bind (fun u1 => ((M_J7_fill_53178 2 (bd_pipsLeft S0) (0 : Int32)).bind (fun u2 => ((M_J7_fill_53178 2 (bd_notHome S0) (0 : Int32)).bind (fun u3 => (some (bd_s_notHome (bd_s_pipsLeft (bd_s_crowds (bd_s_owner (bd_s_cube (bd_s_thrower (bd_s_turn (bd_s_men (bd_s_home (bd_s_points S0 i1) i2) (0 : Int32)) (0 : Int32)) (0 : Int32)) (1 : Int32)) (-1000000 : Int32)) u1) u2) u3))))))))
def q_X2_begin : Room := { frames := 2, cells := 0, slots := 0, locals := 83 }
set_option maxHeartbeats 4000000 in
set_option maxRecDepth 100000 in
theorem c_X2_begin (l : Launch) (G : gT) (h h_firms h_kindsTold h_places h_crowds h_pipsLeft h_notHome : Nat) (S0_points : Int32) (S0_home : Int32) (S0_men : Int32) (S0_turn : Int32) (S0_thrower : Int32) (S0_cube : Int32) (S0_owner : Int32) (S0_firms : Nat → Int32) (S0_kindsTold : Nat → Int32) (S0_places : Nat → Int32) (S0_crowds : Nat → Int32) (S0_pipsLeft : Nat → Int32) (S0_notHome : Nat → Int32) (i1 : Int32) (i2 : Int32) : CT l G yX2_begin cX2_begin 3 none q_X2_begin [.ref h, .int i1, .int i2] (wBD G h h_firms h_kindsTold h_places h_crowds h_pipsLeft h_notHome S0_points S0_home S0_men S0_turn S0_thrower S0_cube S0_owner S0_firms S0_kindsTold S0_places S0_crowds S0_pipsLeft S0_notHome) (M_X2_begin (S0_points, S0_home, S0_men, S0_turn, S0_thrower, S0_cube, S0_owner, S0_firms, S0_kindsTold, S0_places, S0_crowds, S0_pipsLeft, S0_notHome) i1 i2) (fun u => none) (fun u => wBD G h h_firms h_kindsTold h_places h_crowds h_pipsLeft h_notHome u.1 u.2.1 u.2.2.1 u.2.2.2.1 u.2.2.2.2.1 u.2.2.2.2.2.1 u.2.2.2.2.2.2.1 u.2.2.2.2.2.2.2.1 u.2.2.2.2.2.2.2.2.1 u.2.2.2.2.2.2.2.2.2.1 u.2.2.2.2.2.2.2.2.2.2.1 u.2.2.2.2.2.2.2.2.2.2.2.1 u.2.2.2.2.2.2.2.2.2.2.2.2) := by
  refine CT.of (P := PX2_begin) (by decide) dPX2_begin (Nat.le_of_ble_eq_true rfl) ?_
  intro p e s m args below meth c A Q ls hne X RT Y hl
  have hl : lv_has ls 3 [(0, .ref h), (1, .int i1), (2, .int i2)] := hl
  generalize hM : M_X2_begin (S0_points, S0_home, S0_men, S0_turn, S0_thrower, S0_cube, S0_owner, S0_firms, S0_kindsTold, S0_places, S0_crowds, S0_pipsLeft, S0_notHome) i1 i2 = MM at hne RT
  unfold M_X2_begin at hM
  refine r_aload_n (pc' := 1) X hl 0 rfl rfl 0 rfl rfl ?_
  refine r_iload_n (pc' := 2) X hl 1 rfl rfl 1 rfl rfl ?_
  refine r_put (pc' := 5) (ws' := wBD G h h_firms h_kindsTold h_places h_crowds h_pipsLeft h_notHome i1 S0_home S0_men S0_turn S0_thrower S0_cube S0_owner S0_firms S0_kindsTold S0_places S0_crowds S0_pipsLeft S0_notHome) X Y 2 rfl rfl fRX2_35 0 rfl rfl rfl (Nat.le_of_ble_eq_true rfl) rfl (fun H locs Y => ?_)
  refine r_aload_n (pc' := 6) X hl 0 rfl rfl 3 rfl rfl ?_
  refine r_iload_n (pc' := 7) X hl 2 rfl rfl 4 rfl rfl ?_
  refine r_put (pc' := 10) (ws' := wBD G h h_firms h_kindsTold h_places h_crowds h_pipsLeft h_notHome i1 i2 S0_men S0_turn S0_thrower S0_cube S0_owner S0_firms S0_kindsTold S0_places S0_crowds S0_pipsLeft S0_notHome) X Y 5 rfl rfl fRX2_38 0 rfl rfl rfl (Nat.le_of_ble_eq_true rfl) rfl (fun H locs Y => ?_)
  refine r_aload_n (pc' := 11) X hl 0 rfl rfl 6 rfl rfl ?_
  refine r_iconst (pc' := 12) X (0 : Int32) 7 rfl rfl rfl ?_
  refine r_put (pc' := 15) (ws' := wBD G h h_firms h_kindsTold h_places h_crowds h_pipsLeft h_notHome i1 i2 (0 : Int32) S0_turn S0_thrower S0_cube S0_owner S0_firms S0_kindsTold S0_places S0_crowds S0_pipsLeft S0_notHome) X Y 8 rfl rfl fRX2_41 0 rfl rfl rfl (Nat.le_of_ble_eq_true rfl) rfl (fun H locs Y => ?_)
  refine r_aload_n (pc' := 16) X hl 0 rfl rfl 9 rfl rfl ?_
  refine r_iconst (pc' := 17) X (0 : Int32) 10 rfl rfl rfl ?_
  refine r_put (pc' := 20) (ws' := wBD G h h_firms h_kindsTold h_places h_crowds h_pipsLeft h_notHome i1 i2 (0 : Int32) (0 : Int32) S0_thrower S0_cube S0_owner S0_firms S0_kindsTold S0_places S0_crowds S0_pipsLeft S0_notHome) X Y 11 rfl rfl fRX2_44 0 rfl rfl rfl (Nat.le_of_ble_eq_true rfl) rfl (fun H locs Y => ?_)
  refine r_aload_n (pc' := 21) X hl 0 rfl rfl 12 rfl rfl ?_
  refine r_iconst (pc' := 22) X (0 : Int32) 13 rfl rfl rfl ?_
  refine r_put (pc' := 25) (ws' := wBD G h h_firms h_kindsTold h_places h_crowds h_pipsLeft h_notHome i1 i2 (0 : Int32) (0 : Int32) (0 : Int32) S0_cube S0_owner S0_firms S0_kindsTold S0_places S0_crowds S0_pipsLeft S0_notHome) X Y 14 rfl rfl fRX2_47 0 rfl rfl rfl (Nat.le_of_ble_eq_true rfl) rfl (fun H locs Y => ?_)
  refine r_aload_n (pc' := 26) X hl 0 rfl rfl 15 rfl rfl ?_
  refine r_iconst (pc' := 27) X (1 : Int32) 16 rfl rfl rfl ?_
  refine r_put (pc' := 30) (ws' := wBD G h h_firms h_kindsTold h_places h_crowds h_pipsLeft h_notHome i1 i2 (0 : Int32) (0 : Int32) (0 : Int32) (1 : Int32) S0_owner S0_firms S0_kindsTold S0_places S0_crowds S0_pipsLeft S0_notHome) X Y 17 rfl rfl fRX2_50 0 rfl rfl rfl (Nat.le_of_ble_eq_true rfl) rfl (fun H locs Y => ?_)
  refine r_aload_n (pc' := 31) X hl 0 rfl rfl 18 rfl rfl ?_
  refine r_ldc (pc' := 33) X mw63 19 rfl rfl ?_
  refine r_put (pc' := 36) (ws' := wBD G h h_firms h_kindsTold h_places h_crowds h_pipsLeft h_notHome i1 i2 (0 : Int32) (0 : Int32) (0 : Int32) (1 : Int32) (-1000000 : Int32) S0_firms S0_kindsTold S0_places S0_crowds S0_pipsLeft S0_notHome) X Y 20 rfl rfl fRX2_10 0 rfl rfl rfl (Nat.le_of_ble_eq_true rfl) rfl (fun H locs Y => ?_)
  refine r_aload_n (pc' := 37) X hl 0 rfl rfl 21 rfl rfl ?_
  refine r_get (pc' := 40) (v := .ref h_crowds) X Y 22 rfl rfl fRX2_26 0 rfl rfl ?_
  refine r_iconst (pc' := 41) X (0 : Int32) 23 rfl rfl rfl ?_
  refine r_callS (pc' := 44) (As := [.ref h_crowds, .int (0 : Int32)]) (rest := []) (wr := ([(h, .inr (2, [.int i1, .int i2, .int (0 : Int32), .int (0 : Int32), .int (0 : Int32), .int (1 : Int32), .int (-1000000 : Int32), .ref h_firms, .ref h_kindsTold, .ref h_places, .ref h_crowds, .ref h_pipsLeft, .ref h_notHome]))] ++ [(h_firms, .inl (cyI G, 8, .inl S0_firms))] ++ [(h_kindsTold, .inl (cyI G, 8, .inl S0_kindsTold))] ++ [(h_places, .inl (cyI G, 8, .inl S0_places))] ++ [(h_pipsLeft, .inl (cyI G, 2, .inl S0_pipsLeft))] ++ [(h_notHome, .inl (cyI G, 2, .inl S0_notHome))] : va_W)) X Y 24 rfl rfl mRX2_53 (c_J7_fill_53178 l G h_crowds 28 S0_crowds (0 : Int32)) (mB hM hne) rfl [4] [0, 1, 2, 3, 5, 6] [0, 1, 2, 3, 6, 4, 5] rfl rfl ⟨rfl, rfl, rfl⟩ rfl (w2 := fun u1 => wBD G h h_firms h_kindsTold h_places h_crowds h_pipsLeft h_notHome i1 i2 (0 : Int32) (0 : Int32) (0 : Int32) (1 : Int32) (-1000000 : Int32) S0_firms S0_kindsTold S0_places u1 S0_pipsLeft S0_notHome) (fun _ => rfl) rfl (Nat.le_of_ble_eq_true rfl) ⟨rfl, rfl⟩ ⟨Nat.le_of_ble_eq_true rfl, Nat.le_of_ble_eq_true rfl⟩ ⟨Nat.zero_le _, Nat.zero_le _⟩ hl.1 (st' := fun u1 => []) (fun _ => rfl) (fun u1 H locs huu1 Y => ?_)
  replace hM := mS hM huu1
  refine r_aload_n (pc' := 45) X hl 0 rfl rfl 25 rfl rfl ?_
  refine r_get (pc' := 48) (v := .ref h_pipsLeft) X Y 26 rfl rfl fRX2_29 0 rfl rfl ?_
  refine r_iconst (pc' := 49) X (0 : Int32) 27 rfl rfl rfl ?_
  refine r_callS (pc' := 52) (As := [.ref h_pipsLeft, .int (0 : Int32)]) (rest := []) (wr := ([(h, .inr (2, [.int i1, .int i2, .int (0 : Int32), .int (0 : Int32), .int (0 : Int32), .int (1 : Int32), .int (-1000000 : Int32), .ref h_firms, .ref h_kindsTold, .ref h_places, .ref h_crowds, .ref h_pipsLeft, .ref h_notHome]))] ++ [(h_firms, .inl (cyI G, 8, .inl S0_firms))] ++ [(h_kindsTold, .inl (cyI G, 8, .inl S0_kindsTold))] ++ [(h_places, .inl (cyI G, 8, .inl S0_places))] ++ [(h_crowds, .inl (cyI G, 28, .inl u1))] ++ [(h_notHome, .inl (cyI G, 2, .inl S0_notHome))] : va_W)) X Y 28 rfl rfl mRX2_53 (c_J7_fill_53178 l G h_pipsLeft 2 S0_pipsLeft (0 : Int32)) (mB hM hne) rfl [5] [0, 1, 2, 3, 4, 6] [0, 1, 2, 3, 4, 6, 5] rfl rfl ⟨rfl, rfl, rfl⟩ rfl (w2 := fun u2 => wBD G h h_firms h_kindsTold h_places h_crowds h_pipsLeft h_notHome i1 i2 (0 : Int32) (0 : Int32) (0 : Int32) (1 : Int32) (-1000000 : Int32) S0_firms S0_kindsTold S0_places u1 u2 S0_notHome) (fun _ => rfl) rfl (Nat.le_of_ble_eq_true rfl) ⟨rfl, rfl⟩ ⟨Nat.le_of_ble_eq_true rfl, Nat.le_of_ble_eq_true rfl⟩ ⟨Nat.zero_le _, Nat.zero_le _⟩ hl.1 (st' := fun u2 => []) (fun _ => rfl) (fun u2 H locs huu2 Y => ?_)
  replace hM := mS hM huu2
  refine r_aload_n (pc' := 53) X hl 0 rfl rfl 29 rfl rfl ?_
  refine r_get (pc' := 56) (v := .ref h_notHome) X Y 30 rfl rfl fRX2_32 0 rfl rfl ?_
  refine r_iconst (pc' := 57) X (0 : Int32) 31 rfl rfl rfl ?_
  refine r_callS (pc' := 60) (As := [.ref h_notHome, .int (0 : Int32)]) (rest := []) (wr := ([(h, .inr (2, [.int i1, .int i2, .int (0 : Int32), .int (0 : Int32), .int (0 : Int32), .int (1 : Int32), .int (-1000000 : Int32), .ref h_firms, .ref h_kindsTold, .ref h_places, .ref h_crowds, .ref h_pipsLeft, .ref h_notHome]))] ++ [(h_firms, .inl (cyI G, 8, .inl S0_firms))] ++ [(h_kindsTold, .inl (cyI G, 8, .inl S0_kindsTold))] ++ [(h_places, .inl (cyI G, 8, .inl S0_places))] ++ [(h_crowds, .inl (cyI G, 28, .inl u1))] ++ [(h_pipsLeft, .inl (cyI G, 2, .inl u2))] : va_W)) X Y 32 rfl rfl mRX2_53 (c_J7_fill_53178 l G h_notHome 2 S0_notHome (0 : Int32)) (mB hM hne) rfl [6] [0, 1, 2, 3, 4, 5] [0, 1, 2, 3, 4, 5, 6] rfl rfl ⟨rfl, rfl, rfl⟩ rfl (w2 := fun u3 => wBD G h h_firms h_kindsTold h_places h_crowds h_pipsLeft h_notHome i1 i2 (0 : Int32) (0 : Int32) (0 : Int32) (1 : Int32) (-1000000 : Int32) S0_firms S0_kindsTold S0_places u1 u2 u3) (fun _ => rfl) rfl (Nat.le_of_ble_eq_true rfl) ⟨rfl, rfl⟩ ⟨Nat.le_of_ble_eq_true rfl, Nat.le_of_ble_eq_true rfl⟩ ⟨Nat.zero_le _, Nat.zero_le _⟩ hl.1 (st' := fun u3 => []) (fun _ => rfl) (fun u3 H locs huu3 Y => ?_)
  replace hM := mS hM huu3
  exact RT (i1, i2, (0 : Int32), (0 : Int32), (0 : Int32), (1 : Int32), (-1000000 : Int32), S0_firms, S0_kindsTold, S0_places, u1, u2, u3) _ _ _ _ _ hM (Or.inr (Or.inr (Or.inr (Or.inl ⟨rfl, rfl, rfl⟩)))) (X.d (k := 33) rfl) Y

def M_X2_join (S0 : BD) (i1 : Int32) (i2 : Int32) (i3 : Int32) : Option (BD) :=
  (if inb (bd_men S0) 8 = true then ((M_X2_tally ((bd_s_places (bd_s_kindsTold (bd_s_firms (bd_s_men S0 ((bd_men S0) + (1 : Int32))) (upd (bd_firms S0) ((bd_men S0)).toNatClampNeg i2)) (upd (bd_kindsTold S0) ((bd_men S0)).toNatClampNeg i1)) (upd (bd_places S0) ((bd_men S0)).toNatClampNeg i3))) (bd_men S0) (1 : Int32)).bind (fun u2 => (some u2))) else none)
def q_X2_join : Room := { frames := 3, cells := 0, slots := 0, locals := 106 }
set_option maxHeartbeats 4000000 in
set_option maxRecDepth 100000 in
theorem c_X2_join (l : Launch) (G : gT) (h h_firms h_kindsTold h_places h_crowds h_pipsLeft h_notHome : Nat) (S0_points : Int32) (S0_home : Int32) (S0_men : Int32) (S0_turn : Int32) (S0_thrower : Int32) (S0_cube : Int32) (S0_owner : Int32) (S0_firms : Nat → Int32) (S0_kindsTold : Nat → Int32) (S0_places : Nat → Int32) (S0_crowds : Nat → Int32) (S0_pipsLeft : Nat → Int32) (S0_notHome : Nat → Int32) (i1 : Int32) (i2 : Int32) (i3 : Int32) : CT l G yX2_join cX2_join 5 none q_X2_join [.ref h, .int i1, .int i2, .int i3] (wBD G h h_firms h_kindsTold h_places h_crowds h_pipsLeft h_notHome S0_points S0_home S0_men S0_turn S0_thrower S0_cube S0_owner S0_firms S0_kindsTold S0_places S0_crowds S0_pipsLeft S0_notHome) (M_X2_join (S0_points, S0_home, S0_men, S0_turn, S0_thrower, S0_cube, S0_owner, S0_firms, S0_kindsTold, S0_places, S0_crowds, S0_pipsLeft, S0_notHome) i1 i2 i3) (fun u => none) (fun u => wBD G h h_firms h_kindsTold h_places h_crowds h_pipsLeft h_notHome u.1 u.2.1 u.2.2.1 u.2.2.2.1 u.2.2.2.2.1 u.2.2.2.2.2.1 u.2.2.2.2.2.2.1 u.2.2.2.2.2.2.2.1 u.2.2.2.2.2.2.2.2.1 u.2.2.2.2.2.2.2.2.2.1 u.2.2.2.2.2.2.2.2.2.2.1 u.2.2.2.2.2.2.2.2.2.2.2.1 u.2.2.2.2.2.2.2.2.2.2.2.2) := by
  refine CT.of (P := PX2_join) (by decide) dPX2_join (Nat.le_of_ble_eq_true rfl) ?_
  intro p e s m args below meth c A Q ls hne X RT Y hl
  have hl : lv_has ls 5 [(0, .ref h), (1, .int i1), (2, .int i2), (3, .int i3)] := hl
  generalize hM : M_X2_join (S0_points, S0_home, S0_men, S0_turn, S0_thrower, S0_cube, S0_owner, S0_firms, S0_kindsTold, S0_places, S0_crowds, S0_pipsLeft, S0_notHome) i1 i2 i3 = MM at hne RT
  unfold M_X2_join at hM
  refine r_aload_n (pc' := 1) X hl 0 rfl rfl 0 rfl rfl ?_
  refine r_get (pc' := 4) (v := .int S0_men) X Y 1 rfl rfl fRX2_41 0 rfl rfl ?_
  refine r_istore (pc' := 6) (L' := [(4, .int S0_men), (0, .ref h), (1, .int i1), (2, .int i2), (3, .int i3)]) X hl 2 rfl rfl (by decide) rfl (fun ls hl => ?_)
  refine r_aload_n (pc' := 7) X hl 1 rfl rfl 3 rfl rfl ?_
  refine r_get (pc' := 10) (v := .ref h_kindsTold) X Y 4 rfl rfl fRX2_20 0 rfl rfl ?_
  refine r_iload (pc' := 12) X hl 0 rfl 5 rfl rfl ?_
  refine r_iload_n (pc' := 13) X hl 2 rfl rfl 6 rfl rfl ?_
  obtain ⟨g1, hM⟩ := mG hM hne
  refine r_iast (pc' := 14) (ws' := wBD G h h_firms h_kindsTold h_places h_crowds h_pipsLeft h_notHome S0_points S0_home S0_men S0_turn S0_thrower S0_cube S0_owner S0_firms (upd S0_kindsTold (S0_men).toNatClampNeg i1) S0_places S0_crowds S0_pipsLeft S0_notHome) X Y 7 rfl rfl 2 rfl (vin g1) rfl (fun H locs Y => ?_)
  refine r_aload_n (pc' := 15) X hl 1 rfl rfl 8 rfl rfl ?_
  refine r_get (pc' := 18) (v := .ref h_firms) X Y 9 rfl rfl fRX2_16 0 rfl rfl ?_
  refine r_iload (pc' := 20) X hl 0 rfl 10 rfl rfl ?_
  refine r_iload_n (pc' := 21) X hl 3 rfl rfl 11 rfl rfl ?_
  refine r_iast (pc' := 22) (ws' := wBD G h h_firms h_kindsTold h_places h_crowds h_pipsLeft h_notHome S0_points S0_home S0_men S0_turn S0_thrower S0_cube S0_owner (upd S0_firms (S0_men).toNatClampNeg i2) (upd S0_kindsTold (S0_men).toNatClampNeg i1) S0_places S0_crowds S0_pipsLeft S0_notHome) X Y 12 rfl rfl 1 rfl (vin g1) rfl (fun H locs Y => ?_)
  refine r_aload_n (pc' := 23) X hl 1 rfl rfl 13 rfl rfl ?_
  refine r_get (pc' := 26) (v := .ref h_places) X Y 14 rfl rfl fRX2_23 0 rfl rfl ?_
  refine r_iload (pc' := 28) X hl 0 rfl 15 rfl rfl ?_
  refine r_iload_n (pc' := 29) X hl 4 rfl rfl 16 rfl rfl ?_
  refine r_iast (pc' := 30) (ws' := wBD G h h_firms h_kindsTold h_places h_crowds h_pipsLeft h_notHome S0_points S0_home S0_men S0_turn S0_thrower S0_cube S0_owner (upd S0_firms (S0_men).toNatClampNeg i2) (upd S0_kindsTold (S0_men).toNatClampNeg i1) (upd S0_places (S0_men).toNatClampNeg i3) S0_crowds S0_pipsLeft S0_notHome) X Y 17 rfl rfl 3 rfl (vin g1) rfl (fun H locs Y => ?_)
  refine r_aload_n (pc' := 31) X hl 1 rfl rfl 18 rfl rfl ?_
  refine r_dup (pc' := 32) X 19 rfl rfl rfl ?_
  refine r_get (pc' := 35) (v := .int S0_men) X Y 20 rfl rfl fRX2_41 0 rfl rfl ?_
  refine r_iconst (pc' := 36) X (1 : Int32) 21 rfl rfl rfl ?_
  refine r_iadd (pc' := 37) X 22 rfl rfl ?_
  refine r_put (pc' := 40) (ws' := wBD G h h_firms h_kindsTold h_places h_crowds h_pipsLeft h_notHome S0_points S0_home (S0_men + (1 : Int32)) S0_turn S0_thrower S0_cube S0_owner (upd S0_firms (S0_men).toNatClampNeg i2) (upd S0_kindsTold (S0_men).toNatClampNeg i1) (upd S0_places (S0_men).toNatClampNeg i3) S0_crowds S0_pipsLeft S0_notHome) X Y 23 rfl rfl fRX2_41 0 rfl rfl rfl (Nat.le_of_ble_eq_true rfl) rfl (fun H locs Y => ?_)
  refine r_aload_n (pc' := 41) X hl 1 rfl rfl 24 rfl rfl ?_
  refine r_iload (pc' := 43) X hl 0 rfl 25 rfl rfl ?_
  refine r_iconst (pc' := 44) X (1 : Int32) 26 rfl rfl rfl ?_
  refine r_callV (pc' := 47) (As := [.int S0_men, .int (1 : Int32)]) (rest := []) (wr := ([] : va_W)) X Y 27 rfl rfl mRX2_59 (c_X2_tally l G h h_firms h_kindsTold h_places h_crowds h_pipsLeft h_notHome S0_points S0_home ((S0_men + (1 : Int32))) S0_turn S0_thrower S0_cube S0_owner ((upd S0_firms (S0_men).toNatClampNeg i2)) ((upd S0_kindsTold (S0_men).toNatClampNeg i1)) ((upd S0_places (S0_men).toNatClampNeg i3)) S0_crowds S0_pipsLeft S0_notHome S0_men (1 : Int32)) (mB hM hne) 0 rfl rfl [0, 1, 2, 3, 4, 5, 6] [] [0, 1, 2, 3, 4, 5, 6] rfl rfl ⟨rfl, rfl, rfl⟩ rfl (w2 := fun u2 => wBD G h h_firms h_kindsTold h_places h_crowds h_pipsLeft h_notHome u2.1 u2.2.1 u2.2.2.1 u2.2.2.2.1 u2.2.2.2.2.1 u2.2.2.2.2.2.1 u2.2.2.2.2.2.2.1 u2.2.2.2.2.2.2.2.1 u2.2.2.2.2.2.2.2.2.1 u2.2.2.2.2.2.2.2.2.2.1 u2.2.2.2.2.2.2.2.2.2.2.1 u2.2.2.2.2.2.2.2.2.2.2.2.1 u2.2.2.2.2.2.2.2.2.2.2.2.2) (fun _ => rfl) rfl (Nat.le_of_ble_eq_true rfl) ⟨rfl, rfl⟩ ⟨Nat.le_of_ble_eq_true rfl, Nat.le_of_ble_eq_true rfl⟩ ⟨Nat.zero_le _, Nat.zero_le _⟩ hl.1 (st' := fun u2 => []) (fun _ => rfl) (fun u2 H locs huu2 Y => ?_)
  obtain ⟨u2_points, u2_home, u2_men, u2_turn, u2_thrower, u2_cube, u2_owner, u2_firms, u2_kindsTold, u2_places, u2_crowds, u2_pipsLeft, u2_notHome⟩ := u2
  replace Y : rY G A s (wBD G h h_firms h_kindsTold h_places h_crowds h_pipsLeft h_notHome u2_points u2_home u2_men u2_turn u2_thrower u2_cube u2_owner u2_firms u2_kindsTold u2_places u2_crowds u2_pipsLeft u2_notHome) H locs := Y
  replace hM := mS hM huu2
  show W p l e q_X2_join s m args below meth c H locs 0 0 Q (F0 m 47 ls [])
  exact RT (u2_points, u2_home, u2_men, u2_turn, u2_thrower, u2_cube, u2_owner, u2_firms, u2_kindsTold, u2_places, u2_crowds, u2_pipsLeft, u2_notHome) _ _ _ _ _ hM (Or.inr (Or.inr (Or.inr (Or.inl ⟨rfl, rfl, rfl⟩)))) (X.d (k := 28) rfl) Y

def M_X2_copyFrom (S0 : BD) (S1 : BD) : Option (BD) :=
  (some (bd_s_notHome (bd_s_pipsLeft (bd_s_crowds (bd_s_places (bd_s_kindsTold (bd_s_firms S0 (va_cpy (bd_firms S0) (bd_firms S1) ((0 : Int32)).toNatClampNeg ((0 : Int32)).toNatClampNeg ((8 : Int32)).toNatClampNeg)) (va_cpy (bd_kindsTold S0) (bd_kindsTold S1) ((0 : Int32)).toNatClampNeg ((0 : Int32)).toNatClampNeg ((8 : Int32)).toNatClampNeg)) (va_cpy (bd_places S0) (bd_places S1) ((0 : Int32)).toNatClampNeg ((0 : Int32)).toNatClampNeg ((8 : Int32)).toNatClampNeg)) (va_cpy (bd_crowds S0) (bd_crowds S1) ((0 : Int32)).toNatClampNeg ((0 : Int32)).toNatClampNeg ((28 : Int32)).toNatClampNeg)) (va_cpy (bd_pipsLeft S0) (bd_pipsLeft S1) ((0 : Int32)).toNatClampNeg ((0 : Int32)).toNatClampNeg ((2 : Int32)).toNatClampNeg)) (va_cpy (bd_notHome S0) (bd_notHome S1) ((0 : Int32)).toNatClampNeg ((0 : Int32)).toNatClampNeg ((2 : Int32)).toNatClampNeg)))
def q_X2_copyFrom : Room := { frames := 1, cells := 0, slots := 0, locals := 60 }
set_option maxHeartbeats 4000000 in
set_option maxRecDepth 100000 in
theorem c_X2_copyFrom (l : Launch) (G : gT) (h a1 a1_firms a1_kindsTold a1_places a1_crowds a1_pipsLeft a1_notHome h_firms h_kindsTold h_places h_crowds h_pipsLeft h_notHome : Nat) (S0_points : Int32) (S0_home : Int32) (S0_men : Int32) (S0_turn : Int32) (S0_thrower : Int32) (S0_cube : Int32) (S0_owner : Int32) (S0_firms : Nat → Int32) (S0_kindsTold : Nat → Int32) (S0_places : Nat → Int32) (S0_crowds : Nat → Int32) (S0_pipsLeft : Nat → Int32) (S0_notHome : Nat → Int32) (S1_points : Int32) (S1_home : Int32) (S1_men : Int32) (S1_turn : Int32) (S1_thrower : Int32) (S1_cube : Int32) (S1_owner : Int32) (S1_firms : Nat → Int32) (S1_kindsTold : Nat → Int32) (S1_places : Nat → Int32) (S1_crowds : Nat → Int32) (S1_pipsLeft : Nat → Int32) (S1_notHome : Nat → Int32) : CT l G yX2_copyFrom cX2_copyFrom 2 none q_X2_copyFrom [.ref h, .ref a1] (wBD G a1 a1_firms a1_kindsTold a1_places a1_crowds a1_pipsLeft a1_notHome S0_points S0_home S0_men S0_turn S0_thrower S0_cube S0_owner S0_firms S0_kindsTold S0_places S0_crowds S0_pipsLeft S0_notHome ++ wBD G h h_firms h_kindsTold h_places h_crowds h_pipsLeft h_notHome S1_points S1_home S1_men S1_turn S1_thrower S1_cube S1_owner S1_firms S1_kindsTold S1_places S1_crowds S1_pipsLeft S1_notHome) (M_X2_copyFrom (S0_points, S0_home, S0_men, S0_turn, S0_thrower, S0_cube, S0_owner, S0_firms, S0_kindsTold, S0_places, S0_crowds, S0_pipsLeft, S0_notHome) (S1_points, S1_home, S1_men, S1_turn, S1_thrower, S1_cube, S1_owner, S1_firms, S1_kindsTold, S1_places, S1_crowds, S1_pipsLeft, S1_notHome)) (fun u => none) (fun u => wBD G a1 a1_firms a1_kindsTold a1_places a1_crowds a1_pipsLeft a1_notHome S0_points S0_home S0_men S0_turn S0_thrower S0_cube S0_owner S0_firms S0_kindsTold S0_places S0_crowds S0_pipsLeft S0_notHome ++ wBD G h h_firms h_kindsTold h_places h_crowds h_pipsLeft h_notHome u.1 u.2.1 u.2.2.1 u.2.2.2.1 u.2.2.2.2.1 u.2.2.2.2.2.1 u.2.2.2.2.2.2.1 u.2.2.2.2.2.2.2.1 u.2.2.2.2.2.2.2.2.1 u.2.2.2.2.2.2.2.2.2.1 u.2.2.2.2.2.2.2.2.2.2.1 u.2.2.2.2.2.2.2.2.2.2.2.1 u.2.2.2.2.2.2.2.2.2.2.2.2) := by
  refine CT.of (P := PX2_copyFrom) (by decide) dPX2_copyFrom (Nat.le_of_ble_eq_true rfl) ?_
  intro p e s m args below meth c A Q ls hne X RT Y hl
  have hl : lv_has ls 2 [(0, .ref h), (1, .ref a1)] := hl
  generalize hM : M_X2_copyFrom (S0_points, S0_home, S0_men, S0_turn, S0_thrower, S0_cube, S0_owner, S0_firms, S0_kindsTold, S0_places, S0_crowds, S0_pipsLeft, S0_notHome) (S1_points, S1_home, S1_men, S1_turn, S1_thrower, S1_cube, S1_owner, S1_firms, S1_kindsTold, S1_places, S1_crowds, S1_pipsLeft, S1_notHome) = MM at hne RT
  unfold M_X2_copyFrom at hM
  refine r_aload_n (pc' := 1) X hl 0 rfl rfl 0 rfl rfl ?_
  refine r_aload_n (pc' := 2) X hl 1 rfl rfl 1 rfl rfl ?_
  refine r_get (pc' := 5) (v := .int S0_points) X Y 2 rfl rfl fRX2_35 0 rfl rfl ?_
  refine r_put (pc' := 8) (ws' := wBD G a1 a1_firms a1_kindsTold a1_places a1_crowds a1_pipsLeft a1_notHome S0_points S0_home S0_men S0_turn S0_thrower S0_cube S0_owner S0_firms S0_kindsTold S0_places S0_crowds S0_pipsLeft S0_notHome ++ wBD G h h_firms h_kindsTold h_places h_crowds h_pipsLeft h_notHome S0_points S1_home S1_men S1_turn S1_thrower S1_cube S1_owner S1_firms S1_kindsTold S1_places S1_crowds S1_pipsLeft S1_notHome) X Y 3 rfl rfl fRX2_35 7 rfl rfl rfl (Nat.le_of_ble_eq_true rfl) rfl (fun H locs Y => ?_)
  refine r_aload_n (pc' := 9) X hl 0 rfl rfl 4 rfl rfl ?_
  refine r_aload_n (pc' := 10) X hl 1 rfl rfl 5 rfl rfl ?_
  refine r_get (pc' := 13) (v := .int S0_home) X Y 6 rfl rfl fRX2_38 0 rfl rfl ?_
  refine r_put (pc' := 16) (ws' := wBD G a1 a1_firms a1_kindsTold a1_places a1_crowds a1_pipsLeft a1_notHome S0_points S0_home S0_men S0_turn S0_thrower S0_cube S0_owner S0_firms S0_kindsTold S0_places S0_crowds S0_pipsLeft S0_notHome ++ wBD G h h_firms h_kindsTold h_places h_crowds h_pipsLeft h_notHome S0_points S0_home S1_men S1_turn S1_thrower S1_cube S1_owner S1_firms S1_kindsTold S1_places S1_crowds S1_pipsLeft S1_notHome) X Y 7 rfl rfl fRX2_38 7 rfl rfl rfl (Nat.le_of_ble_eq_true rfl) rfl (fun H locs Y => ?_)
  refine r_aload_n (pc' := 17) X hl 0 rfl rfl 8 rfl rfl ?_
  refine r_aload_n (pc' := 18) X hl 1 rfl rfl 9 rfl rfl ?_
  refine r_get (pc' := 21) (v := .int S0_men) X Y 10 rfl rfl fRX2_41 0 rfl rfl ?_
  refine r_put (pc' := 24) (ws' := wBD G a1 a1_firms a1_kindsTold a1_places a1_crowds a1_pipsLeft a1_notHome S0_points S0_home S0_men S0_turn S0_thrower S0_cube S0_owner S0_firms S0_kindsTold S0_places S0_crowds S0_pipsLeft S0_notHome ++ wBD G h h_firms h_kindsTold h_places h_crowds h_pipsLeft h_notHome S0_points S0_home S0_men S1_turn S1_thrower S1_cube S1_owner S1_firms S1_kindsTold S1_places S1_crowds S1_pipsLeft S1_notHome) X Y 11 rfl rfl fRX2_41 7 rfl rfl rfl (Nat.le_of_ble_eq_true rfl) rfl (fun H locs Y => ?_)
  refine r_aload_n (pc' := 25) X hl 0 rfl rfl 12 rfl rfl ?_
  refine r_aload_n (pc' := 26) X hl 1 rfl rfl 13 rfl rfl ?_
  refine r_get (pc' := 29) (v := .int S0_turn) X Y 14 rfl rfl fRX2_44 0 rfl rfl ?_
  refine r_put (pc' := 32) (ws' := wBD G a1 a1_firms a1_kindsTold a1_places a1_crowds a1_pipsLeft a1_notHome S0_points S0_home S0_men S0_turn S0_thrower S0_cube S0_owner S0_firms S0_kindsTold S0_places S0_crowds S0_pipsLeft S0_notHome ++ wBD G h h_firms h_kindsTold h_places h_crowds h_pipsLeft h_notHome S0_points S0_home S0_men S0_turn S1_thrower S1_cube S1_owner S1_firms S1_kindsTold S1_places S1_crowds S1_pipsLeft S1_notHome) X Y 15 rfl rfl fRX2_44 7 rfl rfl rfl (Nat.le_of_ble_eq_true rfl) rfl (fun H locs Y => ?_)
  refine r_aload_n (pc' := 33) X hl 0 rfl rfl 16 rfl rfl ?_
  refine r_aload_n (pc' := 34) X hl 1 rfl rfl 17 rfl rfl ?_
  refine r_get (pc' := 37) (v := .int S0_thrower) X Y 18 rfl rfl fRX2_47 0 rfl rfl ?_
  refine r_put (pc' := 40) (ws' := wBD G a1 a1_firms a1_kindsTold a1_places a1_crowds a1_pipsLeft a1_notHome S0_points S0_home S0_men S0_turn S0_thrower S0_cube S0_owner S0_firms S0_kindsTold S0_places S0_crowds S0_pipsLeft S0_notHome ++ wBD G h h_firms h_kindsTold h_places h_crowds h_pipsLeft h_notHome S0_points S0_home S0_men S0_turn S0_thrower S1_cube S1_owner S1_firms S1_kindsTold S1_places S1_crowds S1_pipsLeft S1_notHome) X Y 19 rfl rfl fRX2_47 7 rfl rfl rfl (Nat.le_of_ble_eq_true rfl) rfl (fun H locs Y => ?_)
  refine r_aload_n (pc' := 41) X hl 0 rfl rfl 20 rfl rfl ?_
  refine r_aload_n (pc' := 42) X hl 1 rfl rfl 21 rfl rfl ?_
  refine r_get (pc' := 45) (v := .int S0_cube) X Y 22 rfl rfl fRX2_50 0 rfl rfl ?_
  refine r_put (pc' := 48) (ws' := wBD G a1 a1_firms a1_kindsTold a1_places a1_crowds a1_pipsLeft a1_notHome S0_points S0_home S0_men S0_turn S0_thrower S0_cube S0_owner S0_firms S0_kindsTold S0_places S0_crowds S0_pipsLeft S0_notHome ++ wBD G h h_firms h_kindsTold h_places h_crowds h_pipsLeft h_notHome S0_points S0_home S0_men S0_turn S0_thrower S0_cube S1_owner S1_firms S1_kindsTold S1_places S1_crowds S1_pipsLeft S1_notHome) X Y 23 rfl rfl fRX2_50 7 rfl rfl rfl (Nat.le_of_ble_eq_true rfl) rfl (fun H locs Y => ?_)
  refine r_aload_n (pc' := 49) X hl 0 rfl rfl 24 rfl rfl ?_
  refine r_aload_n (pc' := 50) X hl 1 rfl rfl 25 rfl rfl ?_
  refine r_get (pc' := 53) (v := .int S0_owner) X Y 26 rfl rfl fRX2_10 0 rfl rfl ?_
  refine r_put (pc' := 56) (ws' := wBD G a1 a1_firms a1_kindsTold a1_places a1_crowds a1_pipsLeft a1_notHome S0_points S0_home S0_men S0_turn S0_thrower S0_cube S0_owner S0_firms S0_kindsTold S0_places S0_crowds S0_pipsLeft S0_notHome ++ wBD G h h_firms h_kindsTold h_places h_crowds h_pipsLeft h_notHome S0_points S0_home S0_men S0_turn S0_thrower S0_cube S0_owner S1_firms S1_kindsTold S1_places S1_crowds S1_pipsLeft S1_notHome) X Y 27 rfl rfl fRX2_10 7 rfl rfl rfl (Nat.le_of_ble_eq_true rfl) rfl (fun H locs Y => ?_)
  refine r_aload_n (pc' := 57) X hl 1 rfl rfl 28 rfl rfl ?_
  refine r_get (pc' := 60) (v := .ref a1_firms) X Y 29 rfl rfl fRX2_16 0 rfl rfl ?_
  refine r_iconst (pc' := 61) X (0 : Int32) 30 rfl rfl rfl ?_
  refine r_aload_n (pc' := 62) X hl 0 rfl rfl 31 rfl rfl ?_
  refine r_get (pc' := 65) (v := .ref h_firms) X Y 32 rfl rfl fRX2_16 7 rfl rfl ?_
  refine r_iconst (pc' := 66) X (0 : Int32) 33 rfl rfl rfl ?_
  refine r_bipush (pc' := 68) X (8 : Int32) 34 rfl rfl rfl ?_
  refine r_copyi (pc' := 71) (ws' := wBD G a1 a1_firms a1_kindsTold a1_places a1_crowds a1_pipsLeft a1_notHome S0_points S0_home S0_men S0_turn S0_thrower S0_cube S0_owner S0_firms S0_kindsTold S0_places S0_crowds S0_pipsLeft S0_notHome ++ wBD G h h_firms h_kindsTold h_places h_crowds h_pipsLeft h_notHome S0_points S0_home S0_men S0_turn S0_thrower S0_cube S0_owner (va_cpy S0_firms S1_firms ((0 : Int32)).toNatClampNeg ((0 : Int32)).toNatClampNeg ((8 : Int32)).toNatClampNeg) S1_kindsTold S1_places S1_crowds S1_pipsLeft S1_notHome) X Y 35 rfl rfl ⟨mw77, mw11, mw12, mw13⟩ 1 8 rfl rfl hl.1 (by decide) ⟨Nat.le_of_ble_eq_true rfl, Nat.le_of_ble_eq_true rfl⟩ rfl (fun H locs Y => ?_)
  refine r_aload_n (pc' := 72) X hl 1 rfl rfl 36 rfl rfl ?_
  refine r_get (pc' := 75) (v := .ref a1_kindsTold) X Y 37 rfl rfl fRX2_20 0 rfl rfl ?_
  refine r_iconst (pc' := 76) X (0 : Int32) 38 rfl rfl rfl ?_
  refine r_aload_n (pc' := 77) X hl 0 rfl rfl 39 rfl rfl ?_
  refine r_get (pc' := 80) (v := .ref h_kindsTold) X Y 40 rfl rfl fRX2_20 7 rfl rfl ?_
  refine r_iconst (pc' := 81) X (0 : Int32) 41 rfl rfl rfl ?_
  refine r_bipush (pc' := 83) X (8 : Int32) 42 rfl rfl rfl ?_
  refine r_copyi (pc' := 86) (ws' := wBD G a1 a1_firms a1_kindsTold a1_places a1_crowds a1_pipsLeft a1_notHome S0_points S0_home S0_men S0_turn S0_thrower S0_cube S0_owner S0_firms S0_kindsTold S0_places S0_crowds S0_pipsLeft S0_notHome ++ wBD G h h_firms h_kindsTold h_places h_crowds h_pipsLeft h_notHome S0_points S0_home S0_men S0_turn S0_thrower S0_cube S0_owner (va_cpy S0_firms S1_firms ((0 : Int32)).toNatClampNeg ((0 : Int32)).toNatClampNeg ((8 : Int32)).toNatClampNeg) (va_cpy S0_kindsTold S1_kindsTold ((0 : Int32)).toNatClampNeg ((0 : Int32)).toNatClampNeg ((8 : Int32)).toNatClampNeg) S1_places S1_crowds S1_pipsLeft S1_notHome) X Y 43 rfl rfl ⟨mw77, mw11, mw12, mw13⟩ 2 9 rfl rfl hl.1 (by decide) ⟨Nat.le_of_ble_eq_true rfl, Nat.le_of_ble_eq_true rfl⟩ rfl (fun H locs Y => ?_)
  refine r_aload_n (pc' := 87) X hl 1 rfl rfl 44 rfl rfl ?_
  refine r_get (pc' := 90) (v := .ref a1_places) X Y 45 rfl rfl fRX2_23 0 rfl rfl ?_
  refine r_iconst (pc' := 91) X (0 : Int32) 46 rfl rfl rfl ?_
  refine r_aload_n (pc' := 92) X hl 0 rfl rfl 47 rfl rfl ?_
  refine r_get (pc' := 95) (v := .ref h_places) X Y 48 rfl rfl fRX2_23 7 rfl rfl ?_
  refine r_iconst (pc' := 96) X (0 : Int32) 49 rfl rfl rfl ?_
  refine r_bipush (pc' := 98) X (8 : Int32) 50 rfl rfl rfl ?_
  refine r_copyi (pc' := 101) (ws' := wBD G a1 a1_firms a1_kindsTold a1_places a1_crowds a1_pipsLeft a1_notHome S0_points S0_home S0_men S0_turn S0_thrower S0_cube S0_owner S0_firms S0_kindsTold S0_places S0_crowds S0_pipsLeft S0_notHome ++ wBD G h h_firms h_kindsTold h_places h_crowds h_pipsLeft h_notHome S0_points S0_home S0_men S0_turn S0_thrower S0_cube S0_owner (va_cpy S0_firms S1_firms ((0 : Int32)).toNatClampNeg ((0 : Int32)).toNatClampNeg ((8 : Int32)).toNatClampNeg) (va_cpy S0_kindsTold S1_kindsTold ((0 : Int32)).toNatClampNeg ((0 : Int32)).toNatClampNeg ((8 : Int32)).toNatClampNeg) (va_cpy S0_places S1_places ((0 : Int32)).toNatClampNeg ((0 : Int32)).toNatClampNeg ((8 : Int32)).toNatClampNeg) S1_crowds S1_pipsLeft S1_notHome) X Y 51 rfl rfl ⟨mw77, mw11, mw12, mw13⟩ 3 10 rfl rfl hl.1 (by decide) ⟨Nat.le_of_ble_eq_true rfl, Nat.le_of_ble_eq_true rfl⟩ rfl (fun H locs Y => ?_)
  refine r_aload_n (pc' := 102) X hl 1 rfl rfl 52 rfl rfl ?_
  refine r_get (pc' := 105) (v := .ref a1_crowds) X Y 53 rfl rfl fRX2_26 0 rfl rfl ?_
  refine r_iconst (pc' := 106) X (0 : Int32) 54 rfl rfl rfl ?_
  refine r_aload_n (pc' := 107) X hl 0 rfl rfl 55 rfl rfl ?_
  refine r_get (pc' := 110) (v := .ref h_crowds) X Y 56 rfl rfl fRX2_26 7 rfl rfl ?_
  refine r_iconst (pc' := 111) X (0 : Int32) 57 rfl rfl rfl ?_
  refine r_bipush (pc' := 113) X (28 : Int32) 58 rfl rfl rfl ?_
  refine r_copyi (pc' := 116) (ws' := wBD G a1 a1_firms a1_kindsTold a1_places a1_crowds a1_pipsLeft a1_notHome S0_points S0_home S0_men S0_turn S0_thrower S0_cube S0_owner S0_firms S0_kindsTold S0_places S0_crowds S0_pipsLeft S0_notHome ++ wBD G h h_firms h_kindsTold h_places h_crowds h_pipsLeft h_notHome S0_points S0_home S0_men S0_turn S0_thrower S0_cube S0_owner (va_cpy S0_firms S1_firms ((0 : Int32)).toNatClampNeg ((0 : Int32)).toNatClampNeg ((8 : Int32)).toNatClampNeg) (va_cpy S0_kindsTold S1_kindsTold ((0 : Int32)).toNatClampNeg ((0 : Int32)).toNatClampNeg ((8 : Int32)).toNatClampNeg) (va_cpy S0_places S1_places ((0 : Int32)).toNatClampNeg ((0 : Int32)).toNatClampNeg ((8 : Int32)).toNatClampNeg) (va_cpy S0_crowds S1_crowds ((0 : Int32)).toNatClampNeg ((0 : Int32)).toNatClampNeg ((28 : Int32)).toNatClampNeg) S1_pipsLeft S1_notHome) X Y 59 rfl rfl ⟨mw77, mw11, mw12, mw13⟩ 4 11 rfl rfl hl.1 (by decide) ⟨Nat.le_of_ble_eq_true rfl, Nat.le_of_ble_eq_true rfl⟩ rfl (fun H locs Y => ?_)
  refine r_aload_n (pc' := 117) X hl 1 rfl rfl 60 rfl rfl ?_
  refine r_get (pc' := 120) (v := .ref a1_pipsLeft) X Y 61 rfl rfl fRX2_29 0 rfl rfl ?_
  refine r_iconst (pc' := 121) X (0 : Int32) 62 rfl rfl rfl ?_
  refine r_aload_n (pc' := 122) X hl 0 rfl rfl 63 rfl rfl ?_
  refine r_get (pc' := 125) (v := .ref h_pipsLeft) X Y 64 rfl rfl fRX2_29 7 rfl rfl ?_
  refine r_iconst (pc' := 126) X (0 : Int32) 65 rfl rfl rfl ?_
  refine r_iconst (pc' := 127) X (2 : Int32) 66 rfl rfl rfl ?_
  refine r_copyi (pc' := 130) (ws' := wBD G a1 a1_firms a1_kindsTold a1_places a1_crowds a1_pipsLeft a1_notHome S0_points S0_home S0_men S0_turn S0_thrower S0_cube S0_owner S0_firms S0_kindsTold S0_places S0_crowds S0_pipsLeft S0_notHome ++ wBD G h h_firms h_kindsTold h_places h_crowds h_pipsLeft h_notHome S0_points S0_home S0_men S0_turn S0_thrower S0_cube S0_owner (va_cpy S0_firms S1_firms ((0 : Int32)).toNatClampNeg ((0 : Int32)).toNatClampNeg ((8 : Int32)).toNatClampNeg) (va_cpy S0_kindsTold S1_kindsTold ((0 : Int32)).toNatClampNeg ((0 : Int32)).toNatClampNeg ((8 : Int32)).toNatClampNeg) (va_cpy S0_places S1_places ((0 : Int32)).toNatClampNeg ((0 : Int32)).toNatClampNeg ((8 : Int32)).toNatClampNeg) (va_cpy S0_crowds S1_crowds ((0 : Int32)).toNatClampNeg ((0 : Int32)).toNatClampNeg ((28 : Int32)).toNatClampNeg) (va_cpy S0_pipsLeft S1_pipsLeft ((0 : Int32)).toNatClampNeg ((0 : Int32)).toNatClampNeg ((2 : Int32)).toNatClampNeg) S1_notHome) X Y 67 rfl rfl ⟨mw77, mw11, mw12, mw13⟩ 5 12 rfl rfl hl.1 (by decide) ⟨Nat.le_of_ble_eq_true rfl, Nat.le_of_ble_eq_true rfl⟩ rfl (fun H locs Y => ?_)
  refine r_aload_n (pc' := 131) X hl 1 rfl rfl 68 rfl rfl ?_
  refine r_get (pc' := 134) (v := .ref a1_notHome) X Y 69 rfl rfl fRX2_32 0 rfl rfl ?_
  refine r_iconst (pc' := 135) X (0 : Int32) 70 rfl rfl rfl ?_
  refine r_aload_n (pc' := 136) X hl 0 rfl rfl 71 rfl rfl ?_
  refine r_get (pc' := 139) (v := .ref h_notHome) X Y 72 rfl rfl fRX2_32 7 rfl rfl ?_
  refine r_iconst (pc' := 140) X (0 : Int32) 73 rfl rfl rfl ?_
  refine r_iconst (pc' := 141) X (2 : Int32) 74 rfl rfl rfl ?_
  refine r_copyi (pc' := 144) (ws' := wBD G a1 a1_firms a1_kindsTold a1_places a1_crowds a1_pipsLeft a1_notHome S0_points S0_home S0_men S0_turn S0_thrower S0_cube S0_owner S0_firms S0_kindsTold S0_places S0_crowds S0_pipsLeft S0_notHome ++ wBD G h h_firms h_kindsTold h_places h_crowds h_pipsLeft h_notHome S0_points S0_home S0_men S0_turn S0_thrower S0_cube S0_owner (va_cpy S0_firms S1_firms ((0 : Int32)).toNatClampNeg ((0 : Int32)).toNatClampNeg ((8 : Int32)).toNatClampNeg) (va_cpy S0_kindsTold S1_kindsTold ((0 : Int32)).toNatClampNeg ((0 : Int32)).toNatClampNeg ((8 : Int32)).toNatClampNeg) (va_cpy S0_places S1_places ((0 : Int32)).toNatClampNeg ((0 : Int32)).toNatClampNeg ((8 : Int32)).toNatClampNeg) (va_cpy S0_crowds S1_crowds ((0 : Int32)).toNatClampNeg ((0 : Int32)).toNatClampNeg ((28 : Int32)).toNatClampNeg) (va_cpy S0_pipsLeft S1_pipsLeft ((0 : Int32)).toNatClampNeg ((0 : Int32)).toNatClampNeg ((2 : Int32)).toNatClampNeg) (va_cpy S0_notHome S1_notHome ((0 : Int32)).toNatClampNeg ((0 : Int32)).toNatClampNeg ((2 : Int32)).toNatClampNeg)) X Y 75 rfl rfl ⟨mw77, mw11, mw12, mw13⟩ 6 13 rfl rfl hl.1 (by decide) ⟨Nat.le_of_ble_eq_true rfl, Nat.le_of_ble_eq_true rfl⟩ rfl (fun H locs Y => ?_)
  exact RT (S0_points, S0_home, S0_men, S0_turn, S0_thrower, S0_cube, S0_owner, (va_cpy S0_firms S1_firms ((0 : Int32)).toNatClampNeg ((0 : Int32)).toNatClampNeg ((8 : Int32)).toNatClampNeg), (va_cpy S0_kindsTold S1_kindsTold ((0 : Int32)).toNatClampNeg ((0 : Int32)).toNatClampNeg ((8 : Int32)).toNatClampNeg), (va_cpy S0_places S1_places ((0 : Int32)).toNatClampNeg ((0 : Int32)).toNatClampNeg ((8 : Int32)).toNatClampNeg), (va_cpy S0_crowds S1_crowds ((0 : Int32)).toNatClampNeg ((0 : Int32)).toNatClampNeg ((28 : Int32)).toNatClampNeg), (va_cpy S0_pipsLeft S1_pipsLeft ((0 : Int32)).toNatClampNeg ((0 : Int32)).toNatClampNeg ((2 : Int32)).toNatClampNeg), (va_cpy S0_notHome S1_notHome ((0 : Int32)).toNatClampNeg ((0 : Int32)).toNatClampNeg ((2 : Int32)).toNatClampNeg)) _ _ _ _ _ hM (Or.inr (Or.inr (Or.inr (Or.inl ⟨rfl, rfl, rfl⟩)))) (X.d (k := 76) rfl) Y

def M_X2_bar (S0 : BD) : Option (Int32) :=
  (some (bd_points S0))
def q_X2_bar : Room := { frames := 1, cells := 0, slots := 0, locals := 60 }
set_option maxHeartbeats 4000000 in
set_option maxRecDepth 100000 in
theorem c_X2_bar (l : Launch) (G : gT) (h h_firms h_kindsTold h_places h_crowds h_pipsLeft h_notHome : Nat) (S0_points : Int32) (S0_home : Int32) (S0_men : Int32) (S0_turn : Int32) (S0_thrower : Int32) (S0_cube : Int32) (S0_owner : Int32) (S0_firms : Nat → Int32) (S0_kindsTold : Nat → Int32) (S0_places : Nat → Int32) (S0_crowds : Nat → Int32) (S0_pipsLeft : Nat → Int32) (S0_notHome : Nat → Int32) : CT l G yX2_bar cX2_bar 1 (some .int) q_X2_bar [.ref h] (wBD G h h_firms h_kindsTold h_places h_crowds h_pipsLeft h_notHome S0_points S0_home S0_men S0_turn S0_thrower S0_cube S0_owner S0_firms S0_kindsTold S0_places S0_crowds S0_pipsLeft S0_notHome) (M_X2_bar (S0_points, S0_home, S0_men, S0_turn, S0_thrower, S0_cube, S0_owner, S0_firms, S0_kindsTold, S0_places, S0_crowds, S0_pipsLeft, S0_notHome)) (fun u => some (.int u)) (fun u => wBD G h h_firms h_kindsTold h_places h_crowds h_pipsLeft h_notHome S0_points S0_home S0_men S0_turn S0_thrower S0_cube S0_owner S0_firms S0_kindsTold S0_places S0_crowds S0_pipsLeft S0_notHome) := by
  refine CT.of (P := PX2_bar) (by decide) dPX2_bar (Nat.le_of_ble_eq_true rfl) ?_
  intro p e s m args below meth c A Q ls hne X RT Y hl
  have hl : lv_has ls 1 [(0, .ref h)] := hl
  generalize hM : M_X2_bar (S0_points, S0_home, S0_men, S0_turn, S0_thrower, S0_cube, S0_owner, S0_firms, S0_kindsTold, S0_places, S0_crowds, S0_pipsLeft, S0_notHome) = MM at hne RT
  unfold M_X2_bar at hM
  refine r_aload_n (pc' := 1) X hl 0 rfl rfl 0 rfl rfl ?_
  refine r_get (pc' := 4) (v := .int S0_points) X Y 1 rfl rfl fRX2_35 0 rfl rfl ?_
  exact RT S0_points _ _ _ _ _ hM (Or.inl ⟨rfl, rfl, _, rfl⟩) (X.d (k := 2) rfl) Y

def M_X2_off (S0 : BD) : Option (Int32) :=
  (some ((bd_points S0) + (1 : Int32)))
def q_X2_off : Room := { frames := 1, cells := 0, slots := 0, locals := 60 }
set_option maxHeartbeats 4000000 in
set_option maxRecDepth 100000 in
theorem c_X2_off (l : Launch) (G : gT) (h h_firms h_kindsTold h_places h_crowds h_pipsLeft h_notHome : Nat) (S0_points : Int32) (S0_home : Int32) (S0_men : Int32) (S0_turn : Int32) (S0_thrower : Int32) (S0_cube : Int32) (S0_owner : Int32) (S0_firms : Nat → Int32) (S0_kindsTold : Nat → Int32) (S0_places : Nat → Int32) (S0_crowds : Nat → Int32) (S0_pipsLeft : Nat → Int32) (S0_notHome : Nat → Int32) : CT l G yX2_off cX2_off 1 (some .int) q_X2_off [.ref h] (wBD G h h_firms h_kindsTold h_places h_crowds h_pipsLeft h_notHome S0_points S0_home S0_men S0_turn S0_thrower S0_cube S0_owner S0_firms S0_kindsTold S0_places S0_crowds S0_pipsLeft S0_notHome) (M_X2_off (S0_points, S0_home, S0_men, S0_turn, S0_thrower, S0_cube, S0_owner, S0_firms, S0_kindsTold, S0_places, S0_crowds, S0_pipsLeft, S0_notHome)) (fun u => some (.int u)) (fun u => wBD G h h_firms h_kindsTold h_places h_crowds h_pipsLeft h_notHome S0_points S0_home S0_men S0_turn S0_thrower S0_cube S0_owner S0_firms S0_kindsTold S0_places S0_crowds S0_pipsLeft S0_notHome) := by
  refine CT.of (P := PX2_off) (by decide) dPX2_off (Nat.le_of_ble_eq_true rfl) ?_
  intro p e s m args below meth c A Q ls hne X RT Y hl
  have hl : lv_has ls 1 [(0, .ref h)] := hl
  generalize hM : M_X2_off (S0_points, S0_home, S0_men, S0_turn, S0_thrower, S0_cube, S0_owner, S0_firms, S0_kindsTold, S0_places, S0_crowds, S0_pipsLeft, S0_notHome) = MM at hne RT
  unfold M_X2_off at hM
  refine r_aload_n (pc' := 1) X hl 0 rfl rfl 0 rfl rfl ?_
  refine r_get (pc' := 4) (v := .int S0_points) X Y 1 rfl rfl fRX2_35 0 rfl rfl ?_
  refine r_iconst (pc' := 5) X (1 : Int32) 2 rfl rfl rfl ?_
  refine r_iadd (pc' := 6) X 3 rfl rfl ?_
  exact RT (S0_points + (1 : Int32)) _ _ _ _ _ hM (Or.inl ⟨rfl, rfl, _, rfl⟩) (X.d (k := 4) rfl) Y

def M_X2_crowd (S0 : BD) (i1 : Int32) (i2 : Int32) : Option (Int32) :=
  (if inb ((i1 * (14 : Int32)) + i2) 28 = true then (some ((bd_crowds S0) (((i1 * (14 : Int32)) + i2)).toNatClampNeg)) else none)
def q_X2_crowd : Room := { frames := 1, cells := 0, slots := 0, locals := 60 }
set_option maxHeartbeats 4000000 in
set_option maxRecDepth 100000 in
theorem c_X2_crowd (l : Launch) (G : gT) (h h_firms h_kindsTold h_places h_crowds h_pipsLeft h_notHome : Nat) (S0_points : Int32) (S0_home : Int32) (S0_men : Int32) (S0_turn : Int32) (S0_thrower : Int32) (S0_cube : Int32) (S0_owner : Int32) (S0_firms : Nat → Int32) (S0_kindsTold : Nat → Int32) (S0_places : Nat → Int32) (S0_crowds : Nat → Int32) (S0_pipsLeft : Nat → Int32) (S0_notHome : Nat → Int32) (i1 : Int32) (i2 : Int32) : CT l G yX2_crowd cX2_crowd 3 (some .int) q_X2_crowd [.ref h, .int i1, .int i2] (wBD G h h_firms h_kindsTold h_places h_crowds h_pipsLeft h_notHome S0_points S0_home S0_men S0_turn S0_thrower S0_cube S0_owner S0_firms S0_kindsTold S0_places S0_crowds S0_pipsLeft S0_notHome) (M_X2_crowd (S0_points, S0_home, S0_men, S0_turn, S0_thrower, S0_cube, S0_owner, S0_firms, S0_kindsTold, S0_places, S0_crowds, S0_pipsLeft, S0_notHome) i1 i2) (fun u => some (.int u)) (fun u => wBD G h h_firms h_kindsTold h_places h_crowds h_pipsLeft h_notHome S0_points S0_home S0_men S0_turn S0_thrower S0_cube S0_owner S0_firms S0_kindsTold S0_places S0_crowds S0_pipsLeft S0_notHome) := by
  refine CT.of (P := PX2_crowd) (by decide) dPX2_crowd (Nat.le_of_ble_eq_true rfl) ?_
  intro p e s m args below meth c A Q ls hne X RT Y hl
  have hl : lv_has ls 3 [(0, .ref h), (1, .int i1), (2, .int i2)] := hl
  generalize hM : M_X2_crowd (S0_points, S0_home, S0_men, S0_turn, S0_thrower, S0_cube, S0_owner, S0_firms, S0_kindsTold, S0_places, S0_crowds, S0_pipsLeft, S0_notHome) i1 i2 = MM at hne RT
  unfold M_X2_crowd at hM
  refine r_aload_n (pc' := 1) X hl 0 rfl rfl 0 rfl rfl ?_
  refine r_get (pc' := 4) (v := .ref h_crowds) X Y 1 rfl rfl fRX2_26 0 rfl rfl ?_
  refine r_iload_n (pc' := 5) X hl 1 rfl rfl 2 rfl rfl ?_
  refine r_bipush (pc' := 7) X (14 : Int32) 3 rfl rfl rfl ?_
  refine r_imul (pc' := 8) X 4 rfl rfl ?_
  refine r_iload_n (pc' := 9) X hl 2 rfl rfl 5 rfl rfl ?_
  refine r_iadd (pc' := 10) X 6 rfl rfl ?_
  obtain ⟨g1, hM⟩ := mG hM hne
  refine r_iald (pc' := 11) X Y 7 rfl rfl 4 rfl (vin g1) ?_
  exact RT (S0_crowds (((i1 * (14 : Int32)) + i2)).toNatClampNeg) _ _ _ _ _ hM (Or.inl ⟨rfl, rfl, _, rfl⟩) (X.d (k := 8) rfl) Y

def M_X2_lead (S0 : BD) (i1 : Int32) : Option (Int32) :=
  (if inb ((1 : Int32) - i1) 2 = true then (if inb i1 2 = true then (some (((bd_pipsLeft S0) (((1 : Int32) - i1)).toNatClampNeg) - ((bd_pipsLeft S0) (i1).toNatClampNeg))) else none) else none)
def q_X2_lead : Room := { frames := 1, cells := 0, slots := 0, locals := 60 }
set_option maxHeartbeats 4000000 in
set_option maxRecDepth 100000 in
theorem c_X2_lead (l : Launch) (G : gT) (h h_firms h_kindsTold h_places h_crowds h_pipsLeft h_notHome : Nat) (S0_points : Int32) (S0_home : Int32) (S0_men : Int32) (S0_turn : Int32) (S0_thrower : Int32) (S0_cube : Int32) (S0_owner : Int32) (S0_firms : Nat → Int32) (S0_kindsTold : Nat → Int32) (S0_places : Nat → Int32) (S0_crowds : Nat → Int32) (S0_pipsLeft : Nat → Int32) (S0_notHome : Nat → Int32) (i1 : Int32) : CT l G yX2_lead cX2_lead 2 (some .int) q_X2_lead [.ref h, .int i1] (wBD G h h_firms h_kindsTold h_places h_crowds h_pipsLeft h_notHome S0_points S0_home S0_men S0_turn S0_thrower S0_cube S0_owner S0_firms S0_kindsTold S0_places S0_crowds S0_pipsLeft S0_notHome) (M_X2_lead (S0_points, S0_home, S0_men, S0_turn, S0_thrower, S0_cube, S0_owner, S0_firms, S0_kindsTold, S0_places, S0_crowds, S0_pipsLeft, S0_notHome) i1) (fun u => some (.int u)) (fun u => wBD G h h_firms h_kindsTold h_places h_crowds h_pipsLeft h_notHome S0_points S0_home S0_men S0_turn S0_thrower S0_cube S0_owner S0_firms S0_kindsTold S0_places S0_crowds S0_pipsLeft S0_notHome) := by
  refine CT.of (P := PX2_lead) (by decide) dPX2_lead (Nat.le_of_ble_eq_true rfl) ?_
  intro p e s m args below meth c A Q ls hne X RT Y hl
  have hl : lv_has ls 2 [(0, .ref h), (1, .int i1)] := hl
  generalize hM : M_X2_lead (S0_points, S0_home, S0_men, S0_turn, S0_thrower, S0_cube, S0_owner, S0_firms, S0_kindsTold, S0_places, S0_crowds, S0_pipsLeft, S0_notHome) i1 = MM at hne RT
  unfold M_X2_lead at hM
  refine r_aload_n (pc' := 1) X hl 0 rfl rfl 0 rfl rfl ?_
  refine r_get (pc' := 4) (v := .ref h_pipsLeft) X Y 1 rfl rfl fRX2_29 0 rfl rfl ?_
  refine r_iconst (pc' := 5) X (1 : Int32) 2 rfl rfl rfl ?_
  refine r_iload_n (pc' := 6) X hl 1 rfl rfl 3 rfl rfl ?_
  refine r_isub (pc' := 7) X 4 rfl rfl ?_
  obtain ⟨g1, hM⟩ := mG hM hne
  refine r_iald (pc' := 8) X Y 5 rfl rfl 5 rfl (vin g1) ?_
  refine r_aload_n (pc' := 9) X hl 0 rfl rfl 6 rfl rfl ?_
  refine r_get (pc' := 12) (v := .ref h_pipsLeft) X Y 7 rfl rfl fRX2_29 0 rfl rfl ?_
  refine r_iload_n (pc' := 13) X hl 1 rfl rfl 8 rfl rfl ?_
  obtain ⟨g2, hM⟩ := mG hM hne
  refine r_iald (pc' := 14) X Y 9 rfl rfl 5 rfl (vin g2) ?_
  refine r_isub (pc' := 15) X 10 rfl rfl ?_
  exact RT ((S0_pipsLeft (((1 : Int32) - i1)).toNatClampNeg) - (S0_pipsLeft (i1).toNatClampNeg)) _ _ _ _ _ hM (Or.inl ⟨rfl, rfl, _, rfl⟩) (X.d (k := 11) rfl) Y

def M_X2_hasMen (S0 : BD) (i1 : Int32) : Option (Int32) :=
  (if inb i1 2 = true then (if 0 < ((bd_pipsLeft S0) (i1).toNatClampNeg) then (some (1 : Int32)) else ((M_X2_off S0).bind (fun u3 => ((M_X2_crowd S0 i1 u3).bind (fun u4 => (if u4 ≤ 0 then (some (0 : Int32)) else (some (1 : Int32)))))))) else none)
def q_X2_hasMen : Room := { frames := 2, cells := 0, slots := 0, locals := 82 }
set_option maxHeartbeats 4000000 in
set_option maxRecDepth 100000 in
theorem c_X2_hasMen (l : Launch) (G : gT) (h h_firms h_kindsTold h_places h_crowds h_pipsLeft h_notHome : Nat) (S0_points : Int32) (S0_home : Int32) (S0_men : Int32) (S0_turn : Int32) (S0_thrower : Int32) (S0_cube : Int32) (S0_owner : Int32) (S0_firms : Nat → Int32) (S0_kindsTold : Nat → Int32) (S0_places : Nat → Int32) (S0_crowds : Nat → Int32) (S0_pipsLeft : Nat → Int32) (S0_notHome : Nat → Int32) (i1 : Int32) : CT l G yX2_hasMen cX2_hasMen 2 (some .boolean) q_X2_hasMen [.ref h, .int i1] (wBD G h h_firms h_kindsTold h_places h_crowds h_pipsLeft h_notHome S0_points S0_home S0_men S0_turn S0_thrower S0_cube S0_owner S0_firms S0_kindsTold S0_places S0_crowds S0_pipsLeft S0_notHome) (M_X2_hasMen (S0_points, S0_home, S0_men, S0_turn, S0_thrower, S0_cube, S0_owner, S0_firms, S0_kindsTold, S0_places, S0_crowds, S0_pipsLeft, S0_notHome) i1) (fun u => some (.int u)) (fun u => wBD G h h_firms h_kindsTold h_places h_crowds h_pipsLeft h_notHome S0_points S0_home S0_men S0_turn S0_thrower S0_cube S0_owner S0_firms S0_kindsTold S0_places S0_crowds S0_pipsLeft S0_notHome) := by
  refine CT.of (P := PX2_hasMen) (by decide) dPX2_hasMen (Nat.le_of_ble_eq_true rfl) ?_
  intro p e s m args below meth c A Q ls hne X RT Y hl
  have hl : lv_has ls 2 [(0, .ref h), (1, .int i1)] := hl
  generalize hM : M_X2_hasMen (S0_points, S0_home, S0_men, S0_turn, S0_thrower, S0_cube, S0_owner, S0_firms, S0_kindsTold, S0_places, S0_crowds, S0_pipsLeft, S0_notHome) i1 = MM at hne RT
  unfold M_X2_hasMen at hM
  refine r_aload_n (pc' := 1) X hl 0 rfl rfl 0 rfl rfl ?_
  refine r_get (pc' := 4) (v := .ref h_pipsLeft) X Y 1 rfl rfl fRX2_29 0 rfl rfl ?_
  refine r_iload_n (pc' := 5) X hl 1 rfl rfl 2 rfl rfl ?_
  obtain ⟨g1, hM⟩ := mG hM hne
  refine r_iald (pc' := 6) X Y 3 rfl rfl 5 rfl (vin g1) ?_
  refine r_if_gt (pc' := 9) X 21 4 rfl rfl (by decide) (fun c2 => ?_) (fun c2 => ?_)
  · replace hM := mI hM c2
    refine r_iconst (pc' := 22) X (1 : Int32) 11 rfl rfl rfl ?_
    refine r_goto X 26 12 rfl (by decide) ?_
    exact RT (1 : Int32) _ _ _ _ _ hM (Or.inr (Or.inl ⟨rfl, rfl, _, rfl, nb (Or.inr rfl)⟩)) (X.d (k := 14) rfl) Y
  · replace hM := mE hM c2
    refine r_aload_n (pc' := 10) X hl 0 rfl rfl 5 rfl rfl ?_
    refine r_iload_n (pc' := 11) X hl 1 rfl rfl 6 rfl rfl ?_
    refine r_aload_n (pc' := 12) X hl 0 rfl rfl 7 rfl rfl ?_
    refine r_callV0 (pc' := 15) (As := []) (rest := [.int i1, .ref h]) X Y 8 rfl rfl mRX2_73 (c_X2_off l G h h_firms h_kindsTold h_places h_crowds h_pipsLeft h_notHome S0_points S0_home S0_men S0_turn S0_thrower S0_cube S0_owner S0_firms S0_kindsTold S0_places S0_crowds S0_pipsLeft S0_notHome) (mB hM hne) 0 rfl rfl [0, 1, 2, 3, 4, 5, 6] rfl rfl rfl (Nat.le_of_ble_eq_true rfl) ⟨rfl, rfl⟩ ⟨Nat.le_of_ble_eq_true rfl, Nat.le_of_ble_eq_true rfl⟩ ⟨Nat.zero_le _, Nat.zero_le _⟩ hl.1 (st' := fun u3 => [.int u3, .int i1, .ref h]) (fun _ => rfl) (fun u3 H locs huu3 Y => ?_)
    replace hM := mS hM huu3
    refine r_callV0 (pc' := 18) (As := [.int i1, .int u3]) (rest := []) X Y 9 rfl rfl mRX2_77 (c_X2_crowd l G h h_firms h_kindsTold h_places h_crowds h_pipsLeft h_notHome S0_points S0_home S0_men S0_turn S0_thrower S0_cube S0_owner S0_firms S0_kindsTold S0_places S0_crowds S0_pipsLeft S0_notHome i1 u3) (mB hM hne) 0 rfl rfl [0, 1, 2, 3, 4, 5, 6] rfl rfl rfl (Nat.le_of_ble_eq_true rfl) ⟨rfl, rfl⟩ ⟨Nat.le_of_ble_eq_true rfl, Nat.le_of_ble_eq_true rfl⟩ ⟨Nat.zero_le _, Nat.zero_le _⟩ hl.1 (st' := fun u4 => [.int u4]) (fun _ => rfl) (fun u4 H locs huu4 Y => ?_)
    replace hM := mS hM huu4
    refine r_if_le (pc' := 21) X 25 10 rfl rfl (by decide) (fun c5 => ?_) (fun c5 => ?_)
    · replace hM := mI hM c5
      refine r_iconst (pc' := 26) X (0 : Int32) 13 rfl rfl rfl ?_
      exact RT (0 : Int32) _ _ _ _ _ hM (Or.inr (Or.inl ⟨rfl, rfl, _, rfl, nb (Or.inl rfl)⟩)) (X.d (k := 14) rfl) Y
    · replace hM := mE hM c5
      refine r_iconst (pc' := 22) X (1 : Int32) 11 rfl rfl rfl ?_
      refine r_goto X 26 12 rfl (by decide) ?_
      exact RT (1 : Int32) _ _ _ _ _ hM (Or.inr (Or.inl ⟨rfl, rfl, _, rfl, nb (Or.inr rfl)⟩)) (X.d (k := 14) rfl) Y

def M_X2_hasWon (S0 : BD) (i1 : Int32) : Option (Int32) :=
  (if inb i1 2 = true then (if ((bd_pipsLeft S0) (i1).toNatClampNeg) = 0 then ((M_X2_off S0).bind (fun u3 => ((M_X2_crowd S0 i1 u3).bind (fun u4 => (if u4 ≤ 0 then (some (0 : Int32)) else (some (1 : Int32))))))) else (some (0 : Int32))) else none)
def q_X2_hasWon : Room := { frames := 2, cells := 0, slots := 0, locals := 82 }
set_option maxHeartbeats 4000000 in
set_option maxRecDepth 100000 in
theorem c_X2_hasWon (l : Launch) (G : gT) (h h_firms h_kindsTold h_places h_crowds h_pipsLeft h_notHome : Nat) (S0_points : Int32) (S0_home : Int32) (S0_men : Int32) (S0_turn : Int32) (S0_thrower : Int32) (S0_cube : Int32) (S0_owner : Int32) (S0_firms : Nat → Int32) (S0_kindsTold : Nat → Int32) (S0_places : Nat → Int32) (S0_crowds : Nat → Int32) (S0_pipsLeft : Nat → Int32) (S0_notHome : Nat → Int32) (i1 : Int32) : CT l G yX2_hasWon cX2_hasWon 2 (some .boolean) q_X2_hasWon [.ref h, .int i1] (wBD G h h_firms h_kindsTold h_places h_crowds h_pipsLeft h_notHome S0_points S0_home S0_men S0_turn S0_thrower S0_cube S0_owner S0_firms S0_kindsTold S0_places S0_crowds S0_pipsLeft S0_notHome) (M_X2_hasWon (S0_points, S0_home, S0_men, S0_turn, S0_thrower, S0_cube, S0_owner, S0_firms, S0_kindsTold, S0_places, S0_crowds, S0_pipsLeft, S0_notHome) i1) (fun u => some (.int u)) (fun u => wBD G h h_firms h_kindsTold h_places h_crowds h_pipsLeft h_notHome S0_points S0_home S0_men S0_turn S0_thrower S0_cube S0_owner S0_firms S0_kindsTold S0_places S0_crowds S0_pipsLeft S0_notHome) := by
  refine CT.of (P := PX2_hasWon) (by decide) dPX2_hasWon (Nat.le_of_ble_eq_true rfl) ?_
  intro p e s m args below meth c A Q ls hne X RT Y hl
  have hl : lv_has ls 2 [(0, .ref h), (1, .int i1)] := hl
  generalize hM : M_X2_hasWon (S0_points, S0_home, S0_men, S0_turn, S0_thrower, S0_cube, S0_owner, S0_firms, S0_kindsTold, S0_places, S0_crowds, S0_pipsLeft, S0_notHome) i1 = MM at hne RT
  unfold M_X2_hasWon at hM
  refine r_aload_n (pc' := 1) X hl 0 rfl rfl 0 rfl rfl ?_
  refine r_get (pc' := 4) (v := .ref h_pipsLeft) X Y 1 rfl rfl fRX2_29 0 rfl rfl ?_
  refine r_iload_n (pc' := 5) X hl 1 rfl rfl 2 rfl rfl ?_
  obtain ⟨g1, hM⟩ := mG hM hne
  refine r_iald (pc' := 6) X Y 3 rfl rfl 5 rfl (vin g1) ?_
  refine r_if_ne (pc' := 9) X 25 4 rfl rfl (by decide) (fun c2 => ?_) (fun c2 => ?_)
  · replace hM := mE hM c2
    refine r_iconst (pc' := 26) X (0 : Int32) 13 rfl rfl rfl ?_
    exact RT (0 : Int32) _ _ _ _ _ hM (Or.inr (Or.inl ⟨rfl, rfl, _, rfl, nb (Or.inl rfl)⟩)) (X.d (k := 14) rfl) Y
  · replace hM := mI hM c2
    refine r_aload_n (pc' := 10) X hl 0 rfl rfl 5 rfl rfl ?_
    refine r_iload_n (pc' := 11) X hl 1 rfl rfl 6 rfl rfl ?_
    refine r_aload_n (pc' := 12) X hl 0 rfl rfl 7 rfl rfl ?_
    refine r_callV0 (pc' := 15) (As := []) (rest := [.int i1, .ref h]) X Y 8 rfl rfl mRX2_73 (c_X2_off l G h h_firms h_kindsTold h_places h_crowds h_pipsLeft h_notHome S0_points S0_home S0_men S0_turn S0_thrower S0_cube S0_owner S0_firms S0_kindsTold S0_places S0_crowds S0_pipsLeft S0_notHome) (mB hM hne) 0 rfl rfl [0, 1, 2, 3, 4, 5, 6] rfl rfl rfl (Nat.le_of_ble_eq_true rfl) ⟨rfl, rfl⟩ ⟨Nat.le_of_ble_eq_true rfl, Nat.le_of_ble_eq_true rfl⟩ ⟨Nat.zero_le _, Nat.zero_le _⟩ hl.1 (st' := fun u3 => [.int u3, .int i1, .ref h]) (fun _ => rfl) (fun u3 H locs huu3 Y => ?_)
    replace hM := mS hM huu3
    refine r_callV0 (pc' := 18) (As := [.int i1, .int u3]) (rest := []) X Y 9 rfl rfl mRX2_77 (c_X2_crowd l G h h_firms h_kindsTold h_places h_crowds h_pipsLeft h_notHome S0_points S0_home S0_men S0_turn S0_thrower S0_cube S0_owner S0_firms S0_kindsTold S0_places S0_crowds S0_pipsLeft S0_notHome i1 u3) (mB hM hne) 0 rfl rfl [0, 1, 2, 3, 4, 5, 6] rfl rfl rfl (Nat.le_of_ble_eq_true rfl) ⟨rfl, rfl⟩ ⟨Nat.le_of_ble_eq_true rfl, Nat.le_of_ble_eq_true rfl⟩ ⟨Nat.zero_le _, Nat.zero_le _⟩ hl.1 (st' := fun u4 => [.int u4]) (fun _ => rfl) (fun u4 H locs huu4 Y => ?_)
    replace hM := mS hM huu4
    refine r_if_le (pc' := 21) X 25 10 rfl rfl (by decide) (fun c5 => ?_) (fun c5 => ?_)
    · replace hM := mI hM c5
      refine r_iconst (pc' := 26) X (0 : Int32) 13 rfl rfl rfl ?_
      exact RT (0 : Int32) _ _ _ _ _ hM (Or.inr (Or.inl ⟨rfl, rfl, _, rfl, nb (Or.inl rfl)⟩)) (X.d (k := 14) rfl) Y
    · replace hM := mE hM c5
      refine r_iconst (pc' := 22) X (1 : Int32) 11 rfl rfl rfl ?_
      refine r_goto X 26 12 rfl (by decide) ?_
      exact RT (1 : Int32) _ _ _ _ _ hM (Or.inr (Or.inl ⟨rfl, rfl, _, rfl, nb (Or.inr rfl)⟩)) (X.d (k := 14) rfl) Y

def M_X2_winner (S0 : BD) : Option (Int32) :=
  (lp (σ := Int32) (β := Int32) (fun rec1 st1 => (if (2 : Int32) ≤ st1 then (some (-1000000 : Int32)) else ((M_X2_hasWon S0 st1).bind (fun u3 => (if u3 = 0 then (rec1 (st1 + (1 : Int32))) else (some st1)))))) 1000000 (0 : Int32))
def q_X2_winner : Room := { frames := 3, cells := 0, slots := 0, locals := 103 }
set_option maxHeartbeats 4000000 in
set_option maxRecDepth 100000 in
theorem c_X2_winner (l : Launch) (G : gT) (h h_firms h_kindsTold h_places h_crowds h_pipsLeft h_notHome : Nat) (S0_points : Int32) (S0_home : Int32) (S0_men : Int32) (S0_turn : Int32) (S0_thrower : Int32) (S0_cube : Int32) (S0_owner : Int32) (S0_firms : Nat → Int32) (S0_kindsTold : Nat → Int32) (S0_places : Nat → Int32) (S0_crowds : Nat → Int32) (S0_pipsLeft : Nat → Int32) (S0_notHome : Nat → Int32) : CT l G yX2_winner cX2_winner 2 (some .int) q_X2_winner [.ref h] (wBD G h h_firms h_kindsTold h_places h_crowds h_pipsLeft h_notHome S0_points S0_home S0_men S0_turn S0_thrower S0_cube S0_owner S0_firms S0_kindsTold S0_places S0_crowds S0_pipsLeft S0_notHome) (M_X2_winner (S0_points, S0_home, S0_men, S0_turn, S0_thrower, S0_cube, S0_owner, S0_firms, S0_kindsTold, S0_places, S0_crowds, S0_pipsLeft, S0_notHome)) (fun u => some (.int u)) (fun u => wBD G h h_firms h_kindsTold h_places h_crowds h_pipsLeft h_notHome S0_points S0_home S0_men S0_turn S0_thrower S0_cube S0_owner S0_firms S0_kindsTold S0_places S0_crowds S0_pipsLeft S0_notHome) := by
  refine CT.of (P := PX2_winner) (by decide) dPX2_winner (Nat.le_of_ble_eq_true rfl) ?_
  intro p e s m args below meth c A Q ls hne X RT Y hl
  have hl : lv_has ls 2 [(0, .ref h)] := hl
  generalize hM : M_X2_winner (S0_points, S0_home, S0_men, S0_turn, S0_thrower, S0_cube, S0_owner, S0_firms, S0_kindsTold, S0_places, S0_crowds, S0_pipsLeft, S0_notHome) = MM at hne RT
  unfold M_X2_winner at hM
  refine r_iconst (pc' := 1) X (0 : Int32) 0 rfl rfl rfl ?_
  refine r_istore_n (pc' := 2) (L' := [(1, .int (0 : Int32)), (0, .ref h)]) X hl rfl 1 rfl rfl (by decide) rfl (fun ls hl => ?_)
  refine lp_rule (I := fun (st1 : Int32) => ∀ (H : Heap) (locs : List Loc) (ls : Array Slot), rY G A s (wBD G h h_firms h_kindsTold h_places h_crowds h_pipsLeft h_notHome S0_points S0_home S0_men S0_turn S0_thrower S0_cube S0_owner S0_firms S0_kindsTold S0_places S0_crowds S0_pipsLeft S0_notHome) H locs → lv_has ls 2 [(0, .ref h), (1, .int st1)] → W p l e q_X2_winner s m args below meth c H locs 0 0 Q (F0 m 2 ls [])) hne (fun rec1 st1 IH1 hM => ?_) _ _ hM _ _ _ Y (lv_sub hl [1, 0] rfl)
  intro H locs ls Y hl
  refine r_iload_n (pc' := 3) X hl 1 rfl rfl 2 rfl rfl ?_
  refine r_iconst (pc' := 4) X (2 : Int32) 3 rfl rfl rfl ?_
  refine r_icmp_ge (pc' := 7) X 23 4 rfl rfl (by decide) (fun c2 => ?_) (fun c2 => ?_)
  · replace hM := mI hM c2
    refine r_ldc (pc' := 25) X mw63 13 rfl rfl ?_
    exact RT (-1000000 : Int32) _ _ _ _ _ hM (Or.inl ⟨rfl, rfl, _, rfl⟩) (X.d (k := 14) rfl) Y
  · replace hM := mE hM c2
    refine r_aload_n (pc' := 8) X hl 0 rfl rfl 5 rfl rfl ?_
    refine r_iload_n (pc' := 9) X hl 1 rfl rfl 6 rfl rfl ?_
    refine r_callV0 (pc' := 12) (As := [.int st1]) (rest := []) X Y 7 rfl rfl mRX2_81 (c_X2_hasWon l G h h_firms h_kindsTold h_places h_crowds h_pipsLeft h_notHome S0_points S0_home S0_men S0_turn S0_thrower S0_cube S0_owner S0_firms S0_kindsTold S0_places S0_crowds S0_pipsLeft S0_notHome st1) (mB hM hne) 0 rfl rfl [0, 1, 2, 3, 4, 5, 6] rfl rfl rfl (Nat.le_of_ble_eq_true rfl) ⟨rfl, rfl⟩ ⟨Nat.le_of_ble_eq_true rfl, Nat.le_of_ble_eq_true rfl⟩ ⟨Nat.zero_le _, Nat.zero_le _⟩ hl.1 (st' := fun u3 => [.int u3]) (fun _ => rfl) (fun u3 H locs huu3 Y => ?_)
    replace hM := mS hM huu3
    refine r_if_eq (pc' := 15) X 17 8 rfl rfl (by decide) (fun c4 => ?_) (fun c4 => ?_)
    · replace hM := mI hM c4
      refine r_iinc (pc' := 20) (L' := [(1, .int (st1 + (1 : Int32))), (0, .ref h)]) X (st1 + (1 : Int32)) hl 1 rfl rfl 11 rfl rfl (by decide) rfl (fun ls hl => ?_)
      refine r_goto X 2 12 rfl (by decide) ?_
      exact IH1 _ hM _ _ _ Y (lv_sub hl [1, 0] rfl)
    · replace hM := mE hM c4
      refine r_iload_n (pc' := 16) X hl 1 rfl rfl 9 rfl rfl ?_
      exact RT st1 _ _ _ _ _ hM (Or.inl ⟨rfl, rfl, _, rfl⟩) (X.d (k := 10) rfl) Y

def M_X2_menAt (S0 : BD) (i1 : Int32) (i2 : Int32) : Option (Int32) :=
  ((lp (σ := Int32 × Int32) (β := Int32) (fun rec1 st1 => (if (bd_men S0) ≤ st1.2 then (some st1.1) else (if inb st1.2 8 = true then (if ((bd_firms S0) (st1.2).toNatClampNeg) = i1 then (if ((bd_places S0) (st1.2).toNatClampNeg) = i2 then (rec1 ((st1.1 ||| ((1 : Int32) <<< (st1.2 &&& 31))), (st1.2 + (1 : Int32)))) else (rec1 (st1.1, (st1.2 + (1 : Int32))))) else (rec1 (st1.1, (st1.2 + (1 : Int32))))) else none))) 1000000 ((0 : Int32), (0 : Int32))).bind (fun b1 => (some b1)))
def q_X2_menAt : Room := { frames := 1, cells := 0, slots := 0, locals := 60 }
set_option maxHeartbeats 4000000 in
set_option maxRecDepth 100000 in
theorem c_X2_menAt (l : Launch) (G : gT) (h h_firms h_kindsTold h_places h_crowds h_pipsLeft h_notHome : Nat) (S0_points : Int32) (S0_home : Int32) (S0_men : Int32) (S0_turn : Int32) (S0_thrower : Int32) (S0_cube : Int32) (S0_owner : Int32) (S0_firms : Nat → Int32) (S0_kindsTold : Nat → Int32) (S0_places : Nat → Int32) (S0_crowds : Nat → Int32) (S0_pipsLeft : Nat → Int32) (S0_notHome : Nat → Int32) (i1 : Int32) (i2 : Int32) : CT l G yX2_menAt cX2_menAt 5 (some .int) q_X2_menAt [.ref h, .int i1, .int i2] (wBD G h h_firms h_kindsTold h_places h_crowds h_pipsLeft h_notHome S0_points S0_home S0_men S0_turn S0_thrower S0_cube S0_owner S0_firms S0_kindsTold S0_places S0_crowds S0_pipsLeft S0_notHome) (M_X2_menAt (S0_points, S0_home, S0_men, S0_turn, S0_thrower, S0_cube, S0_owner, S0_firms, S0_kindsTold, S0_places, S0_crowds, S0_pipsLeft, S0_notHome) i1 i2) (fun u => some (.int u)) (fun u => wBD G h h_firms h_kindsTold h_places h_crowds h_pipsLeft h_notHome S0_points S0_home S0_men S0_turn S0_thrower S0_cube S0_owner S0_firms S0_kindsTold S0_places S0_crowds S0_pipsLeft S0_notHome) := by
  refine CT.of (P := PX2_menAt) (by decide) dPX2_menAt (Nat.le_of_ble_eq_true rfl) ?_
  intro p e s m args below meth c A Q ls hne X RT Y hl
  have hl : lv_has ls 5 [(0, .ref h), (1, .int i1), (2, .int i2)] := hl
  generalize hM : M_X2_menAt (S0_points, S0_home, S0_men, S0_turn, S0_thrower, S0_cube, S0_owner, S0_firms, S0_kindsTold, S0_places, S0_crowds, S0_pipsLeft, S0_notHome) i1 i2 = MM at hne RT
  unfold M_X2_menAt at hM
  refine r_iconst (pc' := 1) X (0 : Int32) 0 rfl rfl rfl ?_
  refine r_istore_n (pc' := 2) (L' := [(3, .int (0 : Int32)), (0, .ref h), (1, .int i1), (2, .int i2)]) X hl rfl 1 rfl rfl (by decide) rfl (fun ls hl => ?_)
  refine r_iconst (pc' := 3) X (0 : Int32) 2 rfl rfl rfl ?_
  refine r_istore (pc' := 5) (L' := [(4, .int (0 : Int32)), (3, .int (0 : Int32)), (0, .ref h), (1, .int i1), (2, .int i2)]) X hl 3 rfl rfl (by decide) rfl (fun ls hl => ?_)
  obtain ⟨LL1, hL1, hne1, hX1⟩ := mL hM hne
  have KX1 : ∀ (b1 : Int32) (H : Heap) (locs : List Loc) (ls : Array Slot), some b1 = LL1 → rY G A s (wBD G h h_firms h_kindsTold h_places h_crowds h_pipsLeft h_notHome S0_points S0_home S0_men S0_turn S0_thrower S0_cube S0_owner S0_firms S0_kindsTold S0_places S0_crowds S0_pipsLeft S0_notHome) H locs → lv_has ls 5 [(3, .int b1)] → W p l e q_X2_menAt s m args below meth c H locs 0 0 Q (F0 m 49 ls []) := by
    intro b1 H locs ls hM Y hl
    replace hM := hX1 _ hM
    refine r_iload_n (pc' := 50) X hl 0 rfl rfl 28 rfl rfl ?_
    exact RT b1 _ _ _ _ _ hM (Or.inl ⟨rfl, rfl, _, rfl⟩) (X.d (k := 29) rfl) Y
  refine lp_rule (I := fun (st1 : Int32 × Int32) => ∀ (H : Heap) (locs : List Loc) (ls : Array Slot), rY G A s (wBD G h h_firms h_kindsTold h_places h_crowds h_pipsLeft h_notHome S0_points S0_home S0_men S0_turn S0_thrower S0_cube S0_owner S0_firms S0_kindsTold S0_places S0_crowds S0_pipsLeft S0_notHome) H locs → lv_has ls 5 [(0, .ref h), (1, .int i1), (2, .int i2), (3, .int st1.1), (4, .int st1.2)] → W p l e q_X2_menAt s m args below meth c H locs 0 0 Q (F0 m 5 ls [])) hne1 (fun rec1 st1 IH1 hM => ?_) _ _ hL1 _ _ _ Y (lv_sub hl [2, 3, 4, 1, 0] rfl)
  intro H locs ls Y hl
  obtain ⟨st1_1, st1_2⟩ := st1
  replace Y : rY G A s (wBD G h h_firms h_kindsTold h_places h_crowds h_pipsLeft h_notHome S0_points S0_home S0_men S0_turn S0_thrower S0_cube S0_owner S0_firms S0_kindsTold S0_places S0_crowds S0_pipsLeft S0_notHome) H locs := Y
  replace hl : lv_has ls 5 [(0, .ref h), (1, .int i1), (2, .int i2), (3, .int st1_1), (4, .int st1_2)] := hl
  refine r_iload (pc' := 7) X hl 4 rfl 4 rfl rfl ?_
  refine r_aload_n (pc' := 8) X hl 0 rfl rfl 5 rfl rfl ?_
  refine r_get (pc' := 11) (v := .int S0_men) X Y 6 rfl rfl fRX2_41 0 rfl rfl ?_
  refine r_icmp_ge (pc' := 14) X 49 7 rfl rfl (by decide) (fun c2 => ?_) (fun c2 => ?_)
  · replace hM := mI hM c2
    exact KX1 st1_1 _ _ _ hM Y (lv_sub hl [3] rfl)
  · replace hM := mE hM c2
    refine r_aload_n (pc' := 15) X hl 0 rfl rfl 8 rfl rfl ?_
    refine r_get (pc' := 18) (v := .ref h_firms) X Y 9 rfl rfl fRX2_16 0 rfl rfl ?_
    refine r_iload (pc' := 20) X hl 4 rfl 10 rfl rfl ?_
    obtain ⟨g3, hM⟩ := mG hM hne1
    refine r_iald (pc' := 21) X Y 11 rfl rfl 1 rfl (vin g3) ?_
    refine r_iload_n (pc' := 22) X hl 1 rfl rfl 12 rfl rfl ?_
    refine r_icmp_ne (pc' := 25) X 43 13 rfl rfl (by decide) (fun c4 => ?_) (fun c4 => ?_)
    · replace hM := mE hM c4
      refine r_iinc (pc' := 46) (L' := [(4, .int (st1_2 + (1 : Int32))), (0, .ref h), (1, .int i1), (2, .int i2), (3, .int st1_1)]) X (st1_2 + (1 : Int32)) hl 4 rfl rfl 26 rfl rfl (by decide) rfl (fun ls hl => ?_)
      refine r_goto X 5 27 rfl (by decide) ?_
      exact IH1 _ hM _ _ _ Y (lv_sub hl [1, 2, 3, 4, 0] rfl)
    · replace hM := mI hM c4
      refine r_aload_n (pc' := 26) X hl 0 rfl rfl 14 rfl rfl ?_
      refine r_get (pc' := 29) (v := .ref h_places) X Y 15 rfl rfl fRX2_23 0 rfl rfl ?_
      refine r_iload (pc' := 31) X hl 4 rfl 16 rfl rfl ?_
      refine r_iald (pc' := 32) X Y 17 rfl rfl 3 rfl (vin g3) ?_
      refine r_iload_n (pc' := 33) X hl 2 rfl rfl 18 rfl rfl ?_
      refine r_icmp_ne (pc' := 36) X 43 19 rfl rfl (by decide) (fun c5 => ?_) (fun c5 => ?_)
      · replace hM := mE hM c5
        refine r_iinc (pc' := 46) (L' := [(4, .int (st1_2 + (1 : Int32))), (0, .ref h), (1, .int i1), (2, .int i2), (3, .int st1_1)]) X (st1_2 + (1 : Int32)) hl 4 rfl rfl 26 rfl rfl (by decide) rfl (fun ls hl => ?_)
        refine r_goto X 5 27 rfl (by decide) ?_
        exact IH1 _ hM _ _ _ Y (lv_sub hl [1, 2, 3, 4, 0] rfl)
      · replace hM := mI hM c5
        refine r_iload_n (pc' := 37) X hl 3 rfl rfl 20 rfl rfl ?_
        refine r_iconst (pc' := 38) X (1 : Int32) 21 rfl rfl rfl ?_
        refine r_iload (pc' := 40) X hl 4 rfl 22 rfl rfl ?_
        refine r_ishl (pc' := 41) X 23 rfl rfl ?_
        refine r_ior (pc' := 42) X 24 rfl rfl ?_
        refine r_istore_n (pc' := 43) (L' := [(3, .int (st1_1 ||| ((1 : Int32) <<< (st1_2 &&& 31)))), (0, .ref h), (1, .int i1), (2, .int i2), (4, .int st1_2)]) X hl rfl 25 rfl rfl (by decide) rfl (fun ls hl => ?_)
        refine r_iinc (pc' := 46) (L' := [(4, .int (st1_2 + (1 : Int32))), (3, .int (st1_1 ||| ((1 : Int32) <<< (st1_2 &&& 31)))), (0, .ref h), (1, .int i1), (2, .int i2)]) X (st1_2 + (1 : Int32)) hl 4 rfl rfl 26 rfl rfl (by decide) rfl (fun ls hl => ?_)
        refine r_goto X 5 27 rfl (by decide) ?_
        exact IH1 _ hM _ _ _ Y (lv_sub hl [2, 3, 4, 1, 0] rfl)

def M_X2_menInCompany (S0 : BD) (i1 : Int32) : Option (Int32) :=
  ((lp (σ := Int32 × Int32) (β := Int32) (fun rec1 st1 => (if (bd_men S0) ≤ st1.2 then (some st1.1) else (if inb st1.2 8 = true then (if ((bd_firms S0) (st1.2).toNatClampNeg) = i1 then (if (bd_points S0) ≤ ((bd_places S0) (st1.2).toNatClampNeg) then (rec1 (st1.1, (st1.2 + (1 : Int32)))) else ((M_X2_crowd S0 i1 (((bd_places S0) (st1.2).toNatClampNeg))).bind (fun u6 => (if u6 < (2 : Int32) then (rec1 (st1.1, (st1.2 + (1 : Int32)))) else (rec1 ((st1.1 ||| ((1 : Int32) <<< (st1.2 &&& 31))), (st1.2 + (1 : Int32)))))))) else (rec1 (st1.1, (st1.2 + (1 : Int32))))) else none))) 1000000 ((0 : Int32), (0 : Int32))).bind (fun b1 => (some b1)))
def q_X2_menInCompany : Room := { frames := 2, cells := 0, slots := 0, locals := 82 }
set_option maxHeartbeats 4000000 in
set_option maxRecDepth 100000 in
theorem c_X2_menInCompany (l : Launch) (G : gT) (h h_firms h_kindsTold h_places h_crowds h_pipsLeft h_notHome : Nat) (S0_points : Int32) (S0_home : Int32) (S0_men : Int32) (S0_turn : Int32) (S0_thrower : Int32) (S0_cube : Int32) (S0_owner : Int32) (S0_firms : Nat → Int32) (S0_kindsTold : Nat → Int32) (S0_places : Nat → Int32) (S0_crowds : Nat → Int32) (S0_pipsLeft : Nat → Int32) (S0_notHome : Nat → Int32) (i1 : Int32) : CT l G yX2_menInCompany cX2_menInCompany 5 (some .int) q_X2_menInCompany [.ref h, .int i1] (wBD G h h_firms h_kindsTold h_places h_crowds h_pipsLeft h_notHome S0_points S0_home S0_men S0_turn S0_thrower S0_cube S0_owner S0_firms S0_kindsTold S0_places S0_crowds S0_pipsLeft S0_notHome) (M_X2_menInCompany (S0_points, S0_home, S0_men, S0_turn, S0_thrower, S0_cube, S0_owner, S0_firms, S0_kindsTold, S0_places, S0_crowds, S0_pipsLeft, S0_notHome) i1) (fun u => some (.int u)) (fun u => wBD G h h_firms h_kindsTold h_places h_crowds h_pipsLeft h_notHome S0_points S0_home S0_men S0_turn S0_thrower S0_cube S0_owner S0_firms S0_kindsTold S0_places S0_crowds S0_pipsLeft S0_notHome) := by
  refine CT.of (P := PX2_menInCompany) (by decide) dPX2_menInCompany (Nat.le_of_ble_eq_true rfl) ?_
  intro p e s m args below meth c A Q ls hne X RT Y hl
  have hl : lv_has ls 5 [(0, .ref h), (1, .int i1)] := hl
  generalize hM : M_X2_menInCompany (S0_points, S0_home, S0_men, S0_turn, S0_thrower, S0_cube, S0_owner, S0_firms, S0_kindsTold, S0_places, S0_crowds, S0_pipsLeft, S0_notHome) i1 = MM at hne RT
  unfold M_X2_menInCompany at hM
  refine r_iconst (pc' := 1) X (0 : Int32) 0 rfl rfl rfl ?_
  refine r_istore_n (pc' := 2) (L' := [(2, .int (0 : Int32)), (0, .ref h), (1, .int i1)]) X hl rfl 1 rfl rfl (by decide) rfl (fun ls hl => ?_)
  refine r_iconst (pc' := 3) X (0 : Int32) 2 rfl rfl rfl ?_
  refine r_istore_n (pc' := 4) (L' := [(3, .int (0 : Int32)), (2, .int (0 : Int32)), (0, .ref h), (1, .int i1)]) X hl rfl 3 rfl rfl (by decide) rfl (fun ls hl => ?_)
  obtain ⟨LL1, hL1, hne1, hX1⟩ := mL hM hne
  have KX1 : ∀ (b1 : Int32) (H : Heap) (locs : List Loc) (ls : Array Slot), some b1 = LL1 → rY G A s (wBD G h h_firms h_kindsTold h_places h_crowds h_pipsLeft h_notHome S0_points S0_home S0_men S0_turn S0_thrower S0_cube S0_owner S0_firms S0_kindsTold S0_places S0_crowds S0_pipsLeft S0_notHome) H locs → lv_has ls 5 [(2, .int b1)] → W p l e q_X2_menInCompany s m args below meth c H locs 0 0 Q (F0 m 62 ls []) := by
    intro b1 H locs ls hM Y hl
    replace hM := hX1 _ hM
    refine r_iload_n (pc' := 63) X hl 0 rfl rfl 37 rfl rfl ?_
    exact RT b1 _ _ _ _ _ hM (Or.inl ⟨rfl, rfl, _, rfl⟩) (X.d (k := 38) rfl) Y
  refine lp_rule (I := fun (st1 : Int32 × Int32) => ∀ (H : Heap) (locs : List Loc) (ls : Array Slot), rY G A s (wBD G h h_firms h_kindsTold h_places h_crowds h_pipsLeft h_notHome S0_points S0_home S0_men S0_turn S0_thrower S0_cube S0_owner S0_firms S0_kindsTold S0_places S0_crowds S0_pipsLeft S0_notHome) H locs → lv_has ls 5 [(0, .ref h), (1, .int i1), (2, .int st1.1), (3, .int st1.2)] → W p l e q_X2_menInCompany s m args below meth c H locs 0 0 Q (F0 m 4 ls [])) hne1 (fun rec1 st1 IH1 hM => ?_) _ _ hL1 _ _ _ Y (lv_sub hl [2, 3, 1, 0] rfl)
  intro H locs ls Y hl
  obtain ⟨st1_1, st1_2⟩ := st1
  replace Y : rY G A s (wBD G h h_firms h_kindsTold h_places h_crowds h_pipsLeft h_notHome S0_points S0_home S0_men S0_turn S0_thrower S0_cube S0_owner S0_firms S0_kindsTold S0_places S0_crowds S0_pipsLeft S0_notHome) H locs := Y
  replace hl : lv_has ls 5 [(0, .ref h), (1, .int i1), (2, .int st1_1), (3, .int st1_2)] := hl
  refine r_iload_n (pc' := 5) X hl 3 rfl rfl 4 rfl rfl ?_
  refine r_aload_n (pc' := 6) X hl 0 rfl rfl 5 rfl rfl ?_
  refine r_get (pc' := 9) (v := .int S0_men) X Y 6 rfl rfl fRX2_41 0 rfl rfl ?_
  refine r_icmp_ge (pc' := 12) X 62 7 rfl rfl (by decide) (fun c2 => ?_) (fun c2 => ?_)
  · replace hM := mI hM c2
    exact KX1 st1_1 _ _ _ hM Y (lv_sub hl [2] rfl)
  · replace hM := mE hM c2
    refine r_aload_n (pc' := 13) X hl 0 rfl rfl 8 rfl rfl ?_
    refine r_get (pc' := 16) (v := .ref h_places) X Y 9 rfl rfl fRX2_23 0 rfl rfl ?_
    refine r_iload_n (pc' := 17) X hl 3 rfl rfl 10 rfl rfl ?_
    obtain ⟨g3, hM⟩ := mG hM hne1
    refine r_iald (pc' := 18) X Y 11 rfl rfl 3 rfl (vin g3) ?_
    refine r_istore (pc' := 20) (L' := [(4, .int (S0_places (st1_2).toNatClampNeg)), (0, .ref h), (1, .int i1), (2, .int st1_1), (3, .int st1_2)]) X hl 12 rfl rfl (by decide) rfl (fun ls hl => ?_)
    refine r_aload_n (pc' := 21) X hl 1 rfl rfl 13 rfl rfl ?_
    refine r_get (pc' := 24) (v := .ref h_firms) X Y 14 rfl rfl fRX2_16 0 rfl rfl ?_
    refine r_iload_n (pc' := 25) X hl 4 rfl rfl 15 rfl rfl ?_
    refine r_iald (pc' := 26) X Y 16 rfl rfl 1 rfl (vin g3) ?_
    refine r_iload_n (pc' := 27) X hl 2 rfl rfl 17 rfl rfl ?_
    refine r_icmp_ne (pc' := 30) X 56 18 rfl rfl (by decide) (fun c4 => ?_) (fun c4 => ?_)
    · replace hM := mE hM c4
      refine r_iinc (pc' := 59) (L' := [(3, .int (st1_2 + (1 : Int32))), (4, .int (S0_places (st1_2).toNatClampNeg)), (0, .ref h), (1, .int i1), (2, .int st1_1)]) X (st1_2 + (1 : Int32)) hl 4 rfl rfl 35 rfl rfl (by decide) rfl (fun ls hl => ?_)
      refine r_goto X 4 36 rfl (by decide) ?_
      exact IH1 _ hM _ _ _ Y (lv_sub hl [2, 3, 4, 0] rfl)
    · replace hM := mI hM c4
      refine r_iload (pc' := 32) X hl 0 rfl 19 rfl rfl ?_
      refine r_aload_n (pc' := 33) X hl 1 rfl rfl 20 rfl rfl ?_
      refine r_get (pc' := 36) (v := .int S0_points) X Y 21 rfl rfl fRX2_35 0 rfl rfl ?_
      refine r_icmp_ge (pc' := 39) X 56 22 rfl rfl (by decide) (fun c5 => ?_) (fun c5 => ?_)
      · replace hM := mI hM c5
        refine r_iinc (pc' := 59) (L' := [(3, .int (st1_2 + (1 : Int32))), (4, .int (S0_places (st1_2).toNatClampNeg)), (0, .ref h), (1, .int i1), (2, .int st1_1)]) X (st1_2 + (1 : Int32)) hl 4 rfl rfl 35 rfl rfl (by decide) rfl (fun ls hl => ?_)
        refine r_goto X 4 36 rfl (by decide) ?_
        exact IH1 _ hM _ _ _ Y (lv_sub hl [2, 3, 4, 0] rfl)
      · replace hM := mE hM c5
        refine r_aload_n (pc' := 40) X hl 1 rfl rfl 23 rfl rfl ?_
        refine r_iload_n (pc' := 41) X hl 2 rfl rfl 24 rfl rfl ?_
        refine r_iload (pc' := 43) X hl 0 rfl 25 rfl rfl ?_
        refine r_callV0 (pc' := 46) (As := [.int i1, .int (S0_places (st1_2).toNatClampNeg)]) (rest := []) X Y 26 rfl rfl mRX2_77 (c_X2_crowd l G h h_firms h_kindsTold h_places h_crowds h_pipsLeft h_notHome S0_points S0_home S0_men S0_turn S0_thrower S0_cube S0_owner S0_firms S0_kindsTold S0_places S0_crowds S0_pipsLeft S0_notHome i1 ((S0_places (st1_2).toNatClampNeg))) (mB hM hne1) 0 rfl rfl [0, 1, 2, 3, 4, 5, 6] rfl rfl rfl (Nat.le_of_ble_eq_true rfl) ⟨rfl, rfl⟩ ⟨Nat.le_of_ble_eq_true rfl, Nat.le_of_ble_eq_true rfl⟩ ⟨Nat.zero_le _, Nat.zero_le _⟩ hl.1 (st' := fun u6 => [.int u6]) (fun _ => rfl) (fun u6 H locs huu6 Y => ?_)
        replace hM := mS hM huu6
        refine r_iconst (pc' := 47) X (2 : Int32) 27 rfl rfl rfl ?_
        refine r_icmp_lt (pc' := 50) X 56 28 rfl rfl (by decide) (fun c7 => ?_) (fun c7 => ?_)
        · replace hM := mI hM c7
          refine r_iinc (pc' := 59) (L' := [(3, .int (st1_2 + (1 : Int32))), (4, .int (S0_places (st1_2).toNatClampNeg)), (0, .ref h), (1, .int i1), (2, .int st1_1)]) X (st1_2 + (1 : Int32)) hl 4 rfl rfl 35 rfl rfl (by decide) rfl (fun ls hl => ?_)
          refine r_goto X 4 36 rfl (by decide) ?_
          exact IH1 _ hM _ _ _ Y (lv_sub hl [2, 3, 4, 0] rfl)
        · replace hM := mE hM c7
          refine r_iload_n (pc' := 51) X hl 3 rfl rfl 29 rfl rfl ?_
          refine r_iconst (pc' := 52) X (1 : Int32) 30 rfl rfl rfl ?_
          refine r_iload_n (pc' := 53) X hl 4 rfl rfl 31 rfl rfl ?_
          refine r_ishl (pc' := 54) X 32 rfl rfl ?_
          refine r_ior (pc' := 55) X 33 rfl rfl ?_
          refine r_istore_n (pc' := 56) (L' := [(2, .int (st1_1 ||| ((1 : Int32) <<< (st1_2 &&& 31)))), (4, .int (S0_places (st1_2).toNatClampNeg)), (0, .ref h), (1, .int i1), (3, .int st1_2)]) X hl rfl 34 rfl rfl (by decide) rfl (fun ls hl => ?_)
          refine r_iinc (pc' := 59) (L' := [(3, .int (st1_2 + (1 : Int32))), (2, .int (st1_1 ||| ((1 : Int32) <<< (st1_2 &&& 31)))), (4, .int (S0_places (st1_2).toNatClampNeg)), (0, .ref h), (1, .int i1)]) X (st1_2 + (1 : Int32)) hl 4 rfl rfl 35 rfl rfl (by decide) rfl (fun ls hl => ?_)
          refine r_goto X 4 36 rfl (by decide) ?_
          exact IH1 _ hM _ _ _ Y (lv_sub hl [3, 4, 1, 0] rfl)

def M_X2_placeTold (S0 : BD) (i1 : Int32) : Option (Int32) :=
  ((M_X2_off S0).bind (fun u1 => (if i1 = u1 then (some (bd_points S0)) else (some i1))))
def q_X2_placeTold : Room := { frames := 2, cells := 0, slots := 0, locals := 80 }
set_option maxHeartbeats 4000000 in
set_option maxRecDepth 100000 in
theorem c_X2_placeTold (l : Launch) (G : gT) (h h_firms h_kindsTold h_places h_crowds h_pipsLeft h_notHome : Nat) (S0_points : Int32) (S0_home : Int32) (S0_men : Int32) (S0_turn : Int32) (S0_thrower : Int32) (S0_cube : Int32) (S0_owner : Int32) (S0_firms : Nat → Int32) (S0_kindsTold : Nat → Int32) (S0_places : Nat → Int32) (S0_crowds : Nat → Int32) (S0_pipsLeft : Nat → Int32) (S0_notHome : Nat → Int32) (i1 : Int32) : CT l G yX2_placeTold cX2_placeTold 2 (some .int) q_X2_placeTold [.ref h, .int i1] (wBD G h h_firms h_kindsTold h_places h_crowds h_pipsLeft h_notHome S0_points S0_home S0_men S0_turn S0_thrower S0_cube S0_owner S0_firms S0_kindsTold S0_places S0_crowds S0_pipsLeft S0_notHome) (M_X2_placeTold (S0_points, S0_home, S0_men, S0_turn, S0_thrower, S0_cube, S0_owner, S0_firms, S0_kindsTold, S0_places, S0_crowds, S0_pipsLeft, S0_notHome) i1) (fun u => some (.int u)) (fun u => wBD G h h_firms h_kindsTold h_places h_crowds h_pipsLeft h_notHome S0_points S0_home S0_men S0_turn S0_thrower S0_cube S0_owner S0_firms S0_kindsTold S0_places S0_crowds S0_pipsLeft S0_notHome) := by
  refine CT.of (P := PX2_placeTold) (by decide) dPX2_placeTold (Nat.le_of_ble_eq_true rfl) ?_
  intro p e s m args below meth c A Q ls hne X RT Y hl
  have hl : lv_has ls 2 [(0, .ref h), (1, .int i1)] := hl
  generalize hM : M_X2_placeTold (S0_points, S0_home, S0_men, S0_turn, S0_thrower, S0_cube, S0_owner, S0_firms, S0_kindsTold, S0_places, S0_crowds, S0_pipsLeft, S0_notHome) i1 = MM at hne RT
  unfold M_X2_placeTold at hM
  refine r_iload_n (pc' := 1) X hl 1 rfl rfl 0 rfl rfl ?_
  refine r_aload_n (pc' := 2) X hl 0 rfl rfl 1 rfl rfl ?_
  refine r_callV0 (pc' := 5) (As := []) (rest := [.int i1]) X Y 2 rfl rfl mRX2_73 (c_X2_off l G h h_firms h_kindsTold h_places h_crowds h_pipsLeft h_notHome S0_points S0_home S0_men S0_turn S0_thrower S0_cube S0_owner S0_firms S0_kindsTold S0_places S0_crowds S0_pipsLeft S0_notHome) (mB hM hne) 0 rfl rfl [0, 1, 2, 3, 4, 5, 6] rfl rfl rfl (Nat.le_of_ble_eq_true rfl) ⟨rfl, rfl⟩ ⟨Nat.le_of_ble_eq_true rfl, Nat.le_of_ble_eq_true rfl⟩ ⟨Nat.zero_le _, Nat.zero_le _⟩ hl.1 (st' := fun u1 => [.int u1, .int i1]) (fun _ => rfl) (fun u1 H locs huu1 Y => ?_)
  replace hM := mS hM huu1
  refine r_icmp_ne (pc' := 8) X 15 3 rfl rfl (by decide) (fun c2 => ?_) (fun c2 => ?_)
  · replace hM := mE hM c2
    refine r_iload_n (pc' := 16) X hl 1 rfl rfl 7 rfl rfl ?_
    exact RT i1 _ _ _ _ _ hM (Or.inl ⟨rfl, rfl, _, rfl⟩) (X.d (k := 8) rfl) Y
  · replace hM := mI hM c2
    refine r_aload_n (pc' := 9) X hl 0 rfl rfl 4 rfl rfl ?_
    refine r_get (pc' := 12) (v := .int S0_points) X Y 5 rfl rfl fRX2_35 0 rfl rfl ?_
    refine r_goto X 16 6 rfl (by decide) ?_
    exact RT S0_points _ _ _ _ _ hM (Or.inl ⟨rfl, rfl, _, rfl⟩) (X.d (k := 8) rfl) Y

def M_X2_stride (S0 : BD) (i1 : Int32) (i2 : Int32) : Option (Int32) :=
  (if inb i1 8 = true then (if ((bd_kindsTold S0) (i1).toNatClampNeg) = 2 then (some (i2 + (1 : Int32))) else (if ((bd_kindsTold S0) (i1).toNatClampNeg) = 3 then (some ((i2 + (1 : Int32)) / (2 : Int32))) else (some i2))) else none)
def q_X2_stride : Room := { frames := 1, cells := 0, slots := 0, locals := 60 }
set_option maxHeartbeats 4000000 in
set_option maxRecDepth 100000 in
theorem c_X2_stride (l : Launch) (G : gT) (h h_firms h_kindsTold h_places h_crowds h_pipsLeft h_notHome : Nat) (S0_points : Int32) (S0_home : Int32) (S0_men : Int32) (S0_turn : Int32) (S0_thrower : Int32) (S0_cube : Int32) (S0_owner : Int32) (S0_firms : Nat → Int32) (S0_kindsTold : Nat → Int32) (S0_places : Nat → Int32) (S0_crowds : Nat → Int32) (S0_pipsLeft : Nat → Int32) (S0_notHome : Nat → Int32) (i1 : Int32) (i2 : Int32) : CT l G yX2_stride cX2_stride 3 (some .int) q_X2_stride [.ref h, .int i1, .int i2] (wBD G h h_firms h_kindsTold h_places h_crowds h_pipsLeft h_notHome S0_points S0_home S0_men S0_turn S0_thrower S0_cube S0_owner S0_firms S0_kindsTold S0_places S0_crowds S0_pipsLeft S0_notHome) (M_X2_stride (S0_points, S0_home, S0_men, S0_turn, S0_thrower, S0_cube, S0_owner, S0_firms, S0_kindsTold, S0_places, S0_crowds, S0_pipsLeft, S0_notHome) i1 i2) (fun u => some (.int u)) (fun u => wBD G h h_firms h_kindsTold h_places h_crowds h_pipsLeft h_notHome S0_points S0_home S0_men S0_turn S0_thrower S0_cube S0_owner S0_firms S0_kindsTold S0_places S0_crowds S0_pipsLeft S0_notHome) := by
  refine CT.of (P := PX2_stride) (by decide) dPX2_stride (Nat.le_of_ble_eq_true rfl) ?_
  intro p e s m args below meth c A Q ls hne X RT Y hl
  have hl : lv_has ls 3 [(0, .ref h), (1, .int i1), (2, .int i2)] := hl
  generalize hM : M_X2_stride (S0_points, S0_home, S0_men, S0_turn, S0_thrower, S0_cube, S0_owner, S0_firms, S0_kindsTold, S0_places, S0_crowds, S0_pipsLeft, S0_notHome) i1 i2 = MM at hne RT
  unfold M_X2_stride at hM
  refine r_aload_n (pc' := 1) X hl 0 rfl rfl 0 rfl rfl ?_
  refine r_get (pc' := 4) (v := .ref h_kindsTold) X Y 1 rfl rfl fRX2_20 0 rfl rfl ?_
  refine r_iload_n (pc' := 5) X hl 1 rfl rfl 2 rfl rfl ?_
  obtain ⟨g1, hM⟩ := mG hM hne
  refine r_iald (pc' := 6) X Y 3 rfl rfl 2 rfl (vin g1) ?_
  by_cases h2_2 : (S0_kindsTold (i1).toNatClampNeg) = 2
  · replace hM := mI hM h2_2
    refine r_look X 32 4 rfl (by decide) (by first | (rw [h2_2]; done) | (rw [h2_2]; rfl) | (rw [h2_2]; decide)) (by decide) ?_
    refine r_iload_n (pc' := 33) X hl 2 rfl rfl 5 rfl rfl ?_
    refine r_iconst (pc' := 34) X (1 : Int32) 6 rfl rfl rfl ?_
    refine r_iadd (pc' := 35) X 7 rfl rfl ?_
    exact RT (i2 + (1 : Int32)) _ _ _ _ _ hM (Or.inl ⟨rfl, rfl, _, rfl⟩) (X.d (k := 8) rfl) Y
  replace hM := mE hM h2_2
  by_cases h2_3 : (S0_kindsTold (i1).toNatClampNeg) = 3
  · replace hM := mI hM h2_3
    refine r_look X 36 4 rfl (by decide) (by first | (rw [h2_3]; done) | (rw [h2_3]; rfl) | (rw [h2_3]; decide)) (by decide) ?_
    refine r_iload_n (pc' := 37) X hl 2 rfl rfl 9 rfl rfl ?_
    refine r_iconst (pc' := 38) X (1 : Int32) 10 rfl rfl rfl ?_
    refine r_iadd (pc' := 39) X 11 rfl rfl ?_
    refine r_iconst (pc' := 40) X (2 : Int32) 12 rfl rfl rfl ?_
    refine r_idiv (pc' := 41) X 13 rfl rfl (by decide) ?_
    exact RT ((i2 + (1 : Int32)) / (2 : Int32)) _ _ _ _ _ hM (Or.inl ⟨rfl, rfl, _, rfl⟩) (X.d (k := 14) rfl) Y
  replace hM := mE hM h2_3
  refine r_look X 42 4 rfl (by decide) (show Op.lookupswitch.offset [(2, 26), (3, 30)] 36 ((S0_kindsTold (i1).toNatClampNeg)).toInt = 36 from (lv_osw (k := 2) h2_2 rfl).trans ((lv_osw (k := 3) h2_3 rfl).trans (rfl))) (by decide) ?_
  refine r_iload_n (pc' := 43) X hl 2 rfl rfl 15 rfl rfl ?_
  exact RT i2 _ _ _ _ _ hM (Or.inl ⟨rfl, rfl, _, rfl⟩) (X.d (k := 16) rfl) Y

def M_X2_aim (S0 : BD) (i1 : Int32) (i2 : Int32) : Option (Int32) :=
  ((M_X2_pipsOf S0 i1).bind (fun u1 => ((M_X2_stride S0 i1 i2).bind (fun u2 => (if 0 < (u1 - u2) then (if inb i1 8 = true then (if ((bd_firms S0) (i1).toNatClampNeg) = 0 then (some ((bd_points S0) - (u1 - u2))) else (some ((u1 - u2) - (1 : Int32)))) else none) else ((M_X2_off S0).bind (fun u6 => (some u6))))))))
def q_X2_aim : Room := { frames := 2, cells := 0, slots := 0, locals := 82 }
set_option maxHeartbeats 4000000 in
set_option maxRecDepth 100000 in
theorem c_X2_aim (l : Launch) (G : gT) (h h_firms h_kindsTold h_places h_crowds h_pipsLeft h_notHome : Nat) (S0_points : Int32) (S0_home : Int32) (S0_men : Int32) (S0_turn : Int32) (S0_thrower : Int32) (S0_cube : Int32) (S0_owner : Int32) (S0_firms : Nat → Int32) (S0_kindsTold : Nat → Int32) (S0_places : Nat → Int32) (S0_crowds : Nat → Int32) (S0_pipsLeft : Nat → Int32) (S0_notHome : Nat → Int32) (i1 : Int32) (i2 : Int32) : CT l G yX2_aim cX2_aim 4 (some .int) q_X2_aim [.ref h, .int i1, .int i2] (wBD G h h_firms h_kindsTold h_places h_crowds h_pipsLeft h_notHome S0_points S0_home S0_men S0_turn S0_thrower S0_cube S0_owner S0_firms S0_kindsTold S0_places S0_crowds S0_pipsLeft S0_notHome) (M_X2_aim (S0_points, S0_home, S0_men, S0_turn, S0_thrower, S0_cube, S0_owner, S0_firms, S0_kindsTold, S0_places, S0_crowds, S0_pipsLeft, S0_notHome) i1 i2) (fun u => some (.int u)) (fun u => wBD G h h_firms h_kindsTold h_places h_crowds h_pipsLeft h_notHome S0_points S0_home S0_men S0_turn S0_thrower S0_cube S0_owner S0_firms S0_kindsTold S0_places S0_crowds S0_pipsLeft S0_notHome) := by
  refine CT.of (P := PX2_aim) (by decide) dPX2_aim (Nat.le_of_ble_eq_true rfl) ?_
  intro p e s m args below meth c A Q ls hne X RT Y hl
  have hl : lv_has ls 4 [(0, .ref h), (1, .int i1), (2, .int i2)] := hl
  generalize hM : M_X2_aim (S0_points, S0_home, S0_men, S0_turn, S0_thrower, S0_cube, S0_owner, S0_firms, S0_kindsTold, S0_places, S0_crowds, S0_pipsLeft, S0_notHome) i1 i2 = MM at hne RT
  unfold M_X2_aim at hM
  refine r_aload_n (pc' := 1) X hl 0 rfl rfl 0 rfl rfl ?_
  refine r_iload_n (pc' := 2) X hl 1 rfl rfl 1 rfl rfl ?_
  refine r_callV0 (pc' := 5) (As := [.int i1]) (rest := []) X Y 2 rfl rfl mRX2_69 (c_X2_pipsOf l G h h_firms h_kindsTold h_places h_crowds h_pipsLeft h_notHome S0_points S0_home S0_men S0_turn S0_thrower S0_cube S0_owner S0_firms S0_kindsTold S0_places S0_crowds S0_pipsLeft S0_notHome i1) (mB hM hne) 0 rfl rfl [0, 1, 2, 3, 4, 5, 6] rfl rfl rfl (Nat.le_of_ble_eq_true rfl) ⟨rfl, rfl⟩ ⟨Nat.le_of_ble_eq_true rfl, Nat.le_of_ble_eq_true rfl⟩ ⟨Nat.zero_le _, Nat.zero_le _⟩ hl.1 (st' := fun u1 => [.int u1]) (fun _ => rfl) (fun u1 H locs huu1 Y => ?_)
  replace hM := mS hM huu1
  refine r_aload_n (pc' := 6) X hl 0 rfl rfl 3 rfl rfl ?_
  refine r_iload_n (pc' := 7) X hl 1 rfl rfl 4 rfl rfl ?_
  refine r_iload_n (pc' := 8) X hl 2 rfl rfl 5 rfl rfl ?_
  refine r_callV0 (pc' := 11) (As := [.int i1, .int i2]) (rest := [.int u1]) X Y 6 rfl rfl mRX2_85 (c_X2_stride l G h h_firms h_kindsTold h_places h_crowds h_pipsLeft h_notHome S0_points S0_home S0_men S0_turn S0_thrower S0_cube S0_owner S0_firms S0_kindsTold S0_places S0_crowds S0_pipsLeft S0_notHome i1 i2) (mB hM hne) 0 rfl rfl [0, 1, 2, 3, 4, 5, 6] rfl rfl rfl (Nat.le_of_ble_eq_true rfl) ⟨rfl, rfl⟩ ⟨Nat.le_of_ble_eq_true rfl, Nat.le_of_ble_eq_true rfl⟩ ⟨Nat.zero_le _, Nat.zero_le _⟩ hl.1 (st' := fun u2 => [.int u2, .int u1]) (fun _ => rfl) (fun u2 H locs huu2 Y => ?_)
  replace hM := mS hM huu2
  refine r_isub (pc' := 12) X 7 rfl rfl ?_
  refine r_istore_n (pc' := 13) (L' := [(3, .int (u1 - u2)), (0, .ref h), (1, .int i1), (2, .int i2)]) X hl rfl 8 rfl rfl (by decide) rfl (fun ls hl => ?_)
  refine r_iload_n (pc' := 14) X hl 0 rfl rfl 9 rfl rfl ?_
  refine r_if_gt (pc' := 17) X 22 10 rfl rfl (by decide) (fun c3 => ?_) (fun c3 => ?_)
  · replace hM := mI hM c3
    refine r_aload_n (pc' := 23) X hl 1 rfl rfl 14 rfl rfl ?_
    refine r_get (pc' := 26) (v := .ref h_firms) X Y 15 rfl rfl fRX2_16 0 rfl rfl ?_
    refine r_iload_n (pc' := 27) X hl 2 rfl rfl 16 rfl rfl ?_
    obtain ⟨g4, hM⟩ := mG hM hne
    refine r_iald (pc' := 28) X Y 17 rfl rfl 1 rfl (vin g4) ?_
    refine r_if_ne (pc' := 31) X 40 18 rfl rfl (by decide) (fun c5 => ?_) (fun c5 => ?_)
    · replace hM := mE hM c5
      refine r_iload_n (pc' := 41) X hl 0 rfl rfl 24 rfl rfl ?_
      refine r_iconst (pc' := 42) X (1 : Int32) 25 rfl rfl rfl ?_
      refine r_isub (pc' := 43) X 26 rfl rfl ?_
      exact RT ((u1 - u2) - (1 : Int32)) _ _ _ _ _ hM (Or.inl ⟨rfl, rfl, _, rfl⟩) (X.d (k := 27) rfl) Y
    · replace hM := mI hM c5
      refine r_aload_n (pc' := 32) X hl 1 rfl rfl 19 rfl rfl ?_
      refine r_get (pc' := 35) (v := .int S0_points) X Y 20 rfl rfl fRX2_35 0 rfl rfl ?_
      refine r_iload_n (pc' := 36) X hl 0 rfl rfl 21 rfl rfl ?_
      refine r_isub (pc' := 37) X 22 rfl rfl ?_
      refine r_goto X 43 23 rfl (by decide) ?_
      exact RT (S0_points - (u1 - u2)) _ _ _ _ _ hM (Or.inl ⟨rfl, rfl, _, rfl⟩) (X.d (k := 27) rfl) Y
  · replace hM := mE hM c3
    refine r_aload_n (pc' := 18) X hl 1 rfl rfl 11 rfl rfl ?_
    refine r_callV0 (pc' := 21) (As := []) (rest := []) X Y 12 rfl rfl mRX2_73 (c_X2_off l G h h_firms h_kindsTold h_places h_crowds h_pipsLeft h_notHome S0_points S0_home S0_men S0_turn S0_thrower S0_cube S0_owner S0_firms S0_kindsTold S0_places S0_crowds S0_pipsLeft S0_notHome) (mB hM hne) 0 rfl rfl [0, 1, 2, 3, 4, 5, 6] rfl rfl rfl (Nat.le_of_ble_eq_true rfl) ⟨rfl, rfl⟩ ⟨Nat.le_of_ble_eq_true rfl, Nat.le_of_ble_eq_true rfl⟩ ⟨Nat.zero_le _, Nat.zero_le _⟩ hl.1 (st' := fun u6 => [.int u6]) (fun _ => rfl) (fun u6 H locs huu6 Y => ?_)
    replace hM := mS hM huu6
    exact RT u6 _ _ _ _ _ hM (Or.inl ⟨rfl, rfl, _, rfl⟩) (X.d (k := 13) rfl) Y

def M_X2_dares (S0 : BD) (i1 : Int32) (i2 : Int32) : Option (Int32) :=
  (if inb i1 8 = true then ((M_X7_isKind (((bd_kindsTold S0) (i1).toNatClampNeg)) (4 : Int32)).bind (fun u2 => (if u2 = 0 then (some (1 : Int32)) else ((M_X2_bar S0).bind (fun u4 => (if ((bd_places S0) (i1).toNatClampNeg) = u4 then (some (1 : Int32)) else ((M_X2_crowd S0 (((bd_firms S0) (i1).toNatClampNeg)) (((bd_places S0) (i1).toNatClampNeg))).bind (fun u6 => (if (2 : Int32) ≤ u6 then (some (1 : Int32)) else ((M_X2_crowd S0 (((bd_firms S0) (i1).toNatClampNeg)) i2).bind (fun u8 => (if u8 < (1 : Int32) then (if ((bd_kindsTold S0) (i1).toNatClampNeg) = (5 : Int32) then ((M_X2_crowd S0 (((1 : Int32) - ((bd_firms S0) (i1).toNatClampNeg))) i2).bind (fun u11 => (if u11 = (1 : Int32) then (some (1 : Int32)) else (some (0 : Int32))))) else (some (0 : Int32))) else (some (1 : Int32)))))))))))))) else none)
def q_X2_dares : Room := { frames := 2, cells := 0, slots := 0, locals := 83 }
set_option maxHeartbeats 4000000 in
set_option maxRecDepth 100000 in
theorem c_X2_dares (l : Launch) (G : gT) (h h_firms h_kindsTold h_places h_crowds h_pipsLeft h_notHome : Nat) (S0_points : Int32) (S0_home : Int32) (S0_men : Int32) (S0_turn : Int32) (S0_thrower : Int32) (S0_cube : Int32) (S0_owner : Int32) (S0_firms : Nat → Int32) (S0_kindsTold : Nat → Int32) (S0_places : Nat → Int32) (S0_crowds : Nat → Int32) (S0_pipsLeft : Nat → Int32) (S0_notHome : Nat → Int32) (i1 : Int32) (i2 : Int32) : CT l G yX2_dares cX2_dares 6 (some .boolean) q_X2_dares [.ref h, .int i1, .int i2] (wBD G h h_firms h_kindsTold h_places h_crowds h_pipsLeft h_notHome S0_points S0_home S0_men S0_turn S0_thrower S0_cube S0_owner S0_firms S0_kindsTold S0_places S0_crowds S0_pipsLeft S0_notHome) (M_X2_dares (S0_points, S0_home, S0_men, S0_turn, S0_thrower, S0_cube, S0_owner, S0_firms, S0_kindsTold, S0_places, S0_crowds, S0_pipsLeft, S0_notHome) i1 i2) (fun u => some (.int u)) (fun u => wBD G h h_firms h_kindsTold h_places h_crowds h_pipsLeft h_notHome S0_points S0_home S0_men S0_turn S0_thrower S0_cube S0_owner S0_firms S0_kindsTold S0_places S0_crowds S0_pipsLeft S0_notHome) := by
  refine CT.of (P := PX2_dares) (by decide) dPX2_dares (Nat.le_of_ble_eq_true rfl) ?_
  intro p e s m args below meth c A Q ls hne X RT Y hl
  have hl : lv_has ls 6 [(0, .ref h), (1, .int i1), (2, .int i2)] := hl
  generalize hM : M_X2_dares (S0_points, S0_home, S0_men, S0_turn, S0_thrower, S0_cube, S0_owner, S0_firms, S0_kindsTold, S0_places, S0_crowds, S0_pipsLeft, S0_notHome) i1 i2 = MM at hne RT
  unfold M_X2_dares at hM
  refine r_aload_n (pc' := 1) X hl 0 rfl rfl 0 rfl rfl ?_
  refine r_get (pc' := 4) (v := .ref h_kindsTold) X Y 1 rfl rfl fRX2_20 0 rfl rfl ?_
  refine r_iload_n (pc' := 5) X hl 1 rfl rfl 2 rfl rfl ?_
  obtain ⟨g1, hM⟩ := mG hM hne
  refine r_iald (pc' := 6) X Y 3 rfl rfl 2 rfl (vin g1) ?_
  refine r_istore_n (pc' := 7) (L' := [(3, .int (S0_kindsTold (i1).toNatClampNeg)), (0, .ref h), (1, .int i1), (2, .int i2)]) X hl rfl 4 rfl rfl (by decide) rfl (fun ls hl => ?_)
  refine r_iload_n (pc' := 8) X hl 0 rfl rfl 5 rfl rfl ?_
  refine r_iconst (pc' := 9) X (4 : Int32) 6 rfl rfl rfl ?_
  refine r_callSN0 (pc' := 12) (As := [.int (S0_kindsTold (i1).toNatClampNeg), .int (4 : Int32)]) (rest := []) X Y 7 rfl rfl mRX2_98 (c_X7_isKind l G ((S0_kindsTold (i1).toNatClampNeg)) (4 : Int32)) (mB hM hne) rfl [] rfl rfl rfl (Nat.le_of_ble_eq_true rfl) ⟨rfl, rfl⟩ ⟨Nat.le_of_ble_eq_true rfl, Nat.le_of_ble_eq_true rfl⟩ ⟨Nat.zero_le _, Nat.zero_le _⟩ hl.1 (st' := fun u2 => [.int u2]) (fun _ => rfl) (fun u2 H locs huu2 Y => ?_)
  replace hM := mS hM huu2
  refine r_if_ne (pc' := 15) X 17 8 rfl rfl (by decide) (fun c3 => ?_) (fun c3 => ?_)
  · replace hM := mE hM c3
    refine r_aload_n (pc' := 18) X hl 1 rfl rfl 11 rfl rfl ?_
    refine r_get (pc' := 21) (v := .ref h_firms) X Y 12 rfl rfl fRX2_16 0 rfl rfl ?_
    refine r_iload_n (pc' := 22) X hl 2 rfl rfl 13 rfl rfl ?_
    refine r_iald (pc' := 23) X Y 14 rfl rfl 1 rfl (vin g1) ?_
    refine r_istore (pc' := 25) (L' := [(4, .int (S0_firms (i1).toNatClampNeg)), (3, .int (S0_kindsTold (i1).toNatClampNeg)), (0, .ref h), (1, .int i1), (2, .int i2)]) X hl 15 rfl rfl (by decide) rfl (fun ls hl => ?_)
    refine r_aload_n (pc' := 26) X hl 2 rfl rfl 16 rfl rfl ?_
    refine r_get (pc' := 29) (v := .ref h_places) X Y 17 rfl rfl fRX2_23 0 rfl rfl ?_
    refine r_iload_n (pc' := 30) X hl 3 rfl rfl 18 rfl rfl ?_
    refine r_iald (pc' := 31) X Y 19 rfl rfl 3 rfl (vin g1) ?_
    refine r_istore (pc' := 33) (L' := [(5, .int (S0_places (i1).toNatClampNeg)), (4, .int (S0_firms (i1).toNatClampNeg)), (3, .int (S0_kindsTold (i1).toNatClampNeg)), (0, .ref h), (1, .int i1), (2, .int i2)]) X hl 20 rfl rfl (by decide) rfl (fun ls hl => ?_)
    refine r_iload (pc' := 35) X hl 0 rfl 21 rfl rfl ?_
    refine r_aload_n (pc' := 36) X hl 3 rfl rfl 22 rfl rfl ?_
    refine r_callV0 (pc' := 39) (As := []) (rest := [.int (S0_places (i1).toNatClampNeg)]) X Y 23 rfl rfl mRX2_88 (c_X2_bar l G h h_firms h_kindsTold h_places h_crowds h_pipsLeft h_notHome S0_points S0_home S0_men S0_turn S0_thrower S0_cube S0_owner S0_firms S0_kindsTold S0_places S0_crowds S0_pipsLeft S0_notHome) (mB hM hne) 0 rfl rfl [0, 1, 2, 3, 4, 5, 6] rfl rfl rfl (Nat.le_of_ble_eq_true rfl) ⟨rfl, rfl⟩ ⟨Nat.le_of_ble_eq_true rfl, Nat.le_of_ble_eq_true rfl⟩ ⟨Nat.zero_le _, Nat.zero_le _⟩ hl.1 (st' := fun u4 => [.int u4, .int (S0_places (i1).toNatClampNeg)]) (fun _ => rfl) (fun u4 H locs huu4 Y => ?_)
    replace hM := mS hM huu4
    refine r_icmp_eq (pc' := 42) X 65 24 rfl rfl (by decide) (fun c5 => ?_) (fun c5 => ?_)
    · replace hM := mI hM c5
      refine r_iconst (pc' := 66) X (1 : Int32) 37 rfl rfl rfl ?_
      exact RT (1 : Int32) _ _ _ _ _ hM (Or.inr (Or.inl ⟨rfl, rfl, _, rfl, nb (Or.inr rfl)⟩)) (X.d (k := 38) rfl) Y
    · replace hM := mE hM c5
      refine r_aload_n (pc' := 43) X hl 3 rfl rfl 25 rfl rfl ?_
      refine r_iload (pc' := 45) X hl 1 rfl 26 rfl rfl ?_
      refine r_iload (pc' := 47) X hl 0 rfl 27 rfl rfl ?_
      refine r_callV0 (pc' := 50) (As := [.int (S0_firms (i1).toNatClampNeg), .int (S0_places (i1).toNatClampNeg)]) (rest := []) X Y 28 rfl rfl mRX2_77 (c_X2_crowd l G h h_firms h_kindsTold h_places h_crowds h_pipsLeft h_notHome S0_points S0_home S0_men S0_turn S0_thrower S0_cube S0_owner S0_firms S0_kindsTold S0_places S0_crowds S0_pipsLeft S0_notHome ((S0_firms (i1).toNatClampNeg)) ((S0_places (i1).toNatClampNeg))) (mB hM hne) 0 rfl rfl [0, 1, 2, 3, 4, 5, 6] rfl rfl rfl (Nat.le_of_ble_eq_true rfl) ⟨rfl, rfl⟩ ⟨Nat.le_of_ble_eq_true rfl, Nat.le_of_ble_eq_true rfl⟩ ⟨Nat.zero_le _, Nat.zero_le _⟩ hl.1 (st' := fun u6 => [.int u6]) (fun _ => rfl) (fun u6 H locs huu6 Y => ?_)
      replace hM := mS hM huu6
      refine r_iconst (pc' := 51) X (2 : Int32) 29 rfl rfl rfl ?_
      refine r_icmp_ge (pc' := 54) X 65 30 rfl rfl (by decide) (fun c7 => ?_) (fun c7 => ?_)
      · replace hM := mI hM c7
        refine r_iconst (pc' := 66) X (1 : Int32) 37 rfl rfl rfl ?_
        exact RT (1 : Int32) _ _ _ _ _ hM (Or.inr (Or.inl ⟨rfl, rfl, _, rfl, nb (Or.inr rfl)⟩)) (X.d (k := 38) rfl) Y
      · replace hM := mE hM c7
        refine r_aload_n (pc' := 55) X hl 3 rfl rfl 31 rfl rfl ?_
        refine r_iload (pc' := 57) X hl 1 rfl 32 rfl rfl ?_
        refine r_iload_n (pc' := 58) X hl 5 rfl rfl 33 rfl rfl ?_
        refine r_callV0 (pc' := 61) (As := [.int (S0_firms (i1).toNatClampNeg), .int i2]) (rest := []) X Y 34 rfl rfl mRX2_77 (c_X2_crowd l G h h_firms h_kindsTold h_places h_crowds h_pipsLeft h_notHome S0_points S0_home S0_men S0_turn S0_thrower S0_cube S0_owner S0_firms S0_kindsTold S0_places S0_crowds S0_pipsLeft S0_notHome ((S0_firms (i1).toNatClampNeg)) i2) (mB hM hne) 0 rfl rfl [0, 1, 2, 3, 4, 5, 6] rfl rfl rfl (Nat.le_of_ble_eq_true rfl) ⟨rfl, rfl⟩ ⟨Nat.le_of_ble_eq_true rfl, Nat.le_of_ble_eq_true rfl⟩ ⟨Nat.zero_le _, Nat.zero_le _⟩ hl.1 (st' := fun u8 => [.int u8]) (fun _ => rfl) (fun u8 H locs huu8 Y => ?_)
        replace hM := mS hM huu8
        refine r_iconst (pc' := 62) X (1 : Int32) 35 rfl rfl rfl ?_
        refine r_icmp_lt (pc' := 65) X 67 36 rfl rfl (by decide) (fun c9 => ?_) (fun c9 => ?_)
        · replace hM := mI hM c9
          refine r_iload_n (pc' := 68) X hl 2 rfl rfl 39 rfl rfl ?_
          refine r_iconst (pc' := 69) X (5 : Int32) 40 rfl rfl rfl ?_
          refine r_icmp_ne (pc' := 72) X 89 41 rfl rfl (by decide) (fun c10 => ?_) (fun c10 => ?_)
          · replace hM := mE hM c10
            refine r_iconst (pc' := 90) X (0 : Int32) 52 rfl rfl rfl ?_
            exact RT (0 : Int32) _ _ _ _ _ hM (Or.inr (Or.inl ⟨rfl, rfl, _, rfl, nb (Or.inl rfl)⟩)) (X.d (k := 53) rfl) Y
          · replace hM := mI hM c10
            refine r_aload_n (pc' := 73) X hl 3 rfl rfl 42 rfl rfl ?_
            refine r_iconst (pc' := 74) X (1 : Int32) 43 rfl rfl rfl ?_
            refine r_iload (pc' := 76) X hl 1 rfl 44 rfl rfl ?_
            refine r_isub (pc' := 77) X 45 rfl rfl ?_
            refine r_iload_n (pc' := 78) X hl 5 rfl rfl 46 rfl rfl ?_
            refine r_callV0 (pc' := 81) (As := [.int ((1 : Int32) - (S0_firms (i1).toNatClampNeg)), .int i2]) (rest := []) X Y 47 rfl rfl mRX2_77 (c_X2_crowd l G h h_firms h_kindsTold h_places h_crowds h_pipsLeft h_notHome S0_points S0_home S0_men S0_turn S0_thrower S0_cube S0_owner S0_firms S0_kindsTold S0_places S0_crowds S0_pipsLeft S0_notHome (((1 : Int32) - (S0_firms (i1).toNatClampNeg))) i2) (mB hM hne) 0 rfl rfl [0, 1, 2, 3, 4, 5, 6] rfl rfl rfl (Nat.le_of_ble_eq_true rfl) ⟨rfl, rfl⟩ ⟨Nat.le_of_ble_eq_true rfl, Nat.le_of_ble_eq_true rfl⟩ ⟨Nat.zero_le _, Nat.zero_le _⟩ hl.1 (st' := fun u11 => [.int u11]) (fun _ => rfl) (fun u11 H locs huu11 Y => ?_)
            replace hM := mS hM huu11
            refine r_iconst (pc' := 82) X (1 : Int32) 48 rfl rfl rfl ?_
            refine r_icmp_ne (pc' := 85) X 89 49 rfl rfl (by decide) (fun c12 => ?_) (fun c12 => ?_)
            · replace hM := mE hM c12
              refine r_iconst (pc' := 90) X (0 : Int32) 52 rfl rfl rfl ?_
              exact RT (0 : Int32) _ _ _ _ _ hM (Or.inr (Or.inl ⟨rfl, rfl, _, rfl, nb (Or.inl rfl)⟩)) (X.d (k := 53) rfl) Y
            · replace hM := mI hM c12
              refine r_iconst (pc' := 86) X (1 : Int32) 50 rfl rfl rfl ?_
              refine r_goto X 90 51 rfl (by decide) ?_
              exact RT (1 : Int32) _ _ _ _ _ hM (Or.inr (Or.inl ⟨rfl, rfl, _, rfl, nb (Or.inr rfl)⟩)) (X.d (k := 53) rfl) Y
        · replace hM := mE hM c9
          refine r_iconst (pc' := 66) X (1 : Int32) 37 rfl rfl rfl ?_
          exact RT (1 : Int32) _ _ _ _ _ hM (Or.inr (Or.inl ⟨rfl, rfl, _, rfl, nb (Or.inr rfl)⟩)) (X.d (k := 38) rfl) Y
  · replace hM := mI hM c3
    refine r_iconst (pc' := 16) X (1 : Int32) 9 rfl rfl rfl ?_
    exact RT (1 : Int32) _ _ _ _ _ hM (Or.inr (Or.inl ⟨rfl, rfl, _, rfl, nb (Or.inr rfl)⟩)) (X.d (k := 10) rfl) Y

def M_X2_canGo (S0 : BD) (i1 : Int32) (i2 : Int32) : Option (Int32) :=
  (if inb i1 8 = true then ((M_X2_off S0).bind (fun u2 => (if ((bd_places S0) (i1).toNatClampNeg) = u2 then (some (0 : Int32)) else ((M_X2_bar S0).bind (fun u4 => (jn (σ := Unit) (fun v5 => ((M_X2_aim S0 i1 i2).bind (fun u6 => ((M_X2_off S0).bind (fun u7 => (if u6 = u7 then (if inb ((bd_firms S0) (i1).toNatClampNeg) 2 = true then (if ((bd_notHome S0) (((bd_firms S0) (i1).toNatClampNeg)).toNatClampNeg) = 0 then (some (1 : Int32)) else (some (0 : Int32))) else none) else ((M_X2_crowd S0 (((1 : Int32) - ((bd_firms S0) (i1).toNatClampNeg))) u6).bind (fun u9 => (if (2 : Int32) ≤ u9 then (some (0 : Int32)) else ((M_X2_dares S0 i1 u6).bind (fun u11 => (if u11 = 0 then (some (0 : Int32)) else (some (1 : Int32)))))))))))))) (fun J5 => (if ((bd_places S0) (i1).toNatClampNeg) = u4 then (J5 ()) else ((M_X2_bar S0).bind (fun u16 => ((M_X2_crowd S0 (((bd_firms S0) (i1).toNatClampNeg)) u16).bind (fun u17 => (if u17 ≤ 0 then (J5 ()) else (some (0 : Int32))))))))))))))) else none)
def q_X2_canGo : Room := { frames := 3, cells := 0, slots := 0, locals := 108 }
set_option maxHeartbeats 4000000 in
set_option maxRecDepth 100000 in
theorem c_X2_canGo (l : Launch) (G : gT) (h h_firms h_kindsTold h_places h_crowds h_pipsLeft h_notHome : Nat) (S0_points : Int32) (S0_home : Int32) (S0_men : Int32) (S0_turn : Int32) (S0_thrower : Int32) (S0_cube : Int32) (S0_owner : Int32) (S0_firms : Nat → Int32) (S0_kindsTold : Nat → Int32) (S0_places : Nat → Int32) (S0_crowds : Nat → Int32) (S0_pipsLeft : Nat → Int32) (S0_notHome : Nat → Int32) (i1 : Int32) (i2 : Int32) : CT l G yX2_canGo cX2_canGo 6 (some .boolean) q_X2_canGo [.ref h, .int i1, .int i2] (wBD G h h_firms h_kindsTold h_places h_crowds h_pipsLeft h_notHome S0_points S0_home S0_men S0_turn S0_thrower S0_cube S0_owner S0_firms S0_kindsTold S0_places S0_crowds S0_pipsLeft S0_notHome) (M_X2_canGo (S0_points, S0_home, S0_men, S0_turn, S0_thrower, S0_cube, S0_owner, S0_firms, S0_kindsTold, S0_places, S0_crowds, S0_pipsLeft, S0_notHome) i1 i2) (fun u => some (.int u)) (fun u => wBD G h h_firms h_kindsTold h_places h_crowds h_pipsLeft h_notHome S0_points S0_home S0_men S0_turn S0_thrower S0_cube S0_owner S0_firms S0_kindsTold S0_places S0_crowds S0_pipsLeft S0_notHome) := by
  refine CT.of (P := PX2_canGo) (by decide) dPX2_canGo (Nat.le_of_ble_eq_true rfl) ?_
  intro p e s m args below meth c A Q ls hne X RT Y hl
  have hl : lv_has ls 6 [(0, .ref h), (1, .int i1), (2, .int i2)] := hl
  generalize hM : M_X2_canGo (S0_points, S0_home, S0_men, S0_turn, S0_thrower, S0_cube, S0_owner, S0_firms, S0_kindsTold, S0_places, S0_crowds, S0_pipsLeft, S0_notHome) i1 i2 = MM at hne RT
  unfold M_X2_canGo at hM
  refine r_aload_n (pc' := 1) X hl 0 rfl rfl 0 rfl rfl ?_
  refine r_get (pc' := 4) (v := .ref h_firms) X Y 1 rfl rfl fRX2_16 0 rfl rfl ?_
  refine r_iload_n (pc' := 5) X hl 1 rfl rfl 2 rfl rfl ?_
  obtain ⟨g1, hM⟩ := mG hM hne
  refine r_iald (pc' := 6) X Y 3 rfl rfl 1 rfl (vin g1) ?_
  refine r_istore_n (pc' := 7) (L' := [(3, .int (S0_firms (i1).toNatClampNeg)), (0, .ref h), (1, .int i1), (2, .int i2)]) X hl rfl 4 rfl rfl (by decide) rfl (fun ls hl => ?_)
  refine r_aload_n (pc' := 8) X hl 1 rfl rfl 5 rfl rfl ?_
  refine r_get (pc' := 11) (v := .ref h_places) X Y 6 rfl rfl fRX2_23 0 rfl rfl ?_
  refine r_iload_n (pc' := 12) X hl 2 rfl rfl 7 rfl rfl ?_
  refine r_iald (pc' := 13) X Y 8 rfl rfl 3 rfl (vin g1) ?_
  refine r_istore (pc' := 15) (L' := [(4, .int (S0_places (i1).toNatClampNeg)), (3, .int (S0_firms (i1).toNatClampNeg)), (0, .ref h), (1, .int i1), (2, .int i2)]) X hl 9 rfl rfl (by decide) rfl (fun ls hl => ?_)
  refine r_iload (pc' := 17) X hl 0 rfl 10 rfl rfl ?_
  refine r_aload_n (pc' := 18) X hl 2 rfl rfl 11 rfl rfl ?_
  refine r_callV0 (pc' := 21) (As := []) (rest := [.int (S0_places (i1).toNatClampNeg)]) X Y 12 rfl rfl mRX2_73 (c_X2_off l G h h_firms h_kindsTold h_places h_crowds h_pipsLeft h_notHome S0_points S0_home S0_men S0_turn S0_thrower S0_cube S0_owner S0_firms S0_kindsTold S0_places S0_crowds S0_pipsLeft S0_notHome) (mB hM hne) 0 rfl rfl [0, 1, 2, 3, 4, 5, 6] rfl rfl rfl (Nat.le_of_ble_eq_true rfl) ⟨rfl, rfl⟩ ⟨Nat.le_of_ble_eq_true rfl, Nat.le_of_ble_eq_true rfl⟩ ⟨Nat.zero_le _, Nat.zero_le _⟩ hl.1 (st' := fun u2 => [.int u2, .int (S0_places (i1).toNatClampNeg)]) (fun _ => rfl) (fun u2 H locs huu2 Y => ?_)
  replace hM := mS hM huu2
  refine r_icmp_eq (pc' := 24) X 45 13 rfl rfl (by decide) (fun c3 => ?_) (fun c3 => ?_)
  · replace hM := mI hM c3
    refine r_iconst (pc' := 46) X (0 : Int32) 24 rfl rfl rfl ?_
    exact RT (0 : Int32) _ _ _ _ _ hM (Or.inr (Or.inl ⟨rfl, rfl, _, rfl, nb (Or.inl rfl)⟩)) (X.d (k := 25) rfl) Y
  · replace hM := mE hM c3
    refine r_iload (pc' := 26) X hl 0 rfl 14 rfl rfl ?_
    refine r_aload_n (pc' := 27) X hl 2 rfl rfl 15 rfl rfl ?_
    refine r_callV0 (pc' := 30) (As := []) (rest := [.int (S0_places (i1).toNatClampNeg)]) X Y 16 rfl rfl mRX2_88 (c_X2_bar l G h h_firms h_kindsTold h_places h_crowds h_pipsLeft h_notHome S0_points S0_home S0_men S0_turn S0_thrower S0_cube S0_owner S0_firms S0_kindsTold S0_places S0_crowds S0_pipsLeft S0_notHome) (mB hM hne) 0 rfl rfl [0, 1, 2, 3, 4, 5, 6] rfl rfl rfl (Nat.le_of_ble_eq_true rfl) ⟨rfl, rfl⟩ ⟨Nat.le_of_ble_eq_true rfl, Nat.le_of_ble_eq_true rfl⟩ ⟨Nat.zero_le _, Nat.zero_le _⟩ hl.1 (st' := fun u4 => [.int u4, .int (S0_places (i1).toNatClampNeg)]) (fun _ => rfl) (fun u4 H locs huu4 Y => ?_)
    replace hM := mS hM huu4
    obtain ⟨J5, hJ5, hM⟩ := mJ hM
    have KJ5 : ∀  (H : Heap) (locs : List Loc) (ls : Array Slot), J5 () = MM → rY G A s (wBD G h h_firms h_kindsTold h_places h_crowds h_pipsLeft h_notHome S0_points S0_home S0_men S0_turn S0_thrower S0_cube S0_owner S0_firms S0_kindsTold S0_places S0_crowds S0_pipsLeft S0_notHome) H locs → lv_has ls 6 [(0, .ref h), (1, .int i1), (2, .int i2), (3, .int (S0_firms (i1).toNatClampNeg))] → W p l e q_X2_canGo s m args below meth c H locs 0 0 Q (F0 m 47 ls []) := by
      intro  H locs ls hM Y hl
      replace hM := (hJ5 _).symm.trans hM
      refine r_aload_n (pc' := 48) X hl 0 rfl rfl 26 rfl rfl ?_
      refine r_iload_n (pc' := 49) X hl 1 rfl rfl 27 rfl rfl ?_
      refine r_iload_n (pc' := 50) X hl 2 rfl rfl 28 rfl rfl ?_
      refine r_callV0 (pc' := 53) (As := [.int i1, .int i2]) (rest := []) X Y 29 rfl rfl mRX2_91 (c_X2_aim l G h h_firms h_kindsTold h_places h_crowds h_pipsLeft h_notHome S0_points S0_home S0_men S0_turn S0_thrower S0_cube S0_owner S0_firms S0_kindsTold S0_places S0_crowds S0_pipsLeft S0_notHome i1 i2) (mB hM hne) 0 rfl rfl [0, 1, 2, 3, 4, 5, 6] rfl rfl rfl (Nat.le_of_ble_eq_true rfl) ⟨rfl, rfl⟩ ⟨Nat.le_of_ble_eq_true rfl, Nat.le_of_ble_eq_true rfl⟩ ⟨Nat.zero_le _, Nat.zero_le _⟩ hl.1 (st' := fun u6 => [.int u6]) (fun _ => rfl) (fun u6 H locs huu6 Y => ?_)
      replace hM := mS hM huu6
      refine r_istore (pc' := 55) (L' := [(5, .int u6), (0, .ref h), (1, .int i1), (2, .int i2), (3, .int (S0_firms (i1).toNatClampNeg))]) X hl 30 rfl rfl (by decide) rfl (fun ls hl => ?_)
      refine r_iload (pc' := 57) X hl 0 rfl 31 rfl rfl ?_
      refine r_aload_n (pc' := 58) X hl 1 rfl rfl 32 rfl rfl ?_
      refine r_callV0 (pc' := 61) (As := []) (rest := [.int u6]) X Y 33 rfl rfl mRX2_73 (c_X2_off l G h h_firms h_kindsTold h_places h_crowds h_pipsLeft h_notHome S0_points S0_home S0_men S0_turn S0_thrower S0_cube S0_owner S0_firms S0_kindsTold S0_places S0_crowds S0_pipsLeft S0_notHome) (mB hM hne) 0 rfl rfl [0, 1, 2, 3, 4, 5, 6] rfl rfl rfl (Nat.le_of_ble_eq_true rfl) ⟨rfl, rfl⟩ ⟨Nat.le_of_ble_eq_true rfl, Nat.le_of_ble_eq_true rfl⟩ ⟨Nat.zero_le _, Nat.zero_le _⟩ hl.1 (st' := fun u7 => [.int u7, .int u6]) (fun _ => rfl) (fun u7 H locs huu7 Y => ?_)
      replace hM := mS hM huu7
      refine r_icmp_ne (pc' := 64) X 79 34 rfl rfl (by decide) (fun c8 => ?_) (fun c8 => ?_)
      · replace hM := mE hM c8
        refine r_aload_n (pc' := 80) X hl 1 rfl rfl 44 rfl rfl ?_
        refine r_iconst (pc' := 81) X (1 : Int32) 45 rfl rfl rfl ?_
        refine r_iload_n (pc' := 82) X hl 4 rfl rfl 46 rfl rfl ?_
        refine r_isub (pc' := 83) X 47 rfl rfl ?_
        refine r_iload (pc' := 85) X hl 0 rfl 48 rfl rfl ?_
        refine r_callV0 (pc' := 88) (As := [.int ((1 : Int32) - (S0_firms (i1).toNatClampNeg)), .int u6]) (rest := []) X Y 49 rfl rfl mRX2_77 (c_X2_crowd l G h h_firms h_kindsTold h_places h_crowds h_pipsLeft h_notHome S0_points S0_home S0_men S0_turn S0_thrower S0_cube S0_owner S0_firms S0_kindsTold S0_places S0_crowds S0_pipsLeft S0_notHome (((1 : Int32) - (S0_firms (i1).toNatClampNeg))) u6) (mB hM hne) 0 rfl rfl [0, 1, 2, 3, 4, 5, 6] rfl rfl rfl (Nat.le_of_ble_eq_true rfl) ⟨rfl, rfl⟩ ⟨Nat.le_of_ble_eq_true rfl, Nat.le_of_ble_eq_true rfl⟩ ⟨Nat.zero_le _, Nat.zero_le _⟩ hl.1 (st' := fun u9 => [.int u9]) (fun _ => rfl) (fun u9 H locs huu9 Y => ?_)
        replace hM := mS hM huu9
        refine r_iconst (pc' := 89) X (2 : Int32) 50 rfl rfl rfl ?_
        refine r_icmp_ge (pc' := 92) X 106 51 rfl rfl (by decide) (fun c10 => ?_) (fun c10 => ?_)
        · replace hM := mI hM c10
          refine r_iconst (pc' := 107) X (0 : Int32) 59 rfl rfl rfl ?_
          exact RT (0 : Int32) _ _ _ _ _ hM (Or.inr (Or.inl ⟨rfl, rfl, _, rfl, nb (Or.inl rfl)⟩)) (X.d (k := 60) rfl) Y
        · replace hM := mE hM c10
          refine r_aload_n (pc' := 93) X hl 1 rfl rfl 52 rfl rfl ?_
          refine r_iload_n (pc' := 94) X hl 2 rfl rfl 53 rfl rfl ?_
          refine r_iload (pc' := 96) X hl 0 rfl 54 rfl rfl ?_
          refine r_callV0 (pc' := 99) (As := [.int i1, .int u6]) (rest := []) X Y 55 rfl rfl mRX2_94 (c_X2_dares l G h h_firms h_kindsTold h_places h_crowds h_pipsLeft h_notHome S0_points S0_home S0_men S0_turn S0_thrower S0_cube S0_owner S0_firms S0_kindsTold S0_places S0_crowds S0_pipsLeft S0_notHome i1 u6) (mB hM hne) 0 rfl rfl [0, 1, 2, 3, 4, 5, 6] rfl rfl rfl (Nat.le_of_ble_eq_true rfl) ⟨rfl, rfl⟩ ⟨Nat.le_of_ble_eq_true rfl, Nat.le_of_ble_eq_true rfl⟩ ⟨Nat.zero_le _, Nat.zero_le _⟩ hl.1 (st' := fun u11 => [.int u11]) (fun _ => rfl) (fun u11 H locs huu11 Y => ?_)
          replace hM := mS hM huu11
          refine r_if_eq (pc' := 102) X 106 56 rfl rfl (by decide) (fun c12 => ?_) (fun c12 => ?_)
          · replace hM := mI hM c12
            refine r_iconst (pc' := 107) X (0 : Int32) 59 rfl rfl rfl ?_
            exact RT (0 : Int32) _ _ _ _ _ hM (Or.inr (Or.inl ⟨rfl, rfl, _, rfl, nb (Or.inl rfl)⟩)) (X.d (k := 60) rfl) Y
          · replace hM := mE hM c12
            refine r_iconst (pc' := 103) X (1 : Int32) 57 rfl rfl rfl ?_
            refine r_goto X 107 58 rfl (by decide) ?_
            exact RT (1 : Int32) _ _ _ _ _ hM (Or.inr (Or.inl ⟨rfl, rfl, _, rfl, nb (Or.inr rfl)⟩)) (X.d (k := 60) rfl) Y
      · replace hM := mI hM c8
        refine r_aload_n (pc' := 65) X hl 1 rfl rfl 35 rfl rfl ?_
        refine r_get (pc' := 68) (v := .ref h_notHome) X Y 36 rfl rfl fRX2_32 0 rfl rfl ?_
        refine r_iload_n (pc' := 69) X hl 4 rfl rfl 37 rfl rfl ?_
        obtain ⟨g13, hM⟩ := mG hM hne
        refine r_iald (pc' := 70) X Y 38 rfl rfl 6 rfl (vin g13) ?_
        refine r_if_ne (pc' := 73) X 77 39 rfl rfl (by decide) (fun c14 => ?_) (fun c14 => ?_)
        · replace hM := mE hM c14
          refine r_iconst (pc' := 78) X (0 : Int32) 42 rfl rfl rfl ?_
          exact RT (0 : Int32) _ _ _ _ _ hM (Or.inr (Or.inl ⟨rfl, rfl, _, rfl, nb (Or.inl rfl)⟩)) (X.d (k := 43) rfl) Y
        · replace hM := mI hM c14
          refine r_iconst (pc' := 74) X (1 : Int32) 40 rfl rfl rfl ?_
          refine r_goto X 78 41 rfl (by decide) ?_
          exact RT (1 : Int32) _ _ _ _ _ hM (Or.inr (Or.inl ⟨rfl, rfl, _, rfl, nb (Or.inr rfl)⟩)) (X.d (k := 43) rfl) Y
    refine r_icmp_eq (pc' := 33) X 47 17 rfl rfl (by decide) (fun c15 => ?_) (fun c15 => ?_)
    · replace hM := mI hM c15
      exact KJ5  _ _ _ hM Y (lv_sub hl [2, 3, 4, 1] rfl)
    · replace hM := mE hM c15
      refine r_aload_n (pc' := 34) X hl 2 rfl rfl 18 rfl rfl ?_
      refine r_iload_n (pc' := 35) X hl 1 rfl rfl 19 rfl rfl ?_
      refine r_aload_n (pc' := 36) X hl 2 rfl rfl 20 rfl rfl ?_
      refine r_callV0 (pc' := 39) (As := []) (rest := [.int (S0_firms (i1).toNatClampNeg), .ref h]) X Y 21 rfl rfl mRX2_88 (c_X2_bar l G h h_firms h_kindsTold h_places h_crowds h_pipsLeft h_notHome S0_points S0_home S0_men S0_turn S0_thrower S0_cube S0_owner S0_firms S0_kindsTold S0_places S0_crowds S0_pipsLeft S0_notHome) (mB hM hne) 0 rfl rfl [0, 1, 2, 3, 4, 5, 6] rfl rfl rfl (Nat.le_of_ble_eq_true rfl) ⟨rfl, rfl⟩ ⟨Nat.le_of_ble_eq_true rfl, Nat.le_of_ble_eq_true rfl⟩ ⟨Nat.zero_le _, Nat.zero_le _⟩ hl.1 (st' := fun u16 => [.int u16, .int (S0_firms (i1).toNatClampNeg), .ref h]) (fun _ => rfl) (fun u16 H locs huu16 Y => ?_)
      replace hM := mS hM huu16
      refine r_callV0 (pc' := 42) (As := [.int (S0_firms (i1).toNatClampNeg), .int u16]) (rest := []) X Y 22 rfl rfl mRX2_77 (c_X2_crowd l G h h_firms h_kindsTold h_places h_crowds h_pipsLeft h_notHome S0_points S0_home S0_men S0_turn S0_thrower S0_cube S0_owner S0_firms S0_kindsTold S0_places S0_crowds S0_pipsLeft S0_notHome ((S0_firms (i1).toNatClampNeg)) u16) (mB hM hne) 0 rfl rfl [0, 1, 2, 3, 4, 5, 6] rfl rfl rfl (Nat.le_of_ble_eq_true rfl) ⟨rfl, rfl⟩ ⟨Nat.le_of_ble_eq_true rfl, Nat.le_of_ble_eq_true rfl⟩ ⟨Nat.zero_le _, Nat.zero_le _⟩ hl.1 (st' := fun u17 => [.int u17]) (fun _ => rfl) (fun u17 H locs huu17 Y => ?_)
      replace hM := mS hM huu17
      refine r_if_le (pc' := 45) X 47 23 rfl rfl (by decide) (fun c18 => ?_) (fun c18 => ?_)
      · replace hM := mI hM c18
        exact KJ5  _ _ _ hM Y (lv_sub hl [2, 3, 4, 1] rfl)
      · replace hM := mE hM c18
        refine r_iconst (pc' := 46) X (0 : Int32) 24 rfl rfl rfl ?_
        exact RT (0 : Int32) _ _ _ _ _ hM (Or.inr (Or.inl ⟨rfl, rfl, _, rfl, nb (Or.inl rfl)⟩)) (X.d (k := 25) rfl) Y

def M_X2_loneOn (S0 : BD) (i1 : Int32) (i2 : Int32) : Option (Int32) :=
  (if (bd_points S0) ≤ i2 then (some (-1000000 : Int32)) else ((M_X2_crowd S0 i1 i2).bind (fun u2 => (if u2 = (1 : Int32) then (lp (σ := Int32) (β := Int32) (fun rec4 st4 => (if (bd_men S0) ≤ st4 then (some (-1000000 : Int32)) else (if inb st4 8 = true then (if ((bd_firms S0) (st4).toNatClampNeg) = i1 then (if ((bd_places S0) (st4).toNatClampNeg) = i2 then (some st4) else (rec4 (st4 + (1 : Int32)))) else (rec4 (st4 + (1 : Int32)))) else none))) 1000000 (0 : Int32)) else (some (-1000000 : Int32))))))
def q_X2_loneOn : Room := { frames := 2, cells := 0, slots := 0, locals := 82 }
set_option maxHeartbeats 4000000 in
set_option maxRecDepth 100000 in
theorem c_X2_loneOn (l : Launch) (G : gT) (h h_firms h_kindsTold h_places h_crowds h_pipsLeft h_notHome : Nat) (S0_points : Int32) (S0_home : Int32) (S0_men : Int32) (S0_turn : Int32) (S0_thrower : Int32) (S0_cube : Int32) (S0_owner : Int32) (S0_firms : Nat → Int32) (S0_kindsTold : Nat → Int32) (S0_places : Nat → Int32) (S0_crowds : Nat → Int32) (S0_pipsLeft : Nat → Int32) (S0_notHome : Nat → Int32) (i1 : Int32) (i2 : Int32) : CT l G yX2_loneOn cX2_loneOn 4 (some .int) q_X2_loneOn [.ref h, .int i1, .int i2] (wBD G h h_firms h_kindsTold h_places h_crowds h_pipsLeft h_notHome S0_points S0_home S0_men S0_turn S0_thrower S0_cube S0_owner S0_firms S0_kindsTold S0_places S0_crowds S0_pipsLeft S0_notHome) (M_X2_loneOn (S0_points, S0_home, S0_men, S0_turn, S0_thrower, S0_cube, S0_owner, S0_firms, S0_kindsTold, S0_places, S0_crowds, S0_pipsLeft, S0_notHome) i1 i2) (fun u => some (.int u)) (fun u => wBD G h h_firms h_kindsTold h_places h_crowds h_pipsLeft h_notHome S0_points S0_home S0_men S0_turn S0_thrower S0_cube S0_owner S0_firms S0_kindsTold S0_places S0_crowds S0_pipsLeft S0_notHome) := by
  refine CT.of (P := PX2_loneOn) (by decide) dPX2_loneOn (Nat.le_of_ble_eq_true rfl) ?_
  intro p e s m args below meth c A Q ls hne X RT Y hl
  have hl : lv_has ls 4 [(0, .ref h), (1, .int i1), (2, .int i2)] := hl
  generalize hM : M_X2_loneOn (S0_points, S0_home, S0_men, S0_turn, S0_thrower, S0_cube, S0_owner, S0_firms, S0_kindsTold, S0_places, S0_crowds, S0_pipsLeft, S0_notHome) i1 i2 = MM at hne RT
  unfold M_X2_loneOn at hM
  refine r_iload_n (pc' := 1) X hl 2 rfl rfl 0 rfl rfl ?_
  refine r_aload_n (pc' := 2) X hl 0 rfl rfl 1 rfl rfl ?_
  refine r_get (pc' := 5) (v := .int S0_points) X Y 2 rfl rfl fRX2_35 0 rfl rfl ?_
  refine r_icmp_ge (pc' := 8) X 18 3 rfl rfl (by decide) (fun c1 => ?_) (fun c1 => ?_)
  · replace hM := mI hM c1
    refine r_ldc (pc' := 20) X mw63 10 rfl rfl ?_
    exact RT (-1000000 : Int32) _ _ _ _ _ hM (Or.inl ⟨rfl, rfl, _, rfl⟩) (X.d (k := 11) rfl) Y
  · replace hM := mE hM c1
    refine r_aload_n (pc' := 9) X hl 0 rfl rfl 4 rfl rfl ?_
    refine r_iload_n (pc' := 10) X hl 1 rfl rfl 5 rfl rfl ?_
    refine r_iload_n (pc' := 11) X hl 2 rfl rfl 6 rfl rfl ?_
    refine r_callV0 (pc' := 14) (As := [.int i1, .int i2]) (rest := []) X Y 7 rfl rfl mRX2_77 (c_X2_crowd l G h h_firms h_kindsTold h_places h_crowds h_pipsLeft h_notHome S0_points S0_home S0_men S0_turn S0_thrower S0_cube S0_owner S0_firms S0_kindsTold S0_places S0_crowds S0_pipsLeft S0_notHome i1 i2) (mB hM hne) 0 rfl rfl [0, 1, 2, 3, 4, 5, 6] rfl rfl rfl (Nat.le_of_ble_eq_true rfl) ⟨rfl, rfl⟩ ⟨Nat.le_of_ble_eq_true rfl, Nat.le_of_ble_eq_true rfl⟩ ⟨Nat.zero_le _, Nat.zero_le _⟩ hl.1 (st' := fun u2 => [.int u2]) (fun _ => rfl) (fun u2 H locs huu2 Y => ?_)
    replace hM := mS hM huu2
    refine r_iconst (pc' := 15) X (1 : Int32) 8 rfl rfl rfl ?_
    refine r_icmp_eq (pc' := 18) X 21 9 rfl rfl (by decide) (fun c3 => ?_) (fun c3 => ?_)
    · replace hM := mI hM c3
      refine r_iconst (pc' := 22) X (0 : Int32) 12 rfl rfl rfl ?_
      refine r_istore_n (pc' := 23) (L' := [(3, .int (0 : Int32)), (0, .ref h), (1, .int i1), (2, .int i2)]) X hl rfl 13 rfl rfl (by decide) rfl (fun ls hl => ?_)
      refine lp_rule (I := fun (st4 : Int32) => ∀ (H : Heap) (locs : List Loc) (ls : Array Slot), rY G A s (wBD G h h_firms h_kindsTold h_places h_crowds h_pipsLeft h_notHome S0_points S0_home S0_men S0_turn S0_thrower S0_cube S0_owner S0_firms S0_kindsTold S0_places S0_crowds S0_pipsLeft S0_notHome) H locs → lv_has ls 4 [(0, .ref h), (1, .int i1), (2, .int i2), (3, .int st4)] → W p l e q_X2_loneOn s m args below meth c H locs 0 0 Q (F0 m 23 ls [])) hne (fun rec4 st4 IH4 hM => ?_) _ _ hM _ _ _ Y (lv_sub hl [1, 2, 3, 0] rfl)
      intro H locs ls Y hl
      refine r_iload_n (pc' := 24) X hl 3 rfl rfl 14 rfl rfl ?_
      refine r_aload_n (pc' := 25) X hl 0 rfl rfl 15 rfl rfl ?_
      refine r_get (pc' := 28) (v := .int S0_men) X Y 16 rfl rfl fRX2_41 0 rfl rfl ?_
      refine r_icmp_ge (pc' := 31) X 59 17 rfl rfl (by decide) (fun c5 => ?_) (fun c5 => ?_)
      · replace hM := mI hM c5
        refine r_ldc (pc' := 61) X mw63 34 rfl rfl ?_
        exact RT (-1000000 : Int32) _ _ _ _ _ hM (Or.inl ⟨rfl, rfl, _, rfl⟩) (X.d (k := 35) rfl) Y
      · replace hM := mE hM c5
        refine r_aload_n (pc' := 32) X hl 0 rfl rfl 18 rfl rfl ?_
        refine r_get (pc' := 35) (v := .ref h_firms) X Y 19 rfl rfl fRX2_16 0 rfl rfl ?_
        refine r_iload_n (pc' := 36) X hl 3 rfl rfl 20 rfl rfl ?_
        obtain ⟨g6, hM⟩ := mG hM hne
        refine r_iald (pc' := 37) X Y 21 rfl rfl 1 rfl (vin g6) ?_
        refine r_iload_n (pc' := 38) X hl 1 rfl rfl 22 rfl rfl ?_
        refine r_icmp_ne (pc' := 41) X 53 23 rfl rfl (by decide) (fun c7 => ?_) (fun c7 => ?_)
        · replace hM := mE hM c7
          refine r_iinc (pc' := 56) (L' := [(3, .int (st4 + (1 : Int32))), (0, .ref h), (1, .int i1), (2, .int i2)]) X (st4 + (1 : Int32)) hl 3 rfl rfl 32 rfl rfl (by decide) rfl (fun ls hl => ?_)
          refine r_goto X 23 33 rfl (by decide) ?_
          exact IH4 _ hM _ _ _ Y (lv_sub hl [1, 2, 3, 0] rfl)
        · replace hM := mI hM c7
          refine r_aload_n (pc' := 42) X hl 0 rfl rfl 24 rfl rfl ?_
          refine r_get (pc' := 45) (v := .ref h_places) X Y 25 rfl rfl fRX2_23 0 rfl rfl ?_
          refine r_iload_n (pc' := 46) X hl 3 rfl rfl 26 rfl rfl ?_
          refine r_iald (pc' := 47) X Y 27 rfl rfl 3 rfl (vin g6) ?_
          refine r_iload_n (pc' := 48) X hl 2 rfl rfl 28 rfl rfl ?_
          refine r_icmp_ne (pc' := 51) X 53 29 rfl rfl (by decide) (fun c8 => ?_) (fun c8 => ?_)
          · replace hM := mE hM c8
            refine r_iinc (pc' := 56) (L' := [(3, .int (st4 + (1 : Int32))), (0, .ref h), (1, .int i1), (2, .int i2)]) X (st4 + (1 : Int32)) hl 3 rfl rfl 32 rfl rfl (by decide) rfl (fun ls hl => ?_)
            refine r_goto X 23 33 rfl (by decide) ?_
            exact IH4 _ hM _ _ _ Y (lv_sub hl [1, 2, 3, 0] rfl)
          · replace hM := mI hM c8
            refine r_iload_n (pc' := 52) X hl 3 rfl rfl 30 rfl rfl ?_
            exact RT st4 _ _ _ _ _ hM (Or.inl ⟨rfl, rfl, _, rfl⟩) (X.d (k := 31) rfl) Y
    · replace hM := mE hM c3
      refine r_ldc (pc' := 20) X mw63 10 rfl rfl ?_
      exact RT (-1000000 : Int32) _ _ _ _ _ hM (Or.inl ⟨rfl, rfl, _, rfl⟩) (X.d (k := 11) rfl) Y

def M_X2_go (S0 : BD) (i1 : Int32) (i2 : Int32) : Option (Int32 × BD) :=
  ((M_X2_aim S0 i1 i2).bind (fun u1 => (if inb i1 8 = true then ((M_X2_loneOn S0 (((1 : Int32) - ((bd_firms S0) (i1).toNatClampNeg))) u1).bind (fun u3 => ((M_X2_put S0 i1 u1).bind (fun u4 => (if u3 = (-1000000 : Int32) then (some (u3, u4)) else ((M_X2_bar u4).bind (fun u6 => ((M_X2_put u4 u3 u6).bind (fun u7 => (some (u3, u7))))))))))) else none)))
def q_X2_go : Room := { frames := 4, cells := 0, slots := 0, locals := 128 }
set_option maxHeartbeats 4000000 in
set_option maxRecDepth 100000 in
theorem c_X2_go (l : Launch) (G : gT) (h h_firms h_kindsTold h_places h_crowds h_pipsLeft h_notHome : Nat) (S0_points : Int32) (S0_home : Int32) (S0_men : Int32) (S0_turn : Int32) (S0_thrower : Int32) (S0_cube : Int32) (S0_owner : Int32) (S0_firms : Nat → Int32) (S0_kindsTold : Nat → Int32) (S0_places : Nat → Int32) (S0_crowds : Nat → Int32) (S0_pipsLeft : Nat → Int32) (S0_notHome : Nat → Int32) (i1 : Int32) (i2 : Int32) : CT l G yX2_go cX2_go 5 (some .int) q_X2_go [.ref h, .int i1, .int i2] (wBD G h h_firms h_kindsTold h_places h_crowds h_pipsLeft h_notHome S0_points S0_home S0_men S0_turn S0_thrower S0_cube S0_owner S0_firms S0_kindsTold S0_places S0_crowds S0_pipsLeft S0_notHome) (M_X2_go (S0_points, S0_home, S0_men, S0_turn, S0_thrower, S0_cube, S0_owner, S0_firms, S0_kindsTold, S0_places, S0_crowds, S0_pipsLeft, S0_notHome) i1 i2) (fun u => some (.int u.1)) (fun u => wBD G h h_firms h_kindsTold h_places h_crowds h_pipsLeft h_notHome u.2.1 u.2.2.1 u.2.2.2.1 u.2.2.2.2.1 u.2.2.2.2.2.1 u.2.2.2.2.2.2.1 u.2.2.2.2.2.2.2.1 u.2.2.2.2.2.2.2.2.1 u.2.2.2.2.2.2.2.2.2.1 u.2.2.2.2.2.2.2.2.2.2.1 u.2.2.2.2.2.2.2.2.2.2.2.1 u.2.2.2.2.2.2.2.2.2.2.2.2.1 u.2.2.2.2.2.2.2.2.2.2.2.2.2) := by
  refine CT.of (P := PX2_go) (by decide) dPX2_go (Nat.le_of_ble_eq_true rfl) ?_
  intro p e s m args below meth c A Q ls hne X RT Y hl
  have hl : lv_has ls 5 [(0, .ref h), (1, .int i1), (2, .int i2)] := hl
  generalize hM : M_X2_go (S0_points, S0_home, S0_men, S0_turn, S0_thrower, S0_cube, S0_owner, S0_firms, S0_kindsTold, S0_places, S0_crowds, S0_pipsLeft, S0_notHome) i1 i2 = MM at hne RT
  unfold M_X2_go at hM
  refine r_aload_n (pc' := 1) X hl 0 rfl rfl 0 rfl rfl ?_
  refine r_iload_n (pc' := 2) X hl 1 rfl rfl 1 rfl rfl ?_
  refine r_iload_n (pc' := 3) X hl 2 rfl rfl 2 rfl rfl ?_
  refine r_callV0 (pc' := 6) (As := [.int i1, .int i2]) (rest := []) X Y 3 rfl rfl mRX2_91 (c_X2_aim l G h h_firms h_kindsTold h_places h_crowds h_pipsLeft h_notHome S0_points S0_home S0_men S0_turn S0_thrower S0_cube S0_owner S0_firms S0_kindsTold S0_places S0_crowds S0_pipsLeft S0_notHome i1 i2) (mB hM hne) 0 rfl rfl [0, 1, 2, 3, 4, 5, 6] rfl rfl rfl (Nat.le_of_ble_eq_true rfl) ⟨rfl, rfl⟩ ⟨Nat.le_of_ble_eq_true rfl, Nat.le_of_ble_eq_true rfl⟩ ⟨Nat.zero_le _, Nat.zero_le _⟩ hl.1 (st' := fun u1 => [.int u1]) (fun _ => rfl) (fun u1 H locs huu1 Y => ?_)
  replace hM := mS hM huu1
  refine r_istore_n (pc' := 7) (L' := [(3, .int u1), (0, .ref h), (1, .int i1), (2, .int i2)]) X hl rfl 4 rfl rfl (by decide) rfl (fun ls hl => ?_)
  refine r_aload_n (pc' := 8) X hl 1 rfl rfl 5 rfl rfl ?_
  refine r_iconst (pc' := 9) X (1 : Int32) 6 rfl rfl rfl ?_
  refine r_aload_n (pc' := 10) X hl 1 rfl rfl 7 rfl rfl ?_
  refine r_get (pc' := 13) (v := .ref h_firms) X Y 8 rfl rfl fRX2_16 0 rfl rfl ?_
  refine r_iload_n (pc' := 14) X hl 2 rfl rfl 9 rfl rfl ?_
  obtain ⟨g2, hM⟩ := mG hM hne
  refine r_iald (pc' := 15) X Y 10 rfl rfl 1 rfl (vin g2) ?_
  refine r_isub (pc' := 16) X 11 rfl rfl ?_
  refine r_iload_n (pc' := 17) X hl 0 rfl rfl 12 rfl rfl ?_
  refine r_callV0 (pc' := 20) (As := [.int ((1 : Int32) - (S0_firms (i1).toNatClampNeg)), .int u1]) (rest := []) X Y 13 rfl rfl mRX2_101 (c_X2_loneOn l G h h_firms h_kindsTold h_places h_crowds h_pipsLeft h_notHome S0_points S0_home S0_men S0_turn S0_thrower S0_cube S0_owner S0_firms S0_kindsTold S0_places S0_crowds S0_pipsLeft S0_notHome (((1 : Int32) - (S0_firms (i1).toNatClampNeg))) u1) (mB hM hne) 0 rfl rfl [0, 1, 2, 3, 4, 5, 6] rfl rfl rfl (Nat.le_of_ble_eq_true rfl) ⟨rfl, rfl⟩ ⟨Nat.le_of_ble_eq_true rfl, Nat.le_of_ble_eq_true rfl⟩ ⟨Nat.zero_le _, Nat.zero_le _⟩ hl.1 (st' := fun u3 => [.int u3]) (fun _ => rfl) (fun u3 H locs huu3 Y => ?_)
  replace hM := mS hM huu3
  refine r_istore (pc' := 22) (L' := [(4, .int u3), (3, .int u1), (0, .ref h), (1, .int i1), (2, .int i2)]) X hl 14 rfl rfl (by decide) rfl (fun ls hl => ?_)
  refine r_aload_n (pc' := 23) X hl 2 rfl rfl 15 rfl rfl ?_
  refine r_iload_n (pc' := 24) X hl 3 rfl rfl 16 rfl rfl ?_
  refine r_iload_n (pc' := 25) X hl 1 rfl rfl 17 rfl rfl ?_
  refine r_callV (pc' := 28) (As := [.int i1, .int u1]) (rest := []) (wr := ([] : va_W)) X Y 18 rfl rfl mRX2_104 (c_X2_put l G h h_firms h_kindsTold h_places h_crowds h_pipsLeft h_notHome S0_points S0_home S0_men S0_turn S0_thrower S0_cube S0_owner S0_firms S0_kindsTold S0_places S0_crowds S0_pipsLeft S0_notHome i1 u1) (mB hM hne) 0 rfl rfl [0, 1, 2, 3, 4, 5, 6] [] [0, 1, 2, 3, 4, 5, 6] rfl rfl ⟨rfl, rfl, rfl⟩ rfl (w2 := fun u4 => wBD G h h_firms h_kindsTold h_places h_crowds h_pipsLeft h_notHome u4.1 u4.2.1 u4.2.2.1 u4.2.2.2.1 u4.2.2.2.2.1 u4.2.2.2.2.2.1 u4.2.2.2.2.2.2.1 u4.2.2.2.2.2.2.2.1 u4.2.2.2.2.2.2.2.2.1 u4.2.2.2.2.2.2.2.2.2.1 u4.2.2.2.2.2.2.2.2.2.2.1 u4.2.2.2.2.2.2.2.2.2.2.2.1 u4.2.2.2.2.2.2.2.2.2.2.2.2) (fun _ => rfl) rfl (Nat.le_of_ble_eq_true rfl) ⟨rfl, rfl⟩ ⟨Nat.le_of_ble_eq_true rfl, Nat.le_of_ble_eq_true rfl⟩ ⟨Nat.zero_le _, Nat.zero_le _⟩ hl.1 (st' := fun u4 => []) (fun _ => rfl) (fun u4 H locs huu4 Y => ?_)
  obtain ⟨u4_points, u4_home, u4_men, u4_turn, u4_thrower, u4_cube, u4_owner, u4_firms, u4_kindsTold, u4_places, u4_crowds, u4_pipsLeft, u4_notHome⟩ := u4
  replace Y : rY G A s (wBD G h h_firms h_kindsTold h_places h_crowds h_pipsLeft h_notHome u4_points u4_home u4_men u4_turn u4_thrower u4_cube u4_owner u4_firms u4_kindsTold u4_places u4_crowds u4_pipsLeft u4_notHome) H locs := Y
  replace hM := mS hM huu4
  show W p l e q_X2_go s m args below meth c H locs 0 0 Q (F0 m 28 ls [])
  refine r_iload (pc' := 30) X hl 0 rfl 19 rfl rfl ?_
  refine r_ldc (pc' := 32) X mw63 20 rfl rfl ?_
  refine r_icmp_eq (pc' := 35) X 45 21 rfl rfl (by decide) (fun c5 => ?_) (fun c5 => ?_)
  · replace hM := mI hM c5
    refine r_iload (pc' := 47) X hl 0 rfl 27 rfl rfl ?_
    exact RT (u3, (u4_points, u4_home, u4_men, u4_turn, u4_thrower, u4_cube, u4_owner, u4_firms, u4_kindsTold, u4_places, u4_crowds, u4_pipsLeft, u4_notHome)) _ _ _ _ _ hM (Or.inl ⟨rfl, rfl, _, rfl⟩) (X.d (k := 28) rfl) Y
  · replace hM := mE hM c5
    refine r_aload_n (pc' := 36) X hl 2 rfl rfl 22 rfl rfl ?_
    refine r_iload (pc' := 38) X hl 0 rfl 23 rfl rfl ?_
    refine r_aload_n (pc' := 39) X hl 2 rfl rfl 24 rfl rfl ?_
    refine r_callV0 (pc' := 42) (As := []) (rest := [.int u3, .ref h]) X Y 25 rfl rfl mRX2_88 (c_X2_bar l G h h_firms h_kindsTold h_places h_crowds h_pipsLeft h_notHome u4_points u4_home u4_men u4_turn u4_thrower u4_cube u4_owner u4_firms u4_kindsTold u4_places u4_crowds u4_pipsLeft u4_notHome) (mB hM hne) 0 rfl rfl [0, 1, 2, 3, 4, 5, 6] rfl rfl rfl (Nat.le_of_ble_eq_true rfl) ⟨rfl, rfl⟩ ⟨Nat.le_of_ble_eq_true rfl, Nat.le_of_ble_eq_true rfl⟩ ⟨Nat.zero_le _, Nat.zero_le _⟩ hl.1 (st' := fun u6 => [.int u6, .int u3, .ref h]) (fun _ => rfl) (fun u6 H locs huu6 Y => ?_)
    replace hM := mS hM huu6
    refine r_callV (pc' := 45) (As := [.int u3, .int u6]) (rest := []) (wr := ([] : va_W)) X Y 26 rfl rfl mRX2_104 (c_X2_put l G h h_firms h_kindsTold h_places h_crowds h_pipsLeft h_notHome u4_points u4_home u4_men u4_turn u4_thrower u4_cube u4_owner u4_firms u4_kindsTold u4_places u4_crowds u4_pipsLeft u4_notHome u3 u6) (mB hM hne) 0 rfl rfl [0, 1, 2, 3, 4, 5, 6] [] [0, 1, 2, 3, 4, 5, 6] rfl rfl ⟨rfl, rfl, rfl⟩ rfl (w2 := fun u7 => wBD G h h_firms h_kindsTold h_places h_crowds h_pipsLeft h_notHome u7.1 u7.2.1 u7.2.2.1 u7.2.2.2.1 u7.2.2.2.2.1 u7.2.2.2.2.2.1 u7.2.2.2.2.2.2.1 u7.2.2.2.2.2.2.2.1 u7.2.2.2.2.2.2.2.2.1 u7.2.2.2.2.2.2.2.2.2.1 u7.2.2.2.2.2.2.2.2.2.2.1 u7.2.2.2.2.2.2.2.2.2.2.2.1 u7.2.2.2.2.2.2.2.2.2.2.2.2) (fun _ => rfl) rfl (Nat.le_of_ble_eq_true rfl) ⟨rfl, rfl⟩ ⟨Nat.le_of_ble_eq_true rfl, Nat.le_of_ble_eq_true rfl⟩ ⟨Nat.zero_le _, Nat.zero_le _⟩ hl.1 (st' := fun u7 => []) (fun _ => rfl) (fun u7 H locs huu7 Y => ?_)
    obtain ⟨u7_points, u7_home, u7_men, u7_turn, u7_thrower, u7_cube, u7_owner, u7_firms, u7_kindsTold, u7_places, u7_crowds, u7_pipsLeft, u7_notHome⟩ := u7
    replace Y : rY G A s (wBD G h h_firms h_kindsTold h_places h_crowds h_pipsLeft h_notHome u7_points u7_home u7_men u7_turn u7_thrower u7_cube u7_owner u7_firms u7_kindsTold u7_places u7_crowds u7_pipsLeft u7_notHome) H locs := Y
    replace hM := mS hM huu7
    show W p l e q_X2_go s m args below meth c H locs 0 0 Q (F0 m 45 ls [])
    refine r_iload (pc' := 47) X hl 0 rfl 27 rfl rfl ?_
    exact RT (u3, (u7_points, u7_home, u7_men, u7_turn, u7_thrower, u7_cube, u7_owner, u7_firms, u7_kindsTold, u7_places, u7_crowds, u7_pipsLeft, u7_notHome)) _ _ _ _ _ hM (Or.inl ⟨rfl, rfl, _, rfl⟩) (X.d (k := 28) rfl) Y

def M_X2_chosenByRule (S0 : BD) (i1 : Int32) (i2 : Int32) : Option (Int32) :=
  ((lp (σ := Int32 × Int32 × Int32) (β := Int32) (fun rec1 st1 => (if (bd_men S0) ≤ st1.2.2 then (some st1.1) else (if inb st1.2.2 8 = true then (if ((bd_firms S0) (st1.2.2).toNatClampNeg) = i1 then ((M_X2_pipsOf S0 st1.2.2).bind (fun u5 => (if u5 ≤ st1.2.1 then (rec1 (st1.1, st1.2.1, (st1.2.2 + (1 : Int32)))) else ((M_X2_canGo S0 st1.2.2 i2).bind (fun u7 => (if u7 = 0 then (rec1 (st1.1, st1.2.1, (st1.2.2 + (1 : Int32)))) else ((M_X2_pipsOf S0 st1.2.2).bind (fun u9 => (rec1 (st1.2.2, u9, (st1.2.2 + (1 : Int32)))))))))))) else (rec1 (st1.1, st1.2.1, (st1.2.2 + (1 : Int32))))) else none))) 1000000 ((-1000000 : Int32), (0 : Int32), (0 : Int32))).bind (fun b1 => (some b1)))
def q_X2_chosenByRule : Room := { frames := 4, cells := 0, slots := 0, locals := 133 }
set_option maxHeartbeats 4000000 in
set_option maxRecDepth 100000 in
theorem c_X2_chosenByRule (l : Launch) (G : gT) (h h_firms h_kindsTold h_places h_crowds h_pipsLeft h_notHome : Nat) (S0_points : Int32) (S0_home : Int32) (S0_men : Int32) (S0_turn : Int32) (S0_thrower : Int32) (S0_cube : Int32) (S0_owner : Int32) (S0_firms : Nat → Int32) (S0_kindsTold : Nat → Int32) (S0_places : Nat → Int32) (S0_crowds : Nat → Int32) (S0_pipsLeft : Nat → Int32) (S0_notHome : Nat → Int32) (i1 : Int32) (i2 : Int32) : CT l G yX2_chosenByRule cX2_chosenByRule 6 (some .int) q_X2_chosenByRule [.ref h, .int i1, .int i2] (wBD G h h_firms h_kindsTold h_places h_crowds h_pipsLeft h_notHome S0_points S0_home S0_men S0_turn S0_thrower S0_cube S0_owner S0_firms S0_kindsTold S0_places S0_crowds S0_pipsLeft S0_notHome) (M_X2_chosenByRule (S0_points, S0_home, S0_men, S0_turn, S0_thrower, S0_cube, S0_owner, S0_firms, S0_kindsTold, S0_places, S0_crowds, S0_pipsLeft, S0_notHome) i1 i2) (fun u => some (.int u)) (fun u => wBD G h h_firms h_kindsTold h_places h_crowds h_pipsLeft h_notHome S0_points S0_home S0_men S0_turn S0_thrower S0_cube S0_owner S0_firms S0_kindsTold S0_places S0_crowds S0_pipsLeft S0_notHome) := by
  refine CT.of (P := PX2_chosenByRule) (by decide) dPX2_chosenByRule (Nat.le_of_ble_eq_true rfl) ?_
  intro p e s m args below meth c A Q ls hne X RT Y hl
  have hl : lv_has ls 6 [(0, .ref h), (1, .int i1), (2, .int i2)] := hl
  generalize hM : M_X2_chosenByRule (S0_points, S0_home, S0_men, S0_turn, S0_thrower, S0_cube, S0_owner, S0_firms, S0_kindsTold, S0_places, S0_crowds, S0_pipsLeft, S0_notHome) i1 i2 = MM at hne RT
  unfold M_X2_chosenByRule at hM
  refine r_ldc (pc' := 2) X mw63 0 rfl rfl ?_
  refine r_istore_n (pc' := 3) (L' := [(3, .int (-1000000 : Int32)), (0, .ref h), (1, .int i1), (2, .int i2)]) X hl rfl 1 rfl rfl (by decide) rfl (fun ls hl => ?_)
  refine r_iconst (pc' := 4) X (0 : Int32) 2 rfl rfl rfl ?_
  refine r_istore (pc' := 6) (L' := [(4, .int (0 : Int32)), (3, .int (-1000000 : Int32)), (0, .ref h), (1, .int i1), (2, .int i2)]) X hl 3 rfl rfl (by decide) rfl (fun ls hl => ?_)
  refine r_iconst (pc' := 7) X (0 : Int32) 4 rfl rfl rfl ?_
  refine r_istore (pc' := 9) (L' := [(5, .int (0 : Int32)), (4, .int (0 : Int32)), (3, .int (-1000000 : Int32)), (0, .ref h), (1, .int i1), (2, .int i2)]) X hl 5 rfl rfl (by decide) rfl (fun ls hl => ?_)
  obtain ⟨LL1, hL1, hne1, hX1⟩ := mL hM hne
  have KX1 : ∀ (b1 : Int32) (H : Heap) (locs : List Loc) (ls : Array Slot), some b1 = LL1 → rY G A s (wBD G h h_firms h_kindsTold h_places h_crowds h_pipsLeft h_notHome S0_points S0_home S0_men S0_turn S0_thrower S0_cube S0_owner S0_firms S0_kindsTold S0_places S0_crowds S0_pipsLeft S0_notHome) H locs → lv_has ls 6 [(3, .int b1)] → W p l e q_X2_chosenByRule s m args below meth c H locs 0 0 Q (F0 m 67 ls []) := by
    intro b1 H locs ls hM Y hl
    replace hM := hX1 _ hM
    refine r_iload_n (pc' := 68) X hl 0 rfl rfl 34 rfl rfl ?_
    exact RT b1 _ _ _ _ _ hM (Or.inl ⟨rfl, rfl, _, rfl⟩) (X.d (k := 35) rfl) Y
  refine lp_rule (I := fun (st1 : Int32 × Int32 × Int32) => ∀ (H : Heap) (locs : List Loc) (ls : Array Slot), rY G A s (wBD G h h_firms h_kindsTold h_places h_crowds h_pipsLeft h_notHome S0_points S0_home S0_men S0_turn S0_thrower S0_cube S0_owner S0_firms S0_kindsTold S0_places S0_crowds S0_pipsLeft S0_notHome) H locs → lv_has ls 6 [(0, .ref h), (1, .int i1), (2, .int i2), (3, .int st1.1), (4, .int st1.2.1), (5, .int st1.2.2)] → W p l e q_X2_chosenByRule s m args below meth c H locs 0 0 Q (F0 m 9 ls [])) hne1 (fun rec1 st1 IH1 hM => ?_) _ _ hL1 _ _ _ Y (lv_sub hl [3, 4, 5, 2, 1, 0] rfl)
  intro H locs ls Y hl
  obtain ⟨st1_1, st1_2_1, st1_2_2⟩ := st1
  replace Y : rY G A s (wBD G h h_firms h_kindsTold h_places h_crowds h_pipsLeft h_notHome S0_points S0_home S0_men S0_turn S0_thrower S0_cube S0_owner S0_firms S0_kindsTold S0_places S0_crowds S0_pipsLeft S0_notHome) H locs := Y
  replace hl : lv_has ls 6 [(0, .ref h), (1, .int i1), (2, .int i2), (3, .int st1_1), (4, .int st1_2_1), (5, .int st1_2_2)] := hl
  refine r_iload (pc' := 11) X hl 5 rfl 6 rfl rfl ?_
  refine r_aload_n (pc' := 12) X hl 0 rfl rfl 7 rfl rfl ?_
  refine r_get (pc' := 15) (v := .int S0_men) X Y 8 rfl rfl fRX2_41 0 rfl rfl ?_
  refine r_icmp_ge (pc' := 18) X 67 9 rfl rfl (by decide) (fun c2 => ?_) (fun c2 => ?_)
  · replace hM := mI hM c2
    exact KX1 st1_1 _ _ _ hM Y (lv_sub hl [3] rfl)
  · replace hM := mE hM c2
    refine r_aload_n (pc' := 19) X hl 0 rfl rfl 10 rfl rfl ?_
    refine r_get (pc' := 22) (v := .ref h_firms) X Y 11 rfl rfl fRX2_16 0 rfl rfl ?_
    refine r_iload (pc' := 24) X hl 5 rfl 12 rfl rfl ?_
    obtain ⟨g3, hM⟩ := mG hM hne1
    refine r_iald (pc' := 25) X Y 13 rfl rfl 1 rfl (vin g3) ?_
    refine r_iload_n (pc' := 26) X hl 1 rfl rfl 14 rfl rfl ?_
    refine r_icmp_ne (pc' := 29) X 61 15 rfl rfl (by decide) (fun c4 => ?_) (fun c4 => ?_)
    · replace hM := mE hM c4
      refine r_iinc (pc' := 64) (L' := [(5, .int (st1_2_2 + (1 : Int32))), (0, .ref h), (1, .int i1), (2, .int i2), (3, .int st1_1), (4, .int st1_2_1)]) X (st1_2_2 + (1 : Int32)) hl 5 rfl rfl 32 rfl rfl (by decide) rfl (fun ls hl => ?_)
      refine r_goto X 9 33 rfl (by decide) ?_
      exact IH1 _ hM _ _ _ Y (lv_sub hl [1, 2, 3, 4, 5, 0] rfl)
    · replace hM := mI hM c4
      refine r_aload_n (pc' := 30) X hl 0 rfl rfl 16 rfl rfl ?_
      refine r_iload (pc' := 32) X hl 5 rfl 17 rfl rfl ?_
      refine r_callV0 (pc' := 35) (As := [.int st1_2_2]) (rest := []) X Y 18 rfl rfl mRX2_69 (c_X2_pipsOf l G h h_firms h_kindsTold h_places h_crowds h_pipsLeft h_notHome S0_points S0_home S0_men S0_turn S0_thrower S0_cube S0_owner S0_firms S0_kindsTold S0_places S0_crowds S0_pipsLeft S0_notHome st1_2_2) (mB hM hne1) 0 rfl rfl [0, 1, 2, 3, 4, 5, 6] rfl rfl rfl (Nat.le_of_ble_eq_true rfl) ⟨rfl, rfl⟩ ⟨Nat.le_of_ble_eq_true rfl, Nat.le_of_ble_eq_true rfl⟩ ⟨Nat.zero_le _, Nat.zero_le _⟩ hl.1 (st' := fun u5 => [.int u5]) (fun _ => rfl) (fun u5 H locs huu5 Y => ?_)
      replace hM := mS hM huu5
      refine r_iload (pc' := 37) X hl 4 rfl 19 rfl rfl ?_
      refine r_icmp_le (pc' := 40) X 61 20 rfl rfl (by decide) (fun c6 => ?_) (fun c6 => ?_)
      · replace hM := mI hM c6
        refine r_iinc (pc' := 64) (L' := [(5, .int (st1_2_2 + (1 : Int32))), (0, .ref h), (1, .int i1), (2, .int i2), (3, .int st1_1), (4, .int st1_2_1)]) X (st1_2_2 + (1 : Int32)) hl 5 rfl rfl 32 rfl rfl (by decide) rfl (fun ls hl => ?_)
        refine r_goto X 9 33 rfl (by decide) ?_
        exact IH1 _ hM _ _ _ Y (lv_sub hl [1, 2, 3, 4, 5, 0] rfl)
      · replace hM := mE hM c6
        refine r_aload_n (pc' := 41) X hl 0 rfl rfl 21 rfl rfl ?_
        refine r_iload (pc' := 43) X hl 5 rfl 22 rfl rfl ?_
        refine r_iload_n (pc' := 44) X hl 2 rfl rfl 23 rfl rfl ?_
        refine r_callV0 (pc' := 47) (As := [.int st1_2_2, .int i2]) (rest := []) X Y 24 rfl rfl mRX2_107 (c_X2_canGo l G h h_firms h_kindsTold h_places h_crowds h_pipsLeft h_notHome S0_points S0_home S0_men S0_turn S0_thrower S0_cube S0_owner S0_firms S0_kindsTold S0_places S0_crowds S0_pipsLeft S0_notHome st1_2_2 i2) (mB hM hne1) 0 rfl rfl [0, 1, 2, 3, 4, 5, 6] rfl rfl rfl (Nat.le_of_ble_eq_true rfl) ⟨rfl, rfl⟩ ⟨Nat.le_of_ble_eq_true rfl, Nat.le_of_ble_eq_true rfl⟩ ⟨Nat.zero_le _, Nat.zero_le _⟩ hl.1 (st' := fun u7 => [.int u7]) (fun _ => rfl) (fun u7 H locs huu7 Y => ?_)
        replace hM := mS hM huu7
        refine r_if_eq (pc' := 50) X 61 25 rfl rfl (by decide) (fun c8 => ?_) (fun c8 => ?_)
        · replace hM := mI hM c8
          refine r_iinc (pc' := 64) (L' := [(5, .int (st1_2_2 + (1 : Int32))), (0, .ref h), (1, .int i1), (2, .int i2), (3, .int st1_1), (4, .int st1_2_1)]) X (st1_2_2 + (1 : Int32)) hl 5 rfl rfl 32 rfl rfl (by decide) rfl (fun ls hl => ?_)
          refine r_goto X 9 33 rfl (by decide) ?_
          exact IH1 _ hM _ _ _ Y (lv_sub hl [1, 2, 3, 4, 5, 0] rfl)
        · replace hM := mE hM c8
          refine r_iload (pc' := 52) X hl 5 rfl 26 rfl rfl ?_
          refine r_istore_n (pc' := 53) (L' := [(3, .int st1_2_2), (0, .ref h), (1, .int i1), (2, .int i2), (4, .int st1_2_1), (5, .int st1_2_2)]) X hl rfl 27 rfl rfl (by decide) rfl (fun ls hl => ?_)
          refine r_aload_n (pc' := 54) X hl 1 rfl rfl 28 rfl rfl ?_
          refine r_iload (pc' := 56) X hl 5 rfl 29 rfl rfl ?_
          refine r_callV0 (pc' := 59) (As := [.int st1_2_2]) (rest := []) X Y 30 rfl rfl mRX2_69 (c_X2_pipsOf l G h h_firms h_kindsTold h_places h_crowds h_pipsLeft h_notHome S0_points S0_home S0_men S0_turn S0_thrower S0_cube S0_owner S0_firms S0_kindsTold S0_places S0_crowds S0_pipsLeft S0_notHome st1_2_2) (mB hM hne1) 0 rfl rfl [0, 1, 2, 3, 4, 5, 6] rfl rfl rfl (Nat.le_of_ble_eq_true rfl) ⟨rfl, rfl⟩ ⟨Nat.le_of_ble_eq_true rfl, Nat.le_of_ble_eq_true rfl⟩ ⟨Nat.zero_le _, Nat.zero_le _⟩ hl.1 (st' := fun u9 => [.int u9]) (fun _ => rfl) (fun u9 H locs huu9 Y => ?_)
          replace hM := mS hM huu9
          refine r_istore (pc' := 61) (L' := [(4, .int u9), (3, .int st1_2_2), (0, .ref h), (1, .int i1), (2, .int i2), (5, .int st1_2_2)]) X hl 31 rfl rfl (by decide) rfl (fun ls hl => ?_)
          refine r_iinc (pc' := 64) (L' := [(5, .int (st1_2_2 + (1 : Int32))), (4, .int u9), (3, .int st1_2_2), (0, .ref h), (1, .int i1), (2, .int i2)]) X (st1_2_2 + (1 : Int32)) hl 5 rfl rfl 32 rfl rfl (by decide) rfl (fun ls hl => ?_)
          refine r_goto X 9 33 rfl (by decide) ?_
          exact IH1 _ hM _ _ _ Y (lv_sub hl [3, 4, 5, 2, 1, 0] rfl)

def M_X2_passThrow (S0 : BD) : Option (BD) :=
  (some (bd_s_thrower (bd_s_turn S0 ((bd_turn S0) + (1 : Int32))) ((1 : Int32) - (bd_thrower S0))))
def q_X2_passThrow : Room := { frames := 1, cells := 0, slots := 0, locals := 60 }
set_option maxHeartbeats 4000000 in
set_option maxRecDepth 100000 in
theorem c_X2_passThrow (l : Launch) (G : gT) (h h_firms h_kindsTold h_places h_crowds h_pipsLeft h_notHome : Nat) (S0_points : Int32) (S0_home : Int32) (S0_men : Int32) (S0_turn : Int32) (S0_thrower : Int32) (S0_cube : Int32) (S0_owner : Int32) (S0_firms : Nat → Int32) (S0_kindsTold : Nat → Int32) (S0_places : Nat → Int32) (S0_crowds : Nat → Int32) (S0_pipsLeft : Nat → Int32) (S0_notHome : Nat → Int32) : CT l G yX2_passThrow cX2_passThrow 1 none q_X2_passThrow [.ref h] (wBD G h h_firms h_kindsTold h_places h_crowds h_pipsLeft h_notHome S0_points S0_home S0_men S0_turn S0_thrower S0_cube S0_owner S0_firms S0_kindsTold S0_places S0_crowds S0_pipsLeft S0_notHome) (M_X2_passThrow (S0_points, S0_home, S0_men, S0_turn, S0_thrower, S0_cube, S0_owner, S0_firms, S0_kindsTold, S0_places, S0_crowds, S0_pipsLeft, S0_notHome)) (fun u => none) (fun u => wBD G h h_firms h_kindsTold h_places h_crowds h_pipsLeft h_notHome u.1 u.2.1 u.2.2.1 u.2.2.2.1 u.2.2.2.2.1 u.2.2.2.2.2.1 u.2.2.2.2.2.2.1 u.2.2.2.2.2.2.2.1 u.2.2.2.2.2.2.2.2.1 u.2.2.2.2.2.2.2.2.2.1 u.2.2.2.2.2.2.2.2.2.2.1 u.2.2.2.2.2.2.2.2.2.2.2.1 u.2.2.2.2.2.2.2.2.2.2.2.2) := by
  refine CT.of (P := PX2_passThrow) (by decide) dPX2_passThrow (Nat.le_of_ble_eq_true rfl) ?_
  intro p e s m args below meth c A Q ls hne X RT Y hl
  have hl : lv_has ls 1 [(0, .ref h)] := hl
  generalize hM : M_X2_passThrow (S0_points, S0_home, S0_men, S0_turn, S0_thrower, S0_cube, S0_owner, S0_firms, S0_kindsTold, S0_places, S0_crowds, S0_pipsLeft, S0_notHome) = MM at hne RT
  unfold M_X2_passThrow at hM
  refine r_aload_n (pc' := 1) X hl 0 rfl rfl 0 rfl rfl ?_
  refine r_iconst (pc' := 2) X (1 : Int32) 1 rfl rfl rfl ?_
  refine r_aload_n (pc' := 3) X hl 0 rfl rfl 2 rfl rfl ?_
  refine r_get (pc' := 6) (v := .int S0_thrower) X Y 3 rfl rfl fRX2_47 0 rfl rfl ?_
  refine r_isub (pc' := 7) X 4 rfl rfl ?_
  refine r_put (pc' := 10) (ws' := wBD G h h_firms h_kindsTold h_places h_crowds h_pipsLeft h_notHome S0_points S0_home S0_men S0_turn ((1 : Int32) - S0_thrower) S0_cube S0_owner S0_firms S0_kindsTold S0_places S0_crowds S0_pipsLeft S0_notHome) X Y 5 rfl rfl fRX2_47 0 rfl rfl rfl (Nat.le_of_ble_eq_true rfl) rfl (fun H locs Y => ?_)
  refine r_aload_n (pc' := 11) X hl 0 rfl rfl 6 rfl rfl ?_
  refine r_dup (pc' := 12) X 7 rfl rfl rfl ?_
  refine r_get (pc' := 15) (v := .int S0_turn) X Y 8 rfl rfl fRX2_44 0 rfl rfl ?_
  refine r_iconst (pc' := 16) X (1 : Int32) 9 rfl rfl rfl ?_
  refine r_iadd (pc' := 17) X 10 rfl rfl ?_
  refine r_put (pc' := 20) (ws' := wBD G h h_firms h_kindsTold h_places h_crowds h_pipsLeft h_notHome S0_points S0_home S0_men (S0_turn + (1 : Int32)) ((1 : Int32) - S0_thrower) S0_cube S0_owner S0_firms S0_kindsTold S0_places S0_crowds S0_pipsLeft S0_notHome) X Y 11 rfl rfl fRX2_44 0 rfl rfl rfl (Nat.le_of_ble_eq_true rfl) rfl (fun H locs Y => ?_)
  exact RT (S0_points, S0_home, S0_men, (S0_turn + (1 : Int32)), ((1 : Int32) - S0_thrower), S0_cube, S0_owner, S0_firms, S0_kindsTold, S0_places, S0_crowds, S0_pipsLeft, S0_notHome) _ _ _ _ _ hM (Or.inr (Or.inr (Or.inr (Or.inl ⟨rfl, rfl, rfl⟩)))) (X.d (k := 12) rfl) Y

def M_X2_turnByRule (S0 : BD) (i1 : Int32) : Option (Int32 × BD) :=
  ((M_X2_chosenByRule S0 (bd_thrower S0) i1).bind (fun u1 => (jn (σ := BD) (fun v2 => ((M_X2_passThrow v2).bind (fun u3 => (some (u1, u3))))) (fun J2 => (if u1 = (-1000000 : Int32) then (J2 S0) else ((M_X2_go S0 u1 i1).bind (fun u5 => (J2 u5.2))))))))
def q_X2_turnByRule : Room := { frames := 5, cells := 0, slots := 0, locals := 158 }
set_option maxHeartbeats 4000000 in
set_option maxRecDepth 100000 in
theorem c_X2_turnByRule (l : Launch) (G : gT) (h h_firms h_kindsTold h_places h_crowds h_pipsLeft h_notHome : Nat) (S0_points : Int32) (S0_home : Int32) (S0_men : Int32) (S0_turn : Int32) (S0_thrower : Int32) (S0_cube : Int32) (S0_owner : Int32) (S0_firms : Nat → Int32) (S0_kindsTold : Nat → Int32) (S0_places : Nat → Int32) (S0_crowds : Nat → Int32) (S0_pipsLeft : Nat → Int32) (S0_notHome : Nat → Int32) (i1 : Int32) : CT l G yX2_turnByRule cX2_turnByRule 3 (some .int) q_X2_turnByRule [.ref h, .int i1] (wBD G h h_firms h_kindsTold h_places h_crowds h_pipsLeft h_notHome S0_points S0_home S0_men S0_turn S0_thrower S0_cube S0_owner S0_firms S0_kindsTold S0_places S0_crowds S0_pipsLeft S0_notHome) (M_X2_turnByRule (S0_points, S0_home, S0_men, S0_turn, S0_thrower, S0_cube, S0_owner, S0_firms, S0_kindsTold, S0_places, S0_crowds, S0_pipsLeft, S0_notHome) i1) (fun u => some (.int u.1)) (fun u => wBD G h h_firms h_kindsTold h_places h_crowds h_pipsLeft h_notHome u.2.1 u.2.2.1 u.2.2.2.1 u.2.2.2.2.1 u.2.2.2.2.2.1 u.2.2.2.2.2.2.1 u.2.2.2.2.2.2.2.1 u.2.2.2.2.2.2.2.2.1 u.2.2.2.2.2.2.2.2.2.1 u.2.2.2.2.2.2.2.2.2.2.1 u.2.2.2.2.2.2.2.2.2.2.2.1 u.2.2.2.2.2.2.2.2.2.2.2.2.1 u.2.2.2.2.2.2.2.2.2.2.2.2.2) := by
  refine CT.of (P := PX2_turnByRule) (by decide) dPX2_turnByRule (Nat.le_of_ble_eq_true rfl) ?_
  intro p e s m args below meth c A Q ls hne X RT Y hl
  have hl : lv_has ls 3 [(0, .ref h), (1, .int i1)] := hl
  generalize hM : M_X2_turnByRule (S0_points, S0_home, S0_men, S0_turn, S0_thrower, S0_cube, S0_owner, S0_firms, S0_kindsTold, S0_places, S0_crowds, S0_pipsLeft, S0_notHome) i1 = MM at hne RT
  unfold M_X2_turnByRule at hM
  refine r_aload_n (pc' := 1) X hl 0 rfl rfl 0 rfl rfl ?_
  refine r_aload_n (pc' := 2) X hl 0 rfl rfl 1 rfl rfl ?_
  refine r_get (pc' := 5) (v := .int S0_thrower) X Y 2 rfl rfl fRX2_47 0 rfl rfl ?_
  refine r_iload_n (pc' := 6) X hl 1 rfl rfl 3 rfl rfl ?_
  refine r_callV0 (pc' := 9) (As := [.int S0_thrower, .int i1]) (rest := []) X Y 4 rfl rfl mRX2_110 (c_X2_chosenByRule l G h h_firms h_kindsTold h_places h_crowds h_pipsLeft h_notHome S0_points S0_home S0_men S0_turn S0_thrower S0_cube S0_owner S0_firms S0_kindsTold S0_places S0_crowds S0_pipsLeft S0_notHome S0_thrower i1) (mB hM hne) 0 rfl rfl [0, 1, 2, 3, 4, 5, 6] rfl rfl rfl (Nat.le_of_ble_eq_true rfl) ⟨rfl, rfl⟩ ⟨Nat.le_of_ble_eq_true rfl, Nat.le_of_ble_eq_true rfl⟩ ⟨Nat.zero_le _, Nat.zero_le _⟩ hl.1 (st' := fun u1 => [.int u1]) (fun _ => rfl) (fun u1 H locs huu1 Y => ?_)
  replace hM := mS hM huu1
  refine r_istore_n (pc' := 10) (L' := [(2, .int u1), (0, .ref h), (1, .int i1)]) X hl rfl 5 rfl rfl (by decide) rfl (fun ls hl => ?_)
  refine r_iload_n (pc' := 11) X hl 0 rfl rfl 6 rfl rfl ?_
  refine r_ldc (pc' := 13) X mw63 7 rfl rfl ?_
  obtain ⟨J2, hJ2, hM⟩ := mJ hM
  have KJ2 : ∀ (v2_points : Int32) (v2_home : Int32) (v2_men : Int32) (v2_turn : Int32) (v2_thrower : Int32) (v2_cube : Int32) (v2_owner : Int32) (v2_firms : Nat → Int32) (v2_kindsTold : Nat → Int32) (v2_places : Nat → Int32) (v2_crowds : Nat → Int32) (v2_pipsLeft : Nat → Int32) (v2_notHome : Nat → Int32) (H : Heap) (locs : List Loc) (ls : Array Slot), J2 (v2_points, v2_home, v2_men, v2_turn, v2_thrower, v2_cube, v2_owner, v2_firms, v2_kindsTold, v2_places, v2_crowds, v2_pipsLeft, v2_notHome) = MM → rY G A s (wBD G h h_firms h_kindsTold h_places h_crowds h_pipsLeft h_notHome v2_points v2_home v2_men v2_turn v2_thrower v2_cube v2_owner v2_firms v2_kindsTold v2_places v2_crowds v2_pipsLeft v2_notHome) H locs → lv_has ls 3 [(0, .ref h), (2, .int u1)] → W p l e q_X2_turnByRule s m args below meth c H locs 0 0 Q (F0 m 23 ls []) := by
    intro v2_points v2_home v2_men v2_turn v2_thrower v2_cube v2_owner v2_firms v2_kindsTold v2_places v2_crowds v2_pipsLeft v2_notHome H locs ls hM Y hl
    replace hM := (hJ2 _).symm.trans hM
    refine r_aload_n (pc' := 24) X hl 0 rfl rfl 14 rfl rfl ?_
    refine r_callV (pc' := 27) (As := []) (rest := []) (wr := ([] : va_W)) X Y 15 rfl rfl mRX2_116 (c_X2_passThrow l G h h_firms h_kindsTold h_places h_crowds h_pipsLeft h_notHome v2_points v2_home v2_men v2_turn v2_thrower v2_cube v2_owner v2_firms v2_kindsTold v2_places v2_crowds v2_pipsLeft v2_notHome) (mB hM hne) 0 rfl rfl [0, 1, 2, 3, 4, 5, 6] [] [0, 1, 2, 3, 4, 5, 6] rfl rfl ⟨rfl, rfl, rfl⟩ rfl (w2 := fun u3 => wBD G h h_firms h_kindsTold h_places h_crowds h_pipsLeft h_notHome u3.1 u3.2.1 u3.2.2.1 u3.2.2.2.1 u3.2.2.2.2.1 u3.2.2.2.2.2.1 u3.2.2.2.2.2.2.1 u3.2.2.2.2.2.2.2.1 u3.2.2.2.2.2.2.2.2.1 u3.2.2.2.2.2.2.2.2.2.1 u3.2.2.2.2.2.2.2.2.2.2.1 u3.2.2.2.2.2.2.2.2.2.2.2.1 u3.2.2.2.2.2.2.2.2.2.2.2.2) (fun _ => rfl) rfl (Nat.le_of_ble_eq_true rfl) ⟨rfl, rfl⟩ ⟨Nat.le_of_ble_eq_true rfl, Nat.le_of_ble_eq_true rfl⟩ ⟨Nat.zero_le _, Nat.zero_le _⟩ hl.1 (st' := fun u3 => []) (fun _ => rfl) (fun u3 H locs huu3 Y => ?_)
    obtain ⟨u3_points, u3_home, u3_men, u3_turn, u3_thrower, u3_cube, u3_owner, u3_firms, u3_kindsTold, u3_places, u3_crowds, u3_pipsLeft, u3_notHome⟩ := u3
    replace Y : rY G A s (wBD G h h_firms h_kindsTold h_places h_crowds h_pipsLeft h_notHome u3_points u3_home u3_men u3_turn u3_thrower u3_cube u3_owner u3_firms u3_kindsTold u3_places u3_crowds u3_pipsLeft u3_notHome) H locs := Y
    replace hM := mS hM huu3
    show W p l e q_X2_turnByRule s m args below meth c H locs 0 0 Q (F0 m 27 ls [])
    refine r_iload_n (pc' := 28) X hl 1 rfl rfl 16 rfl rfl ?_
    exact RT (u1, (u3_points, u3_home, u3_men, u3_turn, u3_thrower, u3_cube, u3_owner, u3_firms, u3_kindsTold, u3_places, u3_crowds, u3_pipsLeft, u3_notHome)) _ _ _ _ _ hM (Or.inl ⟨rfl, rfl, _, rfl⟩) (X.d (k := 17) rfl) Y
  refine r_icmp_eq (pc' := 16) X 23 8 rfl rfl (by decide) (fun c4 => ?_) (fun c4 => ?_)
  · replace hM := mI hM c4
    exact KJ2 S0_points S0_home S0_men S0_turn S0_thrower S0_cube S0_owner S0_firms S0_kindsTold S0_places S0_crowds S0_pipsLeft S0_notHome _ _ _ hM Y (lv_sub hl [1, 0] rfl)
  · replace hM := mE hM c4
    refine r_aload_n (pc' := 17) X hl 1 rfl rfl 9 rfl rfl ?_
    refine r_iload_n (pc' := 18) X hl 0 rfl rfl 10 rfl rfl ?_
    refine r_iload_n (pc' := 19) X hl 2 rfl rfl 11 rfl rfl ?_
    refine r_callV (pc' := 22) (As := [.int u1, .int i1]) (rest := []) (wr := ([] : va_W)) X Y 12 rfl rfl mRX2_113 (c_X2_go l G h h_firms h_kindsTold h_places h_crowds h_pipsLeft h_notHome S0_points S0_home S0_men S0_turn S0_thrower S0_cube S0_owner S0_firms S0_kindsTold S0_places S0_crowds S0_pipsLeft S0_notHome u1 i1) (mB hM hne) 0 rfl rfl [0, 1, 2, 3, 4, 5, 6] [] [0, 1, 2, 3, 4, 5, 6] rfl rfl ⟨rfl, rfl, rfl⟩ rfl (w2 := fun u5 => wBD G h h_firms h_kindsTold h_places h_crowds h_pipsLeft h_notHome u5.2.1 u5.2.2.1 u5.2.2.2.1 u5.2.2.2.2.1 u5.2.2.2.2.2.1 u5.2.2.2.2.2.2.1 u5.2.2.2.2.2.2.2.1 u5.2.2.2.2.2.2.2.2.1 u5.2.2.2.2.2.2.2.2.2.1 u5.2.2.2.2.2.2.2.2.2.2.1 u5.2.2.2.2.2.2.2.2.2.2.2.1 u5.2.2.2.2.2.2.2.2.2.2.2.2.1 u5.2.2.2.2.2.2.2.2.2.2.2.2.2) (fun _ => rfl) rfl (Nat.le_of_ble_eq_true rfl) ⟨rfl, rfl⟩ ⟨Nat.le_of_ble_eq_true rfl, Nat.le_of_ble_eq_true rfl⟩ ⟨Nat.zero_le _, Nat.zero_le _⟩ hl.1 (st' := fun u5 => [.int u5.1]) (fun _ => rfl) (fun u5 H locs huu5 Y => ?_)
    obtain ⟨u5_1, ⟨u5_2_points, u5_2_home, u5_2_men, u5_2_turn, u5_2_thrower, u5_2_cube, u5_2_owner, u5_2_firms, u5_2_kindsTold, u5_2_places, u5_2_crowds, u5_2_pipsLeft, u5_2_notHome⟩⟩ := u5
    replace Y : rY G A s (wBD G h h_firms h_kindsTold h_places h_crowds h_pipsLeft h_notHome u5_2_points u5_2_home u5_2_men u5_2_turn u5_2_thrower u5_2_cube u5_2_owner u5_2_firms u5_2_kindsTold u5_2_places u5_2_crowds u5_2_pipsLeft u5_2_notHome) H locs := Y
    replace hM := mS hM huu5
    show W p l e q_X2_turnByRule s m args below meth c H locs 0 0 Q (F0 m 22 ls [.int u5_1])
    refine r_pop (pc' := 23) X 13 rfl rfl rfl ?_
    exact KJ2 u5_2_points u5_2_home u5_2_men u5_2_turn u5_2_thrower u5_2_cube u5_2_owner u5_2_firms u5_2_kindsTold u5_2_places u5_2_crowds u5_2_pipsLeft u5_2_notHome _ _ _ hM Y (lv_sub hl [1, 0] rfl)

def M_X2_menWhoCan (S0 : BD) (i1 : Int32) (i2 : Int32) : Option (Int32) :=
  ((lp (σ := Int32 × Int32) (β := Int32) (fun rec1 st1 => (if (bd_men S0) ≤ st1.2 then (some st1.1) else (if inb st1.2 8 = true then (if ((bd_firms S0) (st1.2).toNatClampNeg) = i1 then ((M_X2_canGo S0 st1.2 i2).bind (fun u5 => (if u5 = 0 then (rec1 (st1.1, (st1.2 + (1 : Int32)))) else (rec1 ((st1.1 ||| ((1 : Int32) <<< (st1.2 &&& 31))), (st1.2 + (1 : Int32))))))) else (rec1 (st1.1, (st1.2 + (1 : Int32))))) else none))) 1000000 ((0 : Int32), (0 : Int32))).bind (fun b1 => (some b1)))
def q_X2_menWhoCan : Room := { frames := 4, cells := 0, slots := 0, locals := 133 }
set_option maxHeartbeats 4000000 in
set_option maxRecDepth 100000 in
theorem c_X2_menWhoCan (l : Launch) (G : gT) (h h_firms h_kindsTold h_places h_crowds h_pipsLeft h_notHome : Nat) (S0_points : Int32) (S0_home : Int32) (S0_men : Int32) (S0_turn : Int32) (S0_thrower : Int32) (S0_cube : Int32) (S0_owner : Int32) (S0_firms : Nat → Int32) (S0_kindsTold : Nat → Int32) (S0_places : Nat → Int32) (S0_crowds : Nat → Int32) (S0_pipsLeft : Nat → Int32) (S0_notHome : Nat → Int32) (i1 : Int32) (i2 : Int32) : CT l G yX2_menWhoCan cX2_menWhoCan 5 (some .int) q_X2_menWhoCan [.ref h, .int i1, .int i2] (wBD G h h_firms h_kindsTold h_places h_crowds h_pipsLeft h_notHome S0_points S0_home S0_men S0_turn S0_thrower S0_cube S0_owner S0_firms S0_kindsTold S0_places S0_crowds S0_pipsLeft S0_notHome) (M_X2_menWhoCan (S0_points, S0_home, S0_men, S0_turn, S0_thrower, S0_cube, S0_owner, S0_firms, S0_kindsTold, S0_places, S0_crowds, S0_pipsLeft, S0_notHome) i1 i2) (fun u => some (.int u)) (fun u => wBD G h h_firms h_kindsTold h_places h_crowds h_pipsLeft h_notHome S0_points S0_home S0_men S0_turn S0_thrower S0_cube S0_owner S0_firms S0_kindsTold S0_places S0_crowds S0_pipsLeft S0_notHome) := by
  refine CT.of (P := PX2_menWhoCan) (by decide) dPX2_menWhoCan (Nat.le_of_ble_eq_true rfl) ?_
  intro p e s m args below meth c A Q ls hne X RT Y hl
  have hl : lv_has ls 5 [(0, .ref h), (1, .int i1), (2, .int i2)] := hl
  generalize hM : M_X2_menWhoCan (S0_points, S0_home, S0_men, S0_turn, S0_thrower, S0_cube, S0_owner, S0_firms, S0_kindsTold, S0_places, S0_crowds, S0_pipsLeft, S0_notHome) i1 i2 = MM at hne RT
  unfold M_X2_menWhoCan at hM
  refine r_iconst (pc' := 1) X (0 : Int32) 0 rfl rfl rfl ?_
  refine r_istore_n (pc' := 2) (L' := [(3, .int (0 : Int32)), (0, .ref h), (1, .int i1), (2, .int i2)]) X hl rfl 1 rfl rfl (by decide) rfl (fun ls hl => ?_)
  refine r_iconst (pc' := 3) X (0 : Int32) 2 rfl rfl rfl ?_
  refine r_istore (pc' := 5) (L' := [(4, .int (0 : Int32)), (3, .int (0 : Int32)), (0, .ref h), (1, .int i1), (2, .int i2)]) X hl 3 rfl rfl (by decide) rfl (fun ls hl => ?_)
  obtain ⟨LL1, hL1, hne1, hX1⟩ := mL hM hne
  have KX1 : ∀ (b1 : Int32) (H : Heap) (locs : List Loc) (ls : Array Slot), some b1 = LL1 → rY G A s (wBD G h h_firms h_kindsTold h_places h_crowds h_pipsLeft h_notHome S0_points S0_home S0_men S0_turn S0_thrower S0_cube S0_owner S0_firms S0_kindsTold S0_places S0_crowds S0_pipsLeft S0_notHome) H locs → lv_has ls 5 [(3, .int b1)] → W p l e q_X2_menWhoCan s m args below meth c H locs 0 0 Q (F0 m 48 ls []) := by
    intro b1 H locs ls hM Y hl
    replace hM := hX1 _ hM
    refine r_iload_n (pc' := 49) X hl 0 rfl rfl 27 rfl rfl ?_
    exact RT b1 _ _ _ _ _ hM (Or.inl ⟨rfl, rfl, _, rfl⟩) (X.d (k := 28) rfl) Y
  refine lp_rule (I := fun (st1 : Int32 × Int32) => ∀ (H : Heap) (locs : List Loc) (ls : Array Slot), rY G A s (wBD G h h_firms h_kindsTold h_places h_crowds h_pipsLeft h_notHome S0_points S0_home S0_men S0_turn S0_thrower S0_cube S0_owner S0_firms S0_kindsTold S0_places S0_crowds S0_pipsLeft S0_notHome) H locs → lv_has ls 5 [(0, .ref h), (1, .int i1), (2, .int i2), (3, .int st1.1), (4, .int st1.2)] → W p l e q_X2_menWhoCan s m args below meth c H locs 0 0 Q (F0 m 5 ls [])) hne1 (fun rec1 st1 IH1 hM => ?_) _ _ hL1 _ _ _ Y (lv_sub hl [2, 3, 4, 1, 0] rfl)
  intro H locs ls Y hl
  obtain ⟨st1_1, st1_2⟩ := st1
  replace Y : rY G A s (wBD G h h_firms h_kindsTold h_places h_crowds h_pipsLeft h_notHome S0_points S0_home S0_men S0_turn S0_thrower S0_cube S0_owner S0_firms S0_kindsTold S0_places S0_crowds S0_pipsLeft S0_notHome) H locs := Y
  replace hl : lv_has ls 5 [(0, .ref h), (1, .int i1), (2, .int i2), (3, .int st1_1), (4, .int st1_2)] := hl
  refine r_iload (pc' := 7) X hl 4 rfl 4 rfl rfl ?_
  refine r_aload_n (pc' := 8) X hl 0 rfl rfl 5 rfl rfl ?_
  refine r_get (pc' := 11) (v := .int S0_men) X Y 6 rfl rfl fRX2_41 0 rfl rfl ?_
  refine r_icmp_ge (pc' := 14) X 48 7 rfl rfl (by decide) (fun c2 => ?_) (fun c2 => ?_)
  · replace hM := mI hM c2
    exact KX1 st1_1 _ _ _ hM Y (lv_sub hl [3] rfl)
  · replace hM := mE hM c2
    refine r_aload_n (pc' := 15) X hl 0 rfl rfl 8 rfl rfl ?_
    refine r_get (pc' := 18) (v := .ref h_firms) X Y 9 rfl rfl fRX2_16 0 rfl rfl ?_
    refine r_iload (pc' := 20) X hl 4 rfl 10 rfl rfl ?_
    obtain ⟨g3, hM⟩ := mG hM hne1
    refine r_iald (pc' := 21) X Y 11 rfl rfl 1 rfl (vin g3) ?_
    refine r_iload_n (pc' := 22) X hl 1 rfl rfl 12 rfl rfl ?_
    refine r_icmp_ne (pc' := 25) X 42 13 rfl rfl (by decide) (fun c4 => ?_) (fun c4 => ?_)
    · replace hM := mE hM c4
      refine r_iinc (pc' := 45) (L' := [(4, .int (st1_2 + (1 : Int32))), (0, .ref h), (1, .int i1), (2, .int i2), (3, .int st1_1)]) X (st1_2 + (1 : Int32)) hl 4 rfl rfl 25 rfl rfl (by decide) rfl (fun ls hl => ?_)
      refine r_goto X 5 26 rfl (by decide) ?_
      exact IH1 _ hM _ _ _ Y (lv_sub hl [1, 2, 3, 4, 0] rfl)
    · replace hM := mI hM c4
      refine r_aload_n (pc' := 26) X hl 0 rfl rfl 14 rfl rfl ?_
      refine r_iload (pc' := 28) X hl 4 rfl 15 rfl rfl ?_
      refine r_iload_n (pc' := 29) X hl 2 rfl rfl 16 rfl rfl ?_
      refine r_callV0 (pc' := 32) (As := [.int st1_2, .int i2]) (rest := []) X Y 17 rfl rfl mRX2_107 (c_X2_canGo l G h h_firms h_kindsTold h_places h_crowds h_pipsLeft h_notHome S0_points S0_home S0_men S0_turn S0_thrower S0_cube S0_owner S0_firms S0_kindsTold S0_places S0_crowds S0_pipsLeft S0_notHome st1_2 i2) (mB hM hne1) 0 rfl rfl [0, 1, 2, 3, 4, 5, 6] rfl rfl rfl (Nat.le_of_ble_eq_true rfl) ⟨rfl, rfl⟩ ⟨Nat.le_of_ble_eq_true rfl, Nat.le_of_ble_eq_true rfl⟩ ⟨Nat.zero_le _, Nat.zero_le _⟩ hl.1 (st' := fun u5 => [.int u5]) (fun _ => rfl) (fun u5 H locs huu5 Y => ?_)
      replace hM := mS hM huu5
      refine r_if_eq (pc' := 35) X 42 18 rfl rfl (by decide) (fun c6 => ?_) (fun c6 => ?_)
      · replace hM := mI hM c6
        refine r_iinc (pc' := 45) (L' := [(4, .int (st1_2 + (1 : Int32))), (0, .ref h), (1, .int i1), (2, .int i2), (3, .int st1_1)]) X (st1_2 + (1 : Int32)) hl 4 rfl rfl 25 rfl rfl (by decide) rfl (fun ls hl => ?_)
        refine r_goto X 5 26 rfl (by decide) ?_
        exact IH1 _ hM _ _ _ Y (lv_sub hl [1, 2, 3, 4, 0] rfl)
      · replace hM := mE hM c6
        refine r_iload_n (pc' := 36) X hl 3 rfl rfl 19 rfl rfl ?_
        refine r_iconst (pc' := 37) X (1 : Int32) 20 rfl rfl rfl ?_
        refine r_iload (pc' := 39) X hl 4 rfl 21 rfl rfl ?_
        refine r_ishl (pc' := 40) X 22 rfl rfl ?_
        refine r_ior (pc' := 41) X 23 rfl rfl ?_
        refine r_istore_n (pc' := 42) (L' := [(3, .int (st1_1 ||| ((1 : Int32) <<< (st1_2 &&& 31)))), (0, .ref h), (1, .int i1), (2, .int i2), (4, .int st1_2)]) X hl rfl 24 rfl rfl (by decide) rfl (fun ls hl => ?_)
        refine r_iinc (pc' := 45) (L' := [(4, .int (st1_2 + (1 : Int32))), (3, .int (st1_1 ||| ((1 : Int32) <<< (st1_2 &&& 31)))), (0, .ref h), (1, .int i1), (2, .int i2)]) X (st1_2 + (1 : Int32)) hl 4 rfl rfl 25 rfl rfl (by decide) rfl (fun ls hl => ?_)
        refine r_goto X 5 26 rfl (by decide) ?_
        exact IH1 _ hM _ _ _ Y (lv_sub hl [2, 3, 4, 1, 0] rfl)

def M_X2_hits (S0 : BD) (i1 : Int32) (i2 : Int32) (i3 : Int32) : Option (Int32) :=
  (if inb i3 8 = true then (if inb i1 8 = true then (if ((bd_firms S0) (i1).toNatClampNeg) = ((bd_firms S0) (i3).toNatClampNeg) then (some (0 : Int32)) else ((M_X2_aim S0 i1 i2).bind (fun u4 => (if u4 = ((bd_places S0) (i3).toNatClampNeg) then ((M_X2_crowd S0 (((bd_firms S0) (i3).toNatClampNeg)) (((bd_places S0) (i3).toNatClampNeg))).bind (fun u6 => (if u6 = (1 : Int32) then ((M_X2_canGo S0 i1 i2).bind (fun u8 => (if u8 = 0 then (some (0 : Int32)) else (some (1 : Int32))))) else (some (0 : Int32))))) else (some (0 : Int32)))))) else none) else none)
def q_X2_hits : Room := { frames := 4, cells := 0, slots := 0, locals := 133 }
set_option maxHeartbeats 4000000 in
set_option maxRecDepth 100000 in
theorem c_X2_hits (l : Launch) (G : gT) (h h_firms h_kindsTold h_places h_crowds h_pipsLeft h_notHome : Nat) (S0_points : Int32) (S0_home : Int32) (S0_men : Int32) (S0_turn : Int32) (S0_thrower : Int32) (S0_cube : Int32) (S0_owner : Int32) (S0_firms : Nat → Int32) (S0_kindsTold : Nat → Int32) (S0_places : Nat → Int32) (S0_crowds : Nat → Int32) (S0_pipsLeft : Nat → Int32) (S0_notHome : Nat → Int32) (i1 : Int32) (i2 : Int32) (i3 : Int32) : CT l G yX2_hits cX2_hits 5 (some .boolean) q_X2_hits [.ref h, .int i1, .int i2, .int i3] (wBD G h h_firms h_kindsTold h_places h_crowds h_pipsLeft h_notHome S0_points S0_home S0_men S0_turn S0_thrower S0_cube S0_owner S0_firms S0_kindsTold S0_places S0_crowds S0_pipsLeft S0_notHome) (M_X2_hits (S0_points, S0_home, S0_men, S0_turn, S0_thrower, S0_cube, S0_owner, S0_firms, S0_kindsTold, S0_places, S0_crowds, S0_pipsLeft, S0_notHome) i1 i2 i3) (fun u => some (.int u)) (fun u => wBD G h h_firms h_kindsTold h_places h_crowds h_pipsLeft h_notHome S0_points S0_home S0_men S0_turn S0_thrower S0_cube S0_owner S0_firms S0_kindsTold S0_places S0_crowds S0_pipsLeft S0_notHome) := by
  refine CT.of (P := PX2_hits) (by decide) dPX2_hits (Nat.le_of_ble_eq_true rfl) ?_
  intro p e s m args below meth c A Q ls hne X RT Y hl
  have hl : lv_has ls 5 [(0, .ref h), (1, .int i1), (2, .int i2), (3, .int i3)] := hl
  generalize hM : M_X2_hits (S0_points, S0_home, S0_men, S0_turn, S0_thrower, S0_cube, S0_owner, S0_firms, S0_kindsTold, S0_places, S0_crowds, S0_pipsLeft, S0_notHome) i1 i2 i3 = MM at hne RT
  unfold M_X2_hits at hM
  refine r_aload_n (pc' := 1) X hl 0 rfl rfl 0 rfl rfl ?_
  refine r_get (pc' := 4) (v := .ref h_firms) X Y 1 rfl rfl fRX2_16 0 rfl rfl ?_
  refine r_iload_n (pc' := 5) X hl 3 rfl rfl 2 rfl rfl ?_
  obtain ⟨g1, hM⟩ := mG hM hne
  refine r_iald (pc' := 6) X Y 3 rfl rfl 1 rfl (vin g1) ?_
  refine r_istore (pc' := 8) (L' := [(4, .int (S0_firms (i3).toNatClampNeg)), (0, .ref h), (1, .int i1), (2, .int i2), (3, .int i3)]) X hl 4 rfl rfl (by decide) rfl (fun ls hl => ?_)
  refine r_aload_n (pc' := 9) X hl 1 rfl rfl 5 rfl rfl ?_
  refine r_get (pc' := 12) (v := .ref h_firms) X Y 6 rfl rfl fRX2_16 0 rfl rfl ?_
  refine r_iload_n (pc' := 13) X hl 2 rfl rfl 7 rfl rfl ?_
  obtain ⟨g2, hM⟩ := mG hM hne
  refine r_iald (pc' := 14) X Y 8 rfl rfl 1 rfl (vin g2) ?_
  refine r_iload (pc' := 16) X hl 0 rfl 9 rfl rfl ?_
  refine r_icmp_eq (pc' := 19) X 63 10 rfl rfl (by decide) (fun c3 => ?_) (fun c3 => ?_)
  · replace hM := mI hM c3
    refine r_iconst (pc' := 64) X (0 : Int32) 36 rfl rfl rfl ?_
    exact RT (0 : Int32) _ _ _ _ _ hM (Or.inr (Or.inl ⟨rfl, rfl, _, rfl, nb (Or.inl rfl)⟩)) (X.d (k := 37) rfl) Y
  · replace hM := mE hM c3
    refine r_aload_n (pc' := 20) X hl 1 rfl rfl 11 rfl rfl ?_
    refine r_iload_n (pc' := 21) X hl 2 rfl rfl 12 rfl rfl ?_
    refine r_iload_n (pc' := 22) X hl 3 rfl rfl 13 rfl rfl ?_
    refine r_callV0 (pc' := 25) (As := [.int i1, .int i2]) (rest := []) X Y 14 rfl rfl mRX2_91 (c_X2_aim l G h h_firms h_kindsTold h_places h_crowds h_pipsLeft h_notHome S0_points S0_home S0_men S0_turn S0_thrower S0_cube S0_owner S0_firms S0_kindsTold S0_places S0_crowds S0_pipsLeft S0_notHome i1 i2) (mB hM hne) 0 rfl rfl [0, 1, 2, 3, 4, 5, 6] rfl rfl rfl (Nat.le_of_ble_eq_true rfl) ⟨rfl, rfl⟩ ⟨Nat.le_of_ble_eq_true rfl, Nat.le_of_ble_eq_true rfl⟩ ⟨Nat.zero_le _, Nat.zero_le _⟩ hl.1 (st' := fun u4 => [.int u4]) (fun _ => rfl) (fun u4 H locs huu4 Y => ?_)
    replace hM := mS hM huu4
    refine r_aload_n (pc' := 26) X hl 1 rfl rfl 15 rfl rfl ?_
    refine r_get (pc' := 29) (v := .ref h_places) X Y 16 rfl rfl fRX2_23 0 rfl rfl ?_
    refine r_iload_n (pc' := 30) X hl 4 rfl rfl 17 rfl rfl ?_
    refine r_iald (pc' := 31) X Y 18 rfl rfl 3 rfl (vin g1) ?_
    refine r_icmp_ne (pc' := 34) X 63 19 rfl rfl (by decide) (fun c5 => ?_) (fun c5 => ?_)
    · replace hM := mE hM c5
      refine r_iconst (pc' := 64) X (0 : Int32) 36 rfl rfl rfl ?_
      exact RT (0 : Int32) _ _ _ _ _ hM (Or.inr (Or.inl ⟨rfl, rfl, _, rfl, nb (Or.inl rfl)⟩)) (X.d (k := 37) rfl) Y
    · replace hM := mI hM c5
      refine r_aload_n (pc' := 35) X hl 1 rfl rfl 20 rfl rfl ?_
      refine r_iload (pc' := 37) X hl 0 rfl 21 rfl rfl ?_
      refine r_aload_n (pc' := 38) X hl 1 rfl rfl 22 rfl rfl ?_
      refine r_get (pc' := 41) (v := .ref h_places) X Y 23 rfl rfl fRX2_23 0 rfl rfl ?_
      refine r_iload_n (pc' := 42) X hl 4 rfl rfl 24 rfl rfl ?_
      refine r_iald (pc' := 43) X Y 25 rfl rfl 3 rfl (vin g1) ?_
      refine r_callV0 (pc' := 46) (As := [.int (S0_firms (i3).toNatClampNeg), .int (S0_places (i3).toNatClampNeg)]) (rest := []) X Y 26 rfl rfl mRX2_77 (c_X2_crowd l G h h_firms h_kindsTold h_places h_crowds h_pipsLeft h_notHome S0_points S0_home S0_men S0_turn S0_thrower S0_cube S0_owner S0_firms S0_kindsTold S0_places S0_crowds S0_pipsLeft S0_notHome ((S0_firms (i3).toNatClampNeg)) ((S0_places (i3).toNatClampNeg))) (mB hM hne) 0 rfl rfl [0, 1, 2, 3, 4, 5, 6] rfl rfl rfl (Nat.le_of_ble_eq_true rfl) ⟨rfl, rfl⟩ ⟨Nat.le_of_ble_eq_true rfl, Nat.le_of_ble_eq_true rfl⟩ ⟨Nat.zero_le _, Nat.zero_le _⟩ hl.1 (st' := fun u6 => [.int u6]) (fun _ => rfl) (fun u6 H locs huu6 Y => ?_)
      replace hM := mS hM huu6
      refine r_iconst (pc' := 47) X (1 : Int32) 27 rfl rfl rfl ?_
      refine r_icmp_ne (pc' := 50) X 63 28 rfl rfl (by decide) (fun c7 => ?_) (fun c7 => ?_)
      · replace hM := mE hM c7
        refine r_iconst (pc' := 64) X (0 : Int32) 36 rfl rfl rfl ?_
        exact RT (0 : Int32) _ _ _ _ _ hM (Or.inr (Or.inl ⟨rfl, rfl, _, rfl, nb (Or.inl rfl)⟩)) (X.d (k := 37) rfl) Y
      · replace hM := mI hM c7
        refine r_aload_n (pc' := 51) X hl 1 rfl rfl 29 rfl rfl ?_
        refine r_iload_n (pc' := 52) X hl 2 rfl rfl 30 rfl rfl ?_
        refine r_iload_n (pc' := 53) X hl 3 rfl rfl 31 rfl rfl ?_
        refine r_callV0 (pc' := 56) (As := [.int i1, .int i2]) (rest := []) X Y 32 rfl rfl mRX2_107 (c_X2_canGo l G h h_firms h_kindsTold h_places h_crowds h_pipsLeft h_notHome S0_points S0_home S0_men S0_turn S0_thrower S0_cube S0_owner S0_firms S0_kindsTold S0_places S0_crowds S0_pipsLeft S0_notHome i1 i2) (mB hM hne) 0 rfl rfl [0, 1, 2, 3, 4, 5, 6] rfl rfl rfl (Nat.le_of_ble_eq_true rfl) ⟨rfl, rfl⟩ ⟨Nat.le_of_ble_eq_true rfl, Nat.le_of_ble_eq_true rfl⟩ ⟨Nat.zero_le _, Nat.zero_le _⟩ hl.1 (st' := fun u8 => [.int u8]) (fun _ => rfl) (fun u8 H locs huu8 Y => ?_)
        replace hM := mS hM huu8
        refine r_if_eq (pc' := 59) X 63 33 rfl rfl (by decide) (fun c9 => ?_) (fun c9 => ?_)
        · replace hM := mI hM c9
          refine r_iconst (pc' := 64) X (0 : Int32) 36 rfl rfl rfl ?_
          exact RT (0 : Int32) _ _ _ _ _ hM (Or.inr (Or.inl ⟨rfl, rfl, _, rfl, nb (Or.inl rfl)⟩)) (X.d (k := 37) rfl) Y
        · replace hM := mE hM c9
          refine r_iconst (pc' := 60) X (1 : Int32) 34 rfl rfl rfl ?_
          refine r_goto X 64 35 rfl (by decide) ?_
          exact RT (1 : Int32) _ _ _ _ _ hM (Or.inr (Or.inl ⟨rfl, rfl, _, rfl, nb (Or.inr rfl)⟩)) (X.d (k := 37) rfl) Y

def M_X2_throwsThatHit (S0 : BD) (i1 : Int32) : Option (Int32) :=
  ((lp (σ := Int32 × Int32) (β := Int32) (fun rec1 st1 => (if (bd_men S0) ≤ st1.2 then (some st1.1) else ((lp (σ := Int32 × Int32) (β := Int32) (fun rec3 st3 => (if (6 : Int32) < st3.2 then (some st3.1) else ((M_X2_hits S0 st1.2 st3.2 i1).bind (fun u5 => (if u5 = 0 then (rec3 (st3.1, (st3.2 + (1 : Int32)))) else (rec3 ((st3.1 ||| ((1 : Int32) <<< (st3.2 &&& 31))), (st3.2 + (1 : Int32))))))))) 1000000 (st1.1, (1 : Int32))).bind (fun b3 => (rec1 (b3, (st1.2 + (1 : Int32)))))))) 1000000 ((0 : Int32), (0 : Int32))).bind (fun b1 => (some b1)))
def q_X2_throwsThatHit : Room := { frames := 5, cells := 0, slots := 0, locals := 157 }
set_option maxHeartbeats 4000000 in
set_option maxRecDepth 100000 in
theorem c_X2_throwsThatHit (l : Launch) (G : gT) (h h_firms h_kindsTold h_places h_crowds h_pipsLeft h_notHome : Nat) (S0_points : Int32) (S0_home : Int32) (S0_men : Int32) (S0_turn : Int32) (S0_thrower : Int32) (S0_cube : Int32) (S0_owner : Int32) (S0_firms : Nat → Int32) (S0_kindsTold : Nat → Int32) (S0_places : Nat → Int32) (S0_crowds : Nat → Int32) (S0_pipsLeft : Nat → Int32) (S0_notHome : Nat → Int32) (i1 : Int32) : CT l G yX2_throwsThatHit cX2_throwsThatHit 5 (some .int) q_X2_throwsThatHit [.ref h, .int i1] (wBD G h h_firms h_kindsTold h_places h_crowds h_pipsLeft h_notHome S0_points S0_home S0_men S0_turn S0_thrower S0_cube S0_owner S0_firms S0_kindsTold S0_places S0_crowds S0_pipsLeft S0_notHome) (M_X2_throwsThatHit (S0_points, S0_home, S0_men, S0_turn, S0_thrower, S0_cube, S0_owner, S0_firms, S0_kindsTold, S0_places, S0_crowds, S0_pipsLeft, S0_notHome) i1) (fun u => some (.int u)) (fun u => wBD G h h_firms h_kindsTold h_places h_crowds h_pipsLeft h_notHome S0_points S0_home S0_men S0_turn S0_thrower S0_cube S0_owner S0_firms S0_kindsTold S0_places S0_crowds S0_pipsLeft S0_notHome) := by
  refine CT.of (P := PX2_throwsThatHit) (by decide) dPX2_throwsThatHit (Nat.le_of_ble_eq_true rfl) ?_
  intro p e s m args below meth c A Q ls hne X RT Y hl
  have hl : lv_has ls 5 [(0, .ref h), (1, .int i1)] := hl
  generalize hM : M_X2_throwsThatHit (S0_points, S0_home, S0_men, S0_turn, S0_thrower, S0_cube, S0_owner, S0_firms, S0_kindsTold, S0_places, S0_crowds, S0_pipsLeft, S0_notHome) i1 = MM at hne RT
  unfold M_X2_throwsThatHit at hM
  refine r_iconst (pc' := 1) X (0 : Int32) 0 rfl rfl rfl ?_
  refine r_istore_n (pc' := 2) (L' := [(2, .int (0 : Int32)), (0, .ref h), (1, .int i1)]) X hl rfl 1 rfl rfl (by decide) rfl (fun ls hl => ?_)
  refine r_iconst (pc' := 3) X (0 : Int32) 2 rfl rfl rfl ?_
  refine r_istore_n (pc' := 4) (L' := [(3, .int (0 : Int32)), (2, .int (0 : Int32)), (0, .ref h), (1, .int i1)]) X hl rfl 3 rfl rfl (by decide) rfl (fun ls hl => ?_)
  obtain ⟨LL1, hL1, hne1, hX1⟩ := mL hM hne
  have KX1 : ∀ (b1 : Int32) (H : Heap) (locs : List Loc) (ls : Array Slot), some b1 = LL1 → rY G A s (wBD G h h_firms h_kindsTold h_places h_crowds h_pipsLeft h_notHome S0_points S0_home S0_men S0_turn S0_thrower S0_cube S0_owner S0_firms S0_kindsTold S0_places S0_crowds S0_pipsLeft S0_notHome) H locs → lv_has ls 5 [(2, .int b1)] → W p l e q_X2_throwsThatHit s m args below meth c H locs 0 0 Q (F0 m 52 ls []) := by
    intro b1 H locs ls hM Y hl
    replace hM := hX1 _ hM
    refine r_iload_n (pc' := 53) X hl 0 rfl rfl 29 rfl rfl ?_
    exact RT b1 _ _ _ _ _ hM (Or.inl ⟨rfl, rfl, _, rfl⟩) (X.d (k := 30) rfl) Y
  refine lp_rule (I := fun (st1 : Int32 × Int32) => ∀ (H : Heap) (locs : List Loc) (ls : Array Slot), rY G A s (wBD G h h_firms h_kindsTold h_places h_crowds h_pipsLeft h_notHome S0_points S0_home S0_men S0_turn S0_thrower S0_cube S0_owner S0_firms S0_kindsTold S0_places S0_crowds S0_pipsLeft S0_notHome) H locs → lv_has ls 5 [(0, .ref h), (1, .int i1), (2, .int st1.1), (3, .int st1.2)] → W p l e q_X2_throwsThatHit s m args below meth c H locs 0 0 Q (F0 m 4 ls [])) hne1 (fun rec1 st1 IH1 hM => ?_) _ _ hL1 _ _ _ Y (lv_sub hl [2, 3, 1, 0] rfl)
  intro H locs ls Y hl
  obtain ⟨st1_1, st1_2⟩ := st1
  replace Y : rY G A s (wBD G h h_firms h_kindsTold h_places h_crowds h_pipsLeft h_notHome S0_points S0_home S0_men S0_turn S0_thrower S0_cube S0_owner S0_firms S0_kindsTold S0_places S0_crowds S0_pipsLeft S0_notHome) H locs := Y
  replace hl : lv_has ls 5 [(0, .ref h), (1, .int i1), (2, .int st1_1), (3, .int st1_2)] := hl
  refine r_iload_n (pc' := 5) X hl 3 rfl rfl 4 rfl rfl ?_
  refine r_aload_n (pc' := 6) X hl 0 rfl rfl 5 rfl rfl ?_
  refine r_get (pc' := 9) (v := .int S0_men) X Y 6 rfl rfl fRX2_41 0 rfl rfl ?_
  refine r_icmp_ge (pc' := 12) X 52 7 rfl rfl (by decide) (fun c2 => ?_) (fun c2 => ?_)
  · replace hM := mI hM c2
    exact KX1 st1_1 _ _ _ hM Y (lv_sub hl [2] rfl)
  · replace hM := mE hM c2
    refine r_iconst (pc' := 13) X (1 : Int32) 8 rfl rfl rfl ?_
    refine r_istore (pc' := 15) (L' := [(4, .int (1 : Int32)), (0, .ref h), (1, .int i1), (2, .int st1_1), (3, .int st1_2)]) X hl 9 rfl rfl (by decide) rfl (fun ls hl => ?_)
    obtain ⟨LL3, hL3, hne3, hX3⟩ := mL hM hne1
    have KX3 : ∀ (b3 : Int32) (H : Heap) (locs : List Loc) (ls : Array Slot), some b3 = LL3 → rY G A s (wBD G h h_firms h_kindsTold h_places h_crowds h_pipsLeft h_notHome S0_points S0_home S0_men S0_turn S0_thrower S0_cube S0_owner S0_firms S0_kindsTold S0_places S0_crowds S0_pipsLeft S0_notHome) H locs → lv_has ls 5 [(0, .ref h), (1, .int i1), (2, .int b3), (3, .int st1_2)] → W p l e q_X2_throwsThatHit s m args below meth c H locs 0 0 Q (F0 m 46 ls []) := by
      intro b3 H locs ls hM Y hl
      replace hM := hX3 _ hM
      refine r_iinc (pc' := 49) (L' := [(3, .int (st1_2 + (1 : Int32))), (0, .ref h), (1, .int i1), (2, .int b3)]) X (st1_2 + (1 : Int32)) hl 3 rfl rfl 27 rfl rfl (by decide) rfl (fun ls hl => ?_)
      refine r_goto X 4 28 rfl (by decide) ?_
      exact IH1 _ hM _ _ _ Y (lv_sub hl [1, 2, 3, 0] rfl)
    refine lp_rule (I := fun (st3 : Int32 × Int32) => ∀ (H : Heap) (locs : List Loc) (ls : Array Slot), rY G A s (wBD G h h_firms h_kindsTold h_places h_crowds h_pipsLeft h_notHome S0_points S0_home S0_men S0_turn S0_thrower S0_cube S0_owner S0_firms S0_kindsTold S0_places S0_crowds S0_pipsLeft S0_notHome) H locs → lv_has ls 5 [(0, .ref h), (1, .int i1), (2, .int st3.1), (3, .int st1_2), (4, .int st3.2)] → W p l e q_X2_throwsThatHit s m args below meth c H locs 0 0 Q (F0 m 15 ls [])) hne3 (fun rec3 st3 IH3 hM => ?_) _ _ hL3 _ _ _ Y (lv_sub hl [1, 2, 3, 4, 0] rfl)
    intro H locs ls Y hl
    obtain ⟨st3_1, st3_2⟩ := st3
    replace Y : rY G A s (wBD G h h_firms h_kindsTold h_places h_crowds h_pipsLeft h_notHome S0_points S0_home S0_men S0_turn S0_thrower S0_cube S0_owner S0_firms S0_kindsTold S0_places S0_crowds S0_pipsLeft S0_notHome) H locs := Y
    replace hl : lv_has ls 5 [(0, .ref h), (1, .int i1), (2, .int st3_1), (3, .int st1_2), (4, .int st3_2)] := hl
    refine r_iload (pc' := 17) X hl 4 rfl 10 rfl rfl ?_
    refine r_bipush (pc' := 19) X (6 : Int32) 11 rfl rfl rfl ?_
    refine r_icmp_gt (pc' := 22) X 46 12 rfl rfl (by decide) (fun c4 => ?_) (fun c4 => ?_)
    · replace hM := mI hM c4
      exact KX3 st3_1 _ _ _ hM Y (lv_sub hl [0, 1, 2, 3] rfl)
    · replace hM := mE hM c4
      refine r_aload_n (pc' := 23) X hl 0 rfl rfl 13 rfl rfl ?_
      refine r_iload_n (pc' := 24) X hl 3 rfl rfl 14 rfl rfl ?_
      refine r_iload (pc' := 26) X hl 4 rfl 15 rfl rfl ?_
      refine r_iload_n (pc' := 27) X hl 1 rfl rfl 16 rfl rfl ?_
      refine r_callV0 (pc' := 30) (As := [.int st1_2, .int st3_2, .int i1]) (rest := []) X Y 17 rfl rfl mRX2_119 (c_X2_hits l G h h_firms h_kindsTold h_places h_crowds h_pipsLeft h_notHome S0_points S0_home S0_men S0_turn S0_thrower S0_cube S0_owner S0_firms S0_kindsTold S0_places S0_crowds S0_pipsLeft S0_notHome st1_2 st3_2 i1) (mB hM hne3) 0 rfl rfl [0, 1, 2, 3, 4, 5, 6] rfl rfl rfl (Nat.le_of_ble_eq_true rfl) ⟨rfl, rfl⟩ ⟨Nat.le_of_ble_eq_true rfl, Nat.le_of_ble_eq_true rfl⟩ ⟨Nat.zero_le _, Nat.zero_le _⟩ hl.1 (st' := fun u5 => [.int u5]) (fun _ => rfl) (fun u5 H locs huu5 Y => ?_)
      replace hM := mS hM huu5
      refine r_if_eq (pc' := 33) X 40 18 rfl rfl (by decide) (fun c6 => ?_) (fun c6 => ?_)
      · replace hM := mI hM c6
        refine r_iinc (pc' := 43) (L' := [(4, .int (st3_2 + (1 : Int32))), (0, .ref h), (1, .int i1), (2, .int st3_1), (3, .int st1_2)]) X (st3_2 + (1 : Int32)) hl 4 rfl rfl 25 rfl rfl (by decide) rfl (fun ls hl => ?_)
        refine r_goto X 15 26 rfl (by decide) ?_
        exact IH3 _ hM _ _ _ Y (lv_sub hl [1, 2, 3, 4, 0] rfl)
      · replace hM := mE hM c6
        refine r_iload_n (pc' := 34) X hl 2 rfl rfl 19 rfl rfl ?_
        refine r_iconst (pc' := 35) X (1 : Int32) 20 rfl rfl rfl ?_
        refine r_iload (pc' := 37) X hl 4 rfl 21 rfl rfl ?_
        refine r_ishl (pc' := 38) X 22 rfl rfl ?_
        refine r_ior (pc' := 39) X 23 rfl rfl ?_
        refine r_istore_n (pc' := 40) (L' := [(2, .int (st3_1 ||| ((1 : Int32) <<< (st3_2 &&& 31)))), (0, .ref h), (1, .int i1), (3, .int st1_2), (4, .int st3_2)]) X hl rfl 24 rfl rfl (by decide) rfl (fun ls hl => ?_)
        refine r_iinc (pc' := 43) (L' := [(4, .int (st3_2 + (1 : Int32))), (2, .int (st3_1 ||| ((1 : Int32) <<< (st3_2 &&& 31)))), (0, .ref h), (1, .int i1), (3, .int st1_2)]) X (st3_2 + (1 : Int32)) hl 4 rfl rfl 25 rfl rfl (by decide) rfl (fun ls hl => ?_)
        refine r_goto X 15 26 rfl (by decide) ?_
        exact IH3 _ hM _ _ _ Y (lv_sub hl [2, 3, 1, 4, 0] rfl)

def M_X2_throwsThatEnter (S0 : BD) (i1 : Int32) : Option (Int32) :=
  ((lp (σ := Int32 × Int32) (β := Int32) (fun rec1 st1 => (if (6 : Int32) < st1.2 then (some st1.1) else ((M_X2_menWhoCan S0 i1 st1.2).bind (fun u3 => (if u3 = 0 then (rec1 (st1.1, (st1.2 + (1 : Int32)))) else (rec1 ((st1.1 ||| ((1 : Int32) <<< (st1.2 &&& 31))), (st1.2 + (1 : Int32))))))))) 1000000 ((0 : Int32), (1 : Int32))).bind (fun b1 => (some b1)))
def q_X2_throwsThatEnter : Room := { frames := 5, cells := 0, slots := 0, locals := 157 }
set_option maxHeartbeats 4000000 in
set_option maxRecDepth 100000 in
theorem c_X2_throwsThatEnter (l : Launch) (G : gT) (h h_firms h_kindsTold h_places h_crowds h_pipsLeft h_notHome : Nat) (S0_points : Int32) (S0_home : Int32) (S0_men : Int32) (S0_turn : Int32) (S0_thrower : Int32) (S0_cube : Int32) (S0_owner : Int32) (S0_firms : Nat → Int32) (S0_kindsTold : Nat → Int32) (S0_places : Nat → Int32) (S0_crowds : Nat → Int32) (S0_pipsLeft : Nat → Int32) (S0_notHome : Nat → Int32) (i1 : Int32) : CT l G yX2_throwsThatEnter cX2_throwsThatEnter 4 (some .int) q_X2_throwsThatEnter [.ref h, .int i1] (wBD G h h_firms h_kindsTold h_places h_crowds h_pipsLeft h_notHome S0_points S0_home S0_men S0_turn S0_thrower S0_cube S0_owner S0_firms S0_kindsTold S0_places S0_crowds S0_pipsLeft S0_notHome) (M_X2_throwsThatEnter (S0_points, S0_home, S0_men, S0_turn, S0_thrower, S0_cube, S0_owner, S0_firms, S0_kindsTold, S0_places, S0_crowds, S0_pipsLeft, S0_notHome) i1) (fun u => some (.int u)) (fun u => wBD G h h_firms h_kindsTold h_places h_crowds h_pipsLeft h_notHome S0_points S0_home S0_men S0_turn S0_thrower S0_cube S0_owner S0_firms S0_kindsTold S0_places S0_crowds S0_pipsLeft S0_notHome) := by
  refine CT.of (P := PX2_throwsThatEnter) (by decide) dPX2_throwsThatEnter (Nat.le_of_ble_eq_true rfl) ?_
  intro p e s m args below meth c A Q ls hne X RT Y hl
  have hl : lv_has ls 4 [(0, .ref h), (1, .int i1)] := hl
  generalize hM : M_X2_throwsThatEnter (S0_points, S0_home, S0_men, S0_turn, S0_thrower, S0_cube, S0_owner, S0_firms, S0_kindsTold, S0_places, S0_crowds, S0_pipsLeft, S0_notHome) i1 = MM at hne RT
  unfold M_X2_throwsThatEnter at hM
  refine r_iconst (pc' := 1) X (0 : Int32) 0 rfl rfl rfl ?_
  refine r_istore_n (pc' := 2) (L' := [(2, .int (0 : Int32)), (0, .ref h), (1, .int i1)]) X hl rfl 1 rfl rfl (by decide) rfl (fun ls hl => ?_)
  refine r_iconst (pc' := 3) X (1 : Int32) 2 rfl rfl rfl ?_
  refine r_istore_n (pc' := 4) (L' := [(3, .int (1 : Int32)), (2, .int (0 : Int32)), (0, .ref h), (1, .int i1)]) X hl rfl 3 rfl rfl (by decide) rfl (fun ls hl => ?_)
  obtain ⟨LL1, hL1, hne1, hX1⟩ := mL hM hne
  have KX1 : ∀ (b1 : Int32) (H : Heap) (locs : List Loc) (ls : Array Slot), some b1 = LL1 → rY G A s (wBD G h h_firms h_kindsTold h_places h_crowds h_pipsLeft h_notHome S0_points S0_home S0_men S0_turn S0_thrower S0_cube S0_owner S0_firms S0_kindsTold S0_places S0_crowds S0_pipsLeft S0_notHome) H locs → lv_has ls 4 [(2, .int b1)] → W p l e q_X2_throwsThatEnter s m args below meth c H locs 0 0 Q (F0 m 31 ls []) := by
    intro b1 H locs ls hM Y hl
    replace hM := hX1 _ hM
    refine r_iload_n (pc' := 32) X hl 0 rfl rfl 20 rfl rfl ?_
    exact RT b1 _ _ _ _ _ hM (Or.inl ⟨rfl, rfl, _, rfl⟩) (X.d (k := 21) rfl) Y
  refine lp_rule (I := fun (st1 : Int32 × Int32) => ∀ (H : Heap) (locs : List Loc) (ls : Array Slot), rY G A s (wBD G h h_firms h_kindsTold h_places h_crowds h_pipsLeft h_notHome S0_points S0_home S0_men S0_turn S0_thrower S0_cube S0_owner S0_firms S0_kindsTold S0_places S0_crowds S0_pipsLeft S0_notHome) H locs → lv_has ls 4 [(0, .ref h), (1, .int i1), (2, .int st1.1), (3, .int st1.2)] → W p l e q_X2_throwsThatEnter s m args below meth c H locs 0 0 Q (F0 m 4 ls [])) hne1 (fun rec1 st1 IH1 hM => ?_) _ _ hL1 _ _ _ Y (lv_sub hl [2, 3, 1, 0] rfl)
  intro H locs ls Y hl
  obtain ⟨st1_1, st1_2⟩ := st1
  replace Y : rY G A s (wBD G h h_firms h_kindsTold h_places h_crowds h_pipsLeft h_notHome S0_points S0_home S0_men S0_turn S0_thrower S0_cube S0_owner S0_firms S0_kindsTold S0_places S0_crowds S0_pipsLeft S0_notHome) H locs := Y
  replace hl : lv_has ls 4 [(0, .ref h), (1, .int i1), (2, .int st1_1), (3, .int st1_2)] := hl
  refine r_iload_n (pc' := 5) X hl 3 rfl rfl 4 rfl rfl ?_
  refine r_bipush (pc' := 7) X (6 : Int32) 5 rfl rfl rfl ?_
  refine r_icmp_gt (pc' := 10) X 31 6 rfl rfl (by decide) (fun c2 => ?_) (fun c2 => ?_)
  · replace hM := mI hM c2
    exact KX1 st1_1 _ _ _ hM Y (lv_sub hl [2] rfl)
  · replace hM := mE hM c2
    refine r_aload_n (pc' := 11) X hl 0 rfl rfl 7 rfl rfl ?_
    refine r_iload_n (pc' := 12) X hl 1 rfl rfl 8 rfl rfl ?_
    refine r_iload_n (pc' := 13) X hl 3 rfl rfl 9 rfl rfl ?_
    refine r_callV0 (pc' := 16) (As := [.int i1, .int st1_2]) (rest := []) X Y 10 rfl rfl mRX2_123 (c_X2_menWhoCan l G h h_firms h_kindsTold h_places h_crowds h_pipsLeft h_notHome S0_points S0_home S0_men S0_turn S0_thrower S0_cube S0_owner S0_firms S0_kindsTold S0_places S0_crowds S0_pipsLeft S0_notHome i1 st1_2) (mB hM hne1) 0 rfl rfl [0, 1, 2, 3, 4, 5, 6] rfl rfl rfl (Nat.le_of_ble_eq_true rfl) ⟨rfl, rfl⟩ ⟨Nat.le_of_ble_eq_true rfl, Nat.le_of_ble_eq_true rfl⟩ ⟨Nat.zero_le _, Nat.zero_le _⟩ hl.1 (st' := fun u3 => [.int u3]) (fun _ => rfl) (fun u3 H locs huu3 Y => ?_)
    replace hM := mS hM huu3
    refine r_if_eq (pc' := 19) X 25 11 rfl rfl (by decide) (fun c4 => ?_) (fun c4 => ?_)
    · replace hM := mI hM c4
      refine r_iinc (pc' := 28) (L' := [(3, .int (st1_2 + (1 : Int32))), (0, .ref h), (1, .int i1), (2, .int st1_1)]) X (st1_2 + (1 : Int32)) hl 3 rfl rfl 18 rfl rfl (by decide) rfl (fun ls hl => ?_)
      refine r_goto X 4 19 rfl (by decide) ?_
      exact IH1 _ hM _ _ _ Y (lv_sub hl [1, 2, 3, 0] rfl)
    · replace hM := mE hM c4
      refine r_iload_n (pc' := 20) X hl 2 rfl rfl 12 rfl rfl ?_
      refine r_iconst (pc' := 21) X (1 : Int32) 13 rfl rfl rfl ?_
      refine r_iload_n (pc' := 22) X hl 3 rfl rfl 14 rfl rfl ?_
      refine r_ishl (pc' := 23) X 15 rfl rfl ?_
      refine r_ior (pc' := 24) X 16 rfl rfl ?_
      refine r_istore_n (pc' := 25) (L' := [(2, .int (st1_1 ||| ((1 : Int32) <<< (st1_2 &&& 31)))), (0, .ref h), (1, .int i1), (3, .int st1_2)]) X hl rfl 17 rfl rfl (by decide) rfl (fun ls hl => ?_)
      refine r_iinc (pc' := 28) (L' := [(3, .int (st1_2 + (1 : Int32))), (2, .int (st1_1 ||| ((1 : Int32) <<< (st1_2 &&& 31)))), (0, .ref h), (1, .int i1)]) X (st1_2 + (1 : Int32)) hl 3 rfl rfl 18 rfl rfl (by decide) rfl (fun ls hl => ?_)
      refine r_goto X 4 19 rfl (by decide) ?_
      exact IH1 _ hM _ _ _ Y (lv_sub hl [2, 3, 1, 0] rfl)
