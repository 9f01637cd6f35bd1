def M_X0_forget (S0 : AC) : Option (AC) :=
  (some (ac_s_kept S0 (0 : Int32)))
def q_X0_forget : Room := { frames := 1, cells := 0, slots := 0, locals := 60 }
set_option maxHeartbeats 4000000 in
set_option maxRecDepth 100000 in
theorem c_X0_forget (l : Launch) (G : gT) (h h_before : Nat) (S0_next : Int32) (S0_kept : Int32) (S0_before : Nat → Int32) : CT l G yX0_forget cX0_forget 1 none q_X0_forget [.ref h] (wAC G h h_before S0_next S0_kept S0_before) (M_X0_forget (S0_next, S0_kept, S0_before)) (fun u => none) (fun u => wAC G h h_before u.1 u.2.1 u.2.2) := by
  refine CT.of (P := PX0_forget) (by decide) dPX0_forget (Nat.le_of_ble_eq_true rfl) ?_
  intro p e s m args below meth c A Q ls hne X RT Y hl
  have hl : lv_has ls 1 [(0, .ref h)] := hl
  generalize hM : M_X0_forget (S0_next, S0_kept, S0_before) = MM at hne RT
  unfold M_X0_forget at hM
  refine r_aload_n (pc' := 1) X hl 0 rfl rfl 0 rfl rfl ?_
  refine r_iconst (pc' := 2) X (0 : Int32) 1 rfl rfl rfl ?_
  refine r_put (pc' := 5) (ws' := wAC G h h_before S0_next (0 : Int32) S0_before) X Y 2 rfl rfl fRX0_15 0 rfl rfl rfl (Nat.le_of_ble_eq_true rfl) rfl (fun H locs Y => ?_)
  exact RT (S0_next, (0 : Int32), S0_before) _ _ _ _ _ hM (Or.inr (Or.inr (Or.inr (Or.inl ⟨rfl, rfl, rfl⟩)))) (X.d (k := 3) rfl) Y

def M_X0_keep (S0 : AC) (S1 : BD) : Option (AC) :=
  (if ((¬ (0 : Int32) < 0 ∧ ¬ ((ac_next S0) * (12 : Int32)) < 0 ∧ ¬ (8 : Int32) < 0) ∧ ((0 : Int32)).toNatClampNeg + ((8 : Int32)).toNatClampNeg ≤ 8 ∧ (((ac_next S0) * (12 : Int32))).toNatClampNeg + ((8 : Int32)).toNatClampNeg ≤ 288) then (if inb (((ac_next S0) * (12 : Int32)) + (8 : Int32)) 288 = true then (if inb ((((ac_next S0) * (12 : Int32)) + (8 : Int32)) + (1 : Int32)) 288 = true then (if inb ((((ac_next S0) * (12 : Int32)) + (8 : Int32)) + (2 : Int32)) 288 = true then (if inb ((((ac_next S0) * (12 : Int32)) + (8 : Int32)) + (3 : Int32)) 288 = true then (some ((((ac_next S0) + (1 : Int32)) - ((ac_next S0) + (1 : Int32)) / (24 : Int32) * (24 : Int32)), (if (24 : Int32) < ((ac_kept S0) + (1 : Int32)) then (24 : Int32) else ((ac_kept S0) + (1 : Int32))), (upd (upd (upd (upd (va_cpy (bd_places S1) (ac_before S0) ((0 : Int32)).toNatClampNeg (((ac_next S0) * (12 : Int32))).toNatClampNeg ((8 : Int32)).toNatClampNeg) ((((ac_next S0) * (12 : Int32)) + (8 : Int32))).toNatClampNeg (bd_turn S1)) (((((ac_next S0) * (12 : Int32)) + (8 : Int32)) + (1 : Int32))).toNatClampNeg (bd_thrower S1)) (((((ac_next S0) * (12 : Int32)) + (8 : Int32)) + (2 : Int32))).toNatClampNeg (bd_cube S1)) (((((ac_next S0) * (12 : Int32)) + (8 : Int32)) + (3 : Int32))).toNatClampNeg (bd_owner S1)))) else none) else none) else none) else none) else none)
def q_X0_keep : Room := { frames := 1, cells := 0, slots := 0, locals := 60 }
set_option maxHeartbeats 4000000 in
set_option maxRecDepth 100000 in
theorem c_X0_keep (l : Launch) (G : gT) (h a1 h_before a1_firms a1_kindsTold a1_places a1_crowds a1_pipsLeft a1_notHome : Nat) (S0_next : Int32) (S0_kept : Int32) (S0_before : Nat → Int32) (S1_points : Int32) (S1_home : Int32) (S1_men : Int32) (S1_turn : Int32) (S1_thrower : Int32) (S1_cube : Int32) (S1_owner : Int32) (S1_firms : Nat → Int32) (S1_kindsTold : Nat → Int32) (S1_places : Nat → Int32) (S1_crowds : Nat → Int32) (S1_pipsLeft : Nat → Int32) (S1_notHome : Nat → Int32) : CT l G yX0_keep cX0_keep 3 none q_X0_keep [.ref h, .ref a1] (wAC G h h_before S0_next S0_kept S0_before ++ wBD G a1 a1_firms a1_kindsTold a1_places a1_crowds a1_pipsLeft a1_notHome S1_points S1_home S1_men S1_turn S1_thrower S1_cube S1_owner S1_firms S1_kindsTold S1_places S1_crowds S1_pipsLeft S1_notHome) (M_X0_keep (S0_next, S0_kept, S0_before) (S1_points, S1_home, S1_men, S1_turn, S1_thrower, S1_cube, S1_owner, S1_firms, S1_kindsTold, S1_places, S1_crowds, S1_pipsLeft, S1_notHome)) (fun u => none) (fun u => wAC G h h_before u.1 u.2.1 u.2.2 ++ wBD G a1 a1_firms a1_kindsTold a1_places a1_crowds a1_pipsLeft a1_notHome S1_points S1_home S1_men S1_turn S1_thrower S1_cube S1_owner S1_firms S1_kindsTold S1_places S1_crowds S1_pipsLeft S1_notHome) := by
  refine CT.of (P := PX0_keep) (by decide) dPX0_keep (Nat.le_of_ble_eq_true rfl) ?_
  intro p e s m args below meth c A Q ls hne X RT Y hl
  have hl : lv_has ls 3 [(0, .ref h), (1, .ref a1)] := hl
  generalize hM : M_X0_keep (S0_next, S0_kept, S0_before) (S1_points, S1_home, S1_men, S1_turn, S1_thrower, S1_cube, S1_owner, S1_firms, S1_kindsTold, S1_places, S1_crowds, S1_pipsLeft, S1_notHome) = MM at hne RT
  unfold M_X0_keep at hM
  refine r_aload_n (pc' := 1) X hl 0 rfl rfl 0 rfl rfl ?_
  refine r_get (pc' := 4) (v := .int S0_next) X Y 1 rfl rfl fRX0_19 0 rfl rfl ?_
  refine r_bipush (pc' := 6) X (12 : Int32) 2 rfl rfl rfl ?_
  refine r_imul (pc' := 7) X 3 rfl rfl ?_
  refine r_istore_n (pc' := 8) (L' := [(2, .int (S0_next * (12 : Int32))), (0, .ref h), (1, .ref a1)]) X hl rfl 4 rfl rfl (by decide) rfl (fun ls hl => ?_)
  refine r_aload_n (pc' := 9) X hl 2 rfl rfl 5 rfl rfl ?_
  refine r_getN (pc' := 12) (v := .ref a1_places) X Y 6 rfl rfl fRX0_22 2 rfl rfl ?_
  refine r_iconst (pc' := 13) X (0 : Int32) 7 rfl rfl rfl ?_
  refine r_aload_n (pc' := 14) X hl 1 rfl rfl 8 rfl rfl ?_
  refine r_get (pc' := 17) (v := .ref h_before) X Y 9 rfl rfl fRX0_11 0 rfl rfl ?_
  refine r_iload_n (pc' := 18) X hl 0 rfl rfl 10 rfl rfl ?_
  refine r_bipush (pc' := 20) X (8 : Int32) 11 rfl rfl rfl ?_
  obtain ⟨g1, hM⟩ := mG hM hne
  refine r_copyi (pc' := 23) (ws' := wAC G h h_before S0_next S0_kept (va_cpy S1_places S0_before ((0 : Int32)).toNatClampNeg ((S0_next * (12 : Int32))).toNatClampNeg ((8 : Int32)).toNatClampNeg) ++ wBD G a1 a1_firms a1_kindsTold a1_places a1_crowds a1_pipsLeft a1_notHome S1_points S1_home S1_men S1_turn S1_thrower S1_cube S1_owner S1_firms S1_kindsTold S1_places S1_crowds S1_pipsLeft S1_notHome) X Y 12 rfl rfl ⟨mw10, mw11, mw12, mw13⟩ 5 1 rfl rfl hl.1 g1 ⟨Nat.le_of_ble_eq_true rfl, Nat.le_of_ble_eq_true rfl⟩ rfl (fun H locs Y => ?_)
  refine r_aload_n (pc' := 24) X hl 1 rfl rfl 13 rfl rfl ?_
  refine r_get (pc' := 27) (v := .ref h_before) X Y 14 rfl rfl fRX0_11 0 rfl rfl ?_
  refine r_iload_n (pc' := 28) X hl 0 rfl rfl 15 rfl rfl ?_
  refine r_bipush (pc' := 30) X (8 : Int32) 16 rfl rfl rfl ?_
  refine r_iadd (pc' := 31) X 17 rfl rfl ?_
  refine r_aload_n (pc' := 32) X hl 2 rfl rfl 18 rfl rfl ?_
  refine r_getN (pc' := 35) (v := .int S1_turn) X Y 19 rfl rfl fRX0_33 2 rfl rfl ?_
  obtain ⟨g2, hM⟩ := mG hM hne
  refine r_iast (pc' := 36) (ws' := wAC G h h_before S0_next S0_kept (upd (va_cpy S1_places S0_before ((0 : Int32)).toNatClampNeg ((S0_next * (12 : Int32))).toNatClampNeg ((8 : Int32)).toNatClampNeg) (((S0_next * (12 : Int32)) + (8 : Int32))).toNatClampNeg S1_turn) ++ wBD G a1 a1_firms a1_kindsTold a1_places a1_crowds a1_pipsLeft a1_notHome S1_points S1_home S1_men S1_turn S1_thrower S1_cube S1_owner S1_firms S1_kindsTold S1_places S1_crowds S1_pipsLeft S1_notHome) X Y 20 rfl rfl 1 rfl (vin g2) rfl (fun H locs Y => ?_)
  refine r_aload_n (pc' := 37) X hl 1 rfl rfl 21 rfl rfl ?_
  refine r_get (pc' := 40) (v := .ref h_before) X Y 22 rfl rfl fRX0_11 0 rfl rfl ?_
  refine r_iload_n (pc' := 41) X hl 0 rfl rfl 23 rfl rfl ?_
  refine r_bipush (pc' := 43) X (8 : Int32) 24 rfl rfl rfl ?_
  refine r_iadd (pc' := 44) X 25 rfl rfl ?_
  refine r_iconst (pc' := 45) X (1 : Int32) 26 rfl rfl rfl ?_
  refine r_iadd (pc' := 46) X 27 rfl rfl ?_
  refine r_aload_n (pc' := 47) X hl 2 rfl rfl 28 rfl rfl ?_
  refine r_getN (pc' := 50) (v := .int S1_thrower) X Y 29 rfl rfl fRX0_36 2 rfl rfl ?_
  obtain ⟨g3, hM⟩ := mG hM hne
  refine r_iast (pc' := 51) (ws' := wAC G h h_before S0_next S0_kept (upd (upd (va_cpy S1_places S0_before ((0 : Int32)).toNatClampNeg ((S0_next * (12 : Int32))).toNatClampNeg ((8 : Int32)).toNatClampNeg) (((S0_next * (12 : Int32)) + (8 : Int32))).toNatClampNeg S1_turn) ((((S0_next * (12 : Int32)) + (8 : Int32)) + (1 : Int32))).toNatClampNeg S1_thrower) ++ wBD G a1 a1_firms a1_kindsTold a1_places a1_crowds a1_pipsLeft a1_notHome S1_points S1_home S1_men S1_turn S1_thrower S1_cube S1_owner S1_firms S1_kindsTold S1_places S1_crowds S1_pipsLeft S1_notHome) X Y 30 rfl rfl 1 rfl (vin g3) rfl (fun H locs Y => ?_)
  refine r_aload_n (pc' := 52) X hl 1 rfl rfl 31 rfl rfl ?_
  refine r_get (pc' := 55) (v := .ref h_before) X Y 32 rfl rfl fRX0_11 0 rfl rfl ?_
  refine r_iload_n (pc' := 56) X hl 0 rfl rfl 33 rfl rfl ?_
  refine r_bipush (pc' := 58) X (8 : Int32) 34 rfl rfl rfl ?_
  refine r_iadd (pc' := 59) X 35 rfl rfl ?_
  refine r_iconst (pc' := 60) X (2 : Int32) 36 rfl rfl rfl ?_
  refine r_iadd (pc' := 61) X 37 rfl rfl ?_
  refine r_aload_n (pc' := 62) X hl 2 rfl rfl 38 rfl rfl ?_
  refine r_getN (pc' := 65) (v := .int S1_cube) X Y 39 rfl rfl fRX0_39 2 rfl rfl ?_
  obtain ⟨g4, hM⟩ := mG hM hne
  refine r_iast (pc' := 66) (ws' := wAC G h h_before S0_next S0_kept (upd (upd (upd (va_cpy S1_places S0_before ((0 : Int32)).toNatClampNeg ((S0_next * (12 : Int32))).toNatClampNeg ((8 : Int32)).toNatClampNeg) (((S0_next * (12 : Int32)) + (8 : Int32))).toNatClampNeg S1_turn) ((((S0_next * (12 : Int32)) + (8 : Int32)) + (1 : Int32))).toNatClampNeg S1_thrower) ((((S0_next * (12 : Int32)) + (8 : Int32)) + (2 : Int32))).toNatClampNeg S1_cube) ++ wBD G a1 a1_firms a1_kindsTold a1_places a1_crowds a1_pipsLeft a1_notHome S1_points S1_home S1_men S1_turn S1_thrower S1_cube S1_owner S1_firms S1_kindsTold S1_places S1_crowds S1_pipsLeft S1_notHome) X Y 40 rfl rfl 1 rfl (vin g4) rfl (fun H locs Y => ?_)
  refine r_aload_n (pc' := 67) X hl 1 rfl rfl 41 rfl rfl ?_
  refine r_get (pc' := 70) (v := .ref h_before) X Y 42 rfl rfl fRX0_11 0 rfl rfl ?_
  refine r_iload_n (pc' := 71) X hl 0 rfl rfl 43 rfl rfl ?_
  refine r_bipush (pc' := 73) X (8 : Int32) 44 rfl rfl rfl ?_
  refine r_iadd (pc' := 74) X 45 rfl rfl ?_
  refine r_iconst (pc' := 75) X (3 : Int32) 46 rfl rfl rfl ?_
  refine r_iadd (pc' := 76) X 47 rfl rfl ?_
  refine r_aload_n (pc' := 77) X hl 2 rfl rfl 48 rfl rfl ?_
  refine r_getN (pc' := 80) (v := .int S1_owner) X Y 49 rfl rfl fRX0_42 2 rfl rfl ?_
  obtain ⟨g5, hM⟩ := mG hM hne
  refine r_iast (pc' := 81) (ws' := wAC G h h_before S0_next S0_kept (upd (upd (upd (upd (va_cpy S1_places S0_before ((0 : Int32)).toNatClampNeg ((S0_next * (12 : Int32))).toNatClampNeg ((8 : Int32)).toNatClampNeg) (((S0_next * (12 : Int32)) + (8 : Int32))).toNatClampNeg S1_turn) ((((S0_next * (12 : Int32)) + (8 : Int32)) + (1 : Int32))).toNatClampNeg S1_thrower) ((((S0_next * (12 : Int32)) + (8 : Int32)) + (2 : Int32))).toNatClampNeg S1_cube) ((((S0_next * (12 : Int32)) + (8 : Int32)) + (3 : Int32))).toNatClampNeg S1_owner) ++ wBD G a1 a1_firms a1_kindsTold a1_places a1_crowds a1_pipsLeft a1_notHome S1_points S1_home S1_men S1_turn S1_thrower S1_cube S1_owner S1_firms S1_kindsTold S1_places S1_crowds S1_pipsLeft S1_notHome) X Y 50 rfl rfl 1 rfl (vin g5) rfl (fun H locs Y => ?_)
  refine r_aload_n (pc' := 82) X hl 1 rfl rfl 51 rfl rfl ?_
  refine r_aload_n (pc' := 83) X hl 1 rfl rfl 52 rfl rfl ?_
  refine r_get (pc' := 86) (v := .int S0_next) X Y 53 rfl rfl fRX0_19 0 rfl rfl ?_
  refine r_iconst (pc' := 87) X (1 : Int32) 54 rfl rfl rfl ?_
  refine r_iadd (pc' := 88) X 55 rfl rfl ?_
  refine r_bipush (pc' := 90) X (24 : Int32) 56 rfl rfl rfl ?_
  refine r_irem (pc' := 91) X 57 rfl rfl (by decide) ?_
  refine r_put (pc' := 94) (ws' := wAC G h h_before ((S0_next + (1 : Int32)) - (S0_next + (1 : Int32)) / (24 : Int32) * (24 : Int32)) S0_kept (upd (upd (upd (upd (va_cpy S1_places S0_before ((0 : Int32)).toNatClampNeg ((S0_next * (12 : Int32))).toNatClampNeg ((8 : Int32)).toNatClampNeg) (((S0_next * (12 : Int32)) + (8 : Int32))).toNatClampNeg S1_turn) ((((S0_next * (12 : Int32)) + (8 : Int32)) + (1 : Int32))).toNatClampNeg S1_thrower) ((((S0_next * (12 : Int32)) + (8 : Int32)) + (2 : Int32))).toNatClampNeg S1_cube) ((((S0_next * (12 : Int32)) + (8 : Int32)) + (3 : Int32))).toNatClampNeg S1_owner) ++ wBD G a1 a1_firms a1_kindsTold a1_places a1_crowds a1_pipsLeft a1_notHome S1_points S1_home S1_men S1_turn S1_thrower S1_cube S1_owner S1_firms S1_kindsTold S1_places S1_crowds S1_pipsLeft S1_notHome) X Y 58 rfl rfl fRX0_19 0 rfl rfl rfl (Nat.le_of_ble_eq_true rfl) rfl (fun H locs Y => ?_)
  refine r_aload_n (pc' := 95) X hl 1 rfl rfl 59 rfl rfl ?_
  refine r_aload_n (pc' := 96) X hl 1 rfl rfl 60 rfl rfl ?_
  refine r_get (pc' := 99) (v := .int S0_kept) X Y 61 rfl rfl fRX0_15 0 rfl rfl ?_
  refine r_iconst (pc' := 100) X (1 : Int32) 62 rfl rfl rfl ?_
  refine r_iadd (pc' := 101) X 63 rfl rfl ?_
  refine r_bipush (pc' := 103) X (24 : Int32) 64 rfl rfl rfl ?_
  refine r_min (pc' := 106) X 65 rfl rfl ⟨mw14, mw15, mw16, mw17⟩ hl.1 ⟨Nat.le_of_ble_eq_true rfl, Nat.le_of_ble_eq_true rfl, Nat.zero_le _, Nat.zero_le _⟩ ?_
  refine r_put (pc' := 109) (ws' := wAC G h h_before ((S0_next + (1 : Int32)) - (S0_next + (1 : Int32)) / (24 : Int32) * (24 : Int32)) (if (24 : Int32) < (S0_kept + (1 : Int32)) then (24 : Int32) else (S0_kept + (1 : Int32))) (upd (upd (upd (upd (va_cpy S1_places S0_before ((0 : Int32)).toNatClampNeg ((S0_next * (12 : Int32))).toNatClampNeg ((8 : Int32)).toNatClampNeg) (((S0_next * (12 : Int32)) + (8 : Int32))).toNatClampNeg S1_turn) ((((S0_next * (12 : Int32)) + (8 : Int32)) + (1 : Int32))).toNatClampNeg S1_thrower) ((((S0_next * (12 : Int32)) + (8 : Int32)) + (2 : Int32))).toNatClampNeg S1_cube) ((((S0_next * (12 : Int32)) + (8 : Int32)) + (3 : Int32))).toNatClampNeg S1_owner) ++ wBD G a1 a1_firms a1_kindsTold a1_places a1_crowds a1_pipsLeft a1_notHome S1_points S1_home S1_men S1_turn S1_thrower S1_cube S1_owner S1_firms S1_kindsTold S1_places S1_crowds S1_pipsLeft S1_notHome) X Y 66 rfl rfl fRX0_15 0 rfl rfl rfl (Nat.le_of_ble_eq_true rfl) rfl (fun H locs Y => ?_)
  exact RT (((S0_next + (1 : Int32)) - (S0_next + (1 : Int32)) / (24 : Int32) * (24 : Int32)), (if (24 : Int32) < (S0_kept + (1 : Int32)) then (24 : Int32) else (S0_kept + (1 : Int32))), (upd (upd (upd (upd (va_cpy S1_places S0_before ((0 : Int32)).toNatClampNeg ((S0_next * (12 : Int32))).toNatClampNeg ((8 : Int32)).toNatClampNeg) (((S0_next * (12 : Int32)) + (8 : Int32))).toNatClampNeg S1_turn) ((((S0_next * (12 : Int32)) + (8 : Int32)) + (1 : Int32))).toNatClampNeg S1_thrower) ((((S0_next * (12 : Int32)) + (8 : Int32)) + (2 : Int32))).toNatClampNeg S1_cube) ((((S0_next * (12 : Int32)) + (8 : Int32)) + (3 : Int32))).toNatClampNeg S1_owner)) _ _ _ _ _ hM (Or.inr (Or.inr (Or.inr (Or.inl ⟨rfl, rfl, rfl⟩)))) (X.d (k := 67) rfl) Y

def M_X0_takeBack (S0 : AC) (S1 : BD) : Option (AC × BD) :=
  ((lp (σ := Int32 × BD) (β := BD) (fun rec1 st1 => (if (bd_men st1.2) ≤ st1.1 then (some st1.2) else (if inb ((((((ac_next S0) + (24 : Int32)) - (1 : Int32)) - (((ac_next S0) + (24 : Int32)) - (1 : Int32)) / (24 : Int32) * (24 : Int32)) * (12 : Int32)) + st1.1) 288 = true then ((M_X2_put st1.2 st1.1 (((ac_before S0) (((((((ac_next S0) + (24 : Int32)) - (1 : Int32)) - (((ac_next S0) + (24 : Int32)) - (1 : Int32)) / (24 : Int32) * (24 : Int32)) * (12 : Int32)) + st1.1)).toNatClampNeg))).bind (fun u8 => (rec1 ((st1.1 + (1 : Int32)), u8)))) else none))) 1000000 ((0 : Int32), S1)).bind (fun b1 => (if inb ((((((ac_next S0) + (24 : Int32)) - (1 : Int32)) - (((ac_next S0) + (24 : Int32)) - (1 : Int32)) / (24 : Int32) * (24 : Int32)) * (12 : Int32)) + (8 : Int32)) 288 = true then (if inb (((((((ac_next S0) + (24 : Int32)) - (1 : Int32)) - (((ac_next S0) + (24 : Int32)) - (1 : Int32)) / (24 : Int32) * (24 : Int32)) * (12 : Int32)) + (8 : Int32)) + (1 : Int32)) 288 = true then (if inb (((((((ac_next S0) + (24 : Int32)) - (1 : Int32)) - (((ac_next S0) + (24 : Int32)) - (1 : Int32)) / (24 : Int32) * (24 : Int32)) * (12 : Int32)) + (8 : Int32)) + (2 : Int32)) 288 = true then (if inb (((((((ac_next S0) + (24 : Int32)) - (1 : Int32)) - (((ac_next S0) + (24 : Int32)) - (1 : Int32)) / (24 : Int32) * (24 : Int32)) * (12 : Int32)) + (8 : Int32)) + (3 : Int32)) 288 = true then (some ((ac_s_kept (ac_s_next S0 ((((ac_next S0) + (24 : Int32)) - (1 : Int32)) - (((ac_next S0) + (24 : Int32)) - (1 : Int32)) / (24 : Int32) * (24 : Int32))) ((ac_kept S0) - (1 : Int32))), (bd_s_owner (bd_s_cube (bd_s_thrower (bd_s_turn b1 ((ac_before S0) (((((((ac_next S0) + (24 : Int32)) - (1 : Int32)) - (((ac_next S0) + (24 : Int32)) - (1 : Int32)) / (24 : Int32) * (24 : Int32)) * (12 : Int32)) + (8 : Int32))).toNatClampNeg)) ((ac_before S0) ((((((((ac_next S0) + (24 : Int32)) - (1 : Int32)) - (((ac_next S0) + (24 : Int32)) - (1 : Int32)) / (24 : Int32) * (24 : Int32)) * (12 : Int32)) + (8 : Int32)) + (1 : Int32))).toNatClampNeg)) ((ac_before S0) ((((((((ac_next S0) + (24 : Int32)) - (1 : Int32)) - (((ac_next S0) + (24 : Int32)) - (1 : Int32)) / (24 : Int32) * (24 : Int32)) * (12 : Int32)) + (8 : Int32)) + (2 : Int32))).toNatClampNeg)) ((ac_before S0) ((((((((ac_next S0) + (24 : Int32)) - (1 : Int32)) - (((ac_next S0) + (24 : Int32)) - (1 : Int32)) / (24 : Int32) * (24 : Int32)) * (12 : Int32)) + (8 : Int32)) + (3 : Int32))).toNatClampNeg)))) else none) else none) else none) else none)))
def q_X0_takeBack : Room := { frames := 4, cells := 0, slots := 0, locals := 128 }
set_option maxHeartbeats 4000000 in
set_option maxRecDepth 100000 in
theorem c_X0_takeBack (l : Launch) (G : gT) (h a1 h_before a1_firms a1_kindsTold a1_places a1_crowds a1_pipsLeft a1_notHome : Nat) (S0_next : Int32) (S0_kept : Int32) (S0_before : Nat → Int32) (S1_points : Int32) (S1_home : Int32) (S1_men : Int32) (S1_turn : Int32) (S1_thrower : Int32) (S1_cube : Int32) (S1_owner : Int32) (S1_firms : Nat → Int32) (S1_kindsTold : Nat → Int32) (S1_places : Nat → Int32) (S1_crowds : Nat → Int32) (S1_pipsLeft : Nat → Int32) (S1_notHome : Nat → Int32) : CT l G yX0_takeBack cX0_takeBack 4 none q_X0_takeBack [.ref h, .ref a1] (wAC G h h_before S0_next S0_kept S0_before ++ wBD G a1 a1_firms a1_kindsTold a1_places a1_crowds a1_pipsLeft a1_notHome S1_points S1_home S1_men S1_turn S1_thrower S1_cube S1_owner S1_firms S1_kindsTold S1_places S1_crowds S1_pipsLeft S1_notHome) (M_X0_takeBack (S0_next, S0_kept, S0_before) (S1_points, S1_home, S1_men, S1_turn, S1_thrower, S1_cube, S1_owner, S1_firms, S1_kindsTold, S1_places, S1_crowds, S1_pipsLeft, S1_notHome)) (fun u => none) (fun u => wAC G h h_before u.1.1 u.1.2.1 u.1.2.2 ++ wBD G a1 a1_firms a1_kindsTold a1_places a1_crowds a1_pipsLeft a1_notHome u.2.1 u.2.2.1 u.2.2.2.1 u.2.2.2.2.1 u.2.2.2.2.2.1 u.2.2.2.2.2.2.1 u.2.2.2.2.2.2.2.1 u.2.2.2.2.2.2.2.2.1 u.2.2.2.2.2.2.2.2.2.1 u.2.2.2.2.2.2.2.2.2.2.1 u.2.2.2.2.2.2.2.2.2.2.2.1 u.2.2.2.2.2.2.2.2.2.2.2.2.1 u.2.2.2.2.2.2.2.2.2.2.2.2.2) := by
  refine CT.of (P := PX0_takeBack) (by decide) dPX0_takeBack (Nat.le_of_ble_eq_true rfl) ?_
  intro p e s m args below meth c A Q ls hne X RT Y hl
  have hl : lv_has ls 4 [(0, .ref h), (1, .ref a1)] := hl
  generalize hM : M_X0_takeBack (S0_next, S0_kept, S0_before) (S1_points, S1_home, S1_men, S1_turn, S1_thrower, S1_cube, S1_owner, S1_firms, S1_kindsTold, S1_places, S1_crowds, S1_pipsLeft, S1_notHome) = MM at hne RT
  unfold M_X0_takeBack at hM
  refine r_aload_n (pc' := 1) X hl 0 rfl rfl 0 rfl rfl ?_
  refine r_aload_n (pc' := 2) X hl 0 rfl rfl 1 rfl rfl ?_
  refine r_get (pc' := 5) (v := .int S0_next) X Y 2 rfl rfl fRX0_19 0 rfl rfl ?_
  refine r_bipush (pc' := 7) X (24 : Int32) 3 rfl rfl rfl ?_
  refine r_iadd (pc' := 8) X 4 rfl rfl ?_
  refine r_iconst (pc' := 9) X (1 : Int32) 5 rfl rfl rfl ?_
  refine r_isub (pc' := 10) X 6 rfl rfl ?_
  refine r_bipush (pc' := 12) X (24 : Int32) 7 rfl rfl rfl ?_
  refine r_irem (pc' := 13) X 8 rfl rfl (by decide) ?_
  refine r_put (pc' := 16) (ws' := wAC G h h_before (((S0_next + (24 : Int32)) - (1 : Int32)) - ((S0_next + (24 : Int32)) - (1 : Int32)) / (24 : Int32) * (24 : Int32)) S0_kept S0_before ++ wBD G a1 a1_firms a1_kindsTold a1_places a1_crowds a1_pipsLeft a1_notHome S1_points S1_home S1_men S1_turn S1_thrower S1_cube S1_owner S1_firms S1_kindsTold S1_places S1_crowds S1_pipsLeft S1_notHome) X Y 9 rfl rfl fRX0_19 0 rfl rfl rfl (Nat.le_of_ble_eq_true rfl) rfl (fun H locs Y => ?_)
  refine r_aload_n (pc' := 17) X hl 0 rfl rfl 10 rfl rfl ?_
  refine r_dup (pc' := 18) X 11 rfl rfl rfl ?_
  refine r_get (pc' := 21) (v := .int S0_kept) X Y 12 rfl rfl fRX0_15 0 rfl rfl ?_
  refine r_iconst (pc' := 22) X (1 : Int32) 13 rfl rfl rfl ?_
  refine r_isub (pc' := 23) X 14 rfl rfl ?_
  refine r_put (pc' := 26) (ws' := wAC G h h_before (((S0_next + (24 : Int32)) - (1 : Int32)) - ((S0_next + (24 : Int32)) - (1 : Int32)) / (24 : Int32) * (24 : Int32)) (S0_kept - (1 : Int32)) S0_before ++ wBD G a1 a1_firms a1_kindsTold a1_places a1_crowds a1_pipsLeft a1_notHome S1_points S1_home S1_men S1_turn S1_thrower S1_cube S1_owner S1_firms S1_kindsTold S1_places S1_crowds S1_pipsLeft S1_notHome) X Y 15 rfl rfl fRX0_15 0 rfl rfl rfl (Nat.le_of_ble_eq_true rfl) rfl (fun H locs Y => ?_)
  refine r_aload_n (pc' := 27) X hl 0 rfl rfl 16 rfl rfl ?_
  refine r_get (pc' := 30) (v := .int (((S0_next + (24 : Int32)) - (1 : Int32)) - ((S0_next + (24 : Int32)) - (1 : Int32)) / (24 : Int32) * (24 : Int32))) X Y 17 rfl rfl fRX0_19 0 rfl rfl ?_
  refine r_bipush (pc' := 32) X (12 : Int32) 18 rfl rfl rfl ?_
  refine r_imul (pc' := 33) X 19 rfl rfl ?_
  refine r_istore_n (pc' := 34) (L' := [(2, .int ((((S0_next + (24 : Int32)) - (1 : Int32)) - ((S0_next + (24 : Int32)) - (1 : Int32)) / (24 : Int32) * (24 : Int32)) * (12 : Int32))), (0, .ref h), (1, .ref a1)]) X hl rfl 20 rfl rfl (by decide) rfl (fun ls hl => ?_)
  refine r_iconst (pc' := 35) X (0 : Int32) 21 rfl rfl rfl ?_
  refine r_istore_n (pc' := 36) (L' := [(3, .int (0 : Int32)), (2, .int ((((S0_next + (24 : Int32)) - (1 : Int32)) - ((S0_next + (24 : Int32)) - (1 : Int32)) / (24 : Int32) * (24 : Int32)) * (12 : Int32))), (0, .ref h), (1, .ref a1)]) X hl rfl 22 rfl rfl (by decide) rfl (fun ls hl => ?_)
  obtain ⟨LL1, hL1, hne1, hX1⟩ := mL hM hne
  have KX1 : ∀ (b1_points : Int32) (b1_home : Int32) (b1_men : Int32) (b1_turn : Int32) (b1_thrower : Int32) (b1_cube : Int32) (b1_owner : Int32) (b1_firms : Nat → Int32) (b1_kindsTold : Nat → Int32) (b1_places : Nat → Int32) (b1_crowds : Nat → Int32) (b1_pipsLeft : Nat → Int32) (b1_notHome : Nat → Int32) (H : Heap) (locs : List Loc) (ls : Array Slot), some (b1_points, b1_home, b1_men, b1_turn, b1_thrower, b1_cube, b1_owner, b1_firms, b1_kindsTold, b1_places, b1_crowds, b1_pipsLeft, b1_notHome) = LL1 → rY G A s (wAC G h h_before (((S0_next + (24 : Int32)) - (1 : Int32)) - ((S0_next + (24 : Int32)) - (1 : Int32)) / (24 : Int32) * (24 : Int32)) (S0_kept - (1 : Int32)) S0_before ++ wBD G a1 a1_firms a1_kindsTold a1_places a1_crowds a1_pipsLeft a1_notHome b1_points b1_home b1_men b1_turn b1_thrower b1_cube b1_owner b1_firms b1_kindsTold b1_places b1_crowds b1_pipsLeft b1_notHome) H locs → lv_has ls 4 [(0, .ref h), (1, .ref a1), (2, .int ((((S0_next + (24 : Int32)) - (1 : Int32)) - ((S0_next + (24 : Int32)) - (1 : Int32)) / (24 : Int32) * (24 : Int32)) * (12 : Int32)))] → W p l e q_X0_takeBack s m args below meth c H locs 0 0 Q (F0 m 63 ls []) := by
    intro b1_points b1_home b1_men b1_turn b1_thrower b1_cube b1_owner b1_firms b1_kindsTold b1_places b1_crowds b1_pipsLeft b1_notHome H locs ls hM Y hl
    replace hM := hX1 _ hM
    refine r_aload_n (pc' := 64) X hl 1 rfl rfl 38 rfl rfl ?_
    refine r_aload_n (pc' := 65) X hl 0 rfl rfl 39 rfl rfl ?_
    refine r_get (pc' := 68) (v := .ref h_before) X Y 40 rfl rfl fRX0_11 0 rfl rfl ?_
    refine r_iload_n (pc' := 69) X hl 2 rfl rfl 41 rfl rfl ?_
    refine r_bipush (pc' := 71) X (8 : Int32) 42 rfl rfl rfl ?_
    refine r_iadd (pc' := 72) X 43 rfl rfl ?_
    obtain ⟨g2, hM⟩ := mG hM hne
    refine r_iald (pc' := 73) X Y 44 rfl rfl 1 rfl (vin g2) ?_
    refine r_putN (pc' := 76) (ws' := wAC G h h_before (((S0_next + (24 : Int32)) - (1 : Int32)) - ((S0_next + (24 : Int32)) - (1 : Int32)) / (24 : Int32) * (24 : Int32)) (S0_kept - (1 : Int32)) S0_before ++ wBD G a1 a1_firms a1_kindsTold a1_places a1_crowds a1_pipsLeft a1_notHome b1_points b1_home b1_men (S0_before ((((((S0_next + (24 : Int32)) - (1 : Int32)) - ((S0_next + (24 : Int32)) - (1 : Int32)) / (24 : Int32) * (24 : Int32)) * (12 : Int32)) + (8 : Int32))).toNatClampNeg) b1_thrower b1_cube b1_owner b1_firms b1_kindsTold b1_places b1_crowds b1_pipsLeft b1_notHome) X Y 45 rfl rfl fRX0_33 2 rfl rfl rfl (Nat.le_of_ble_eq_true rfl) rfl (fun H locs Y => ?_)
    refine r_aload_n (pc' := 77) X hl 1 rfl rfl 46 rfl rfl ?_
    refine r_aload_n (pc' := 78) X hl 0 rfl rfl 47 rfl rfl ?_
    refine r_get (pc' := 81) (v := .ref h_before) X Y 48 rfl rfl fRX0_11 0 rfl rfl ?_
    refine r_iload_n (pc' := 82) X hl 2 rfl rfl 49 rfl rfl ?_
    refine r_bipush (pc' := 84) X (8 : Int32) 50 rfl rfl rfl ?_
    refine r_iadd (pc' := 85) X 51 rfl rfl ?_
    refine r_iconst (pc' := 86) X (1 : Int32) 52 rfl rfl rfl ?_
    refine r_iadd (pc' := 87) X 53 rfl rfl ?_
    obtain ⟨g3, hM⟩ := mG hM hne
    refine r_iald (pc' := 88) X Y 54 rfl rfl 1 rfl (vin g3) ?_
    refine r_putN (pc' := 91) (ws' := wAC G h h_before (((S0_next + (24 : Int32)) - (1 : Int32)) - ((S0_next + (24 : Int32)) - (1 : Int32)) / (24 : Int32) * (24 : Int32)) (S0_kept - (1 : Int32)) S0_before ++ wBD G a1 a1_firms a1_kindsTold a1_places a1_crowds a1_pipsLeft a1_notHome b1_points b1_home b1_men (S0_before ((((((S0_next + (24 : Int32)) - (1 : Int32)) - ((S0_next + (24 : Int32)) - (1 : Int32)) / (24 : Int32) * (24 : Int32)) * (12 : Int32)) + (8 : Int32))).toNatClampNeg) (S0_before (((((((S0_next + (24 : Int32)) - (1 : Int32)) - ((S0_next + (24 : Int32)) - (1 : Int32)) / (24 : Int32) * (24 : Int32)) * (12 : Int32)) + (8 : Int32)) + (1 : Int32))).toNatClampNeg) b1_cube b1_owner b1_firms b1_kindsTold b1_places b1_crowds b1_pipsLeft b1_notHome) X Y 55 rfl rfl fRX0_36 2 rfl rfl rfl (Nat.le_of_ble_eq_true rfl) rfl (fun H locs Y => ?_)
    refine r_aload_n (pc' := 92) X hl 1 rfl rfl 56 rfl rfl ?_
    refine r_aload_n (pc' := 93) X hl 0 rfl rfl 57 rfl rfl ?_
    refine r_get (pc' := 96) (v := .ref h_before) X Y 58 rfl rfl fRX0_11 0 rfl rfl ?_
    refine r_iload_n (pc' := 97) X hl 2 rfl rfl 59 rfl rfl ?_
    refine r_bipush (pc' := 99) X (8 : Int32) 60 rfl rfl rfl ?_
    refine r_iadd (pc' := 100) X 61 rfl rfl ?_
    refine r_iconst (pc' := 101) X (2 : Int32) 62 rfl rfl rfl ?_
    refine r_iadd (pc' := 102) X 63 rfl rfl ?_
    obtain ⟨g4, hM⟩ := mG hM hne
    refine r_iald (pc' := 103) X Y 64 rfl rfl 1 rfl (vin g4) ?_
    refine r_putN (pc' := 106) (ws' := wAC G h h_before (((S0_next + (24 : Int32)) - (1 : Int32)) - ((S0_next + (24 : Int32)) - (1 : Int32)) / (24 : Int32) * (24 : Int32)) (S0_kept - (1 : Int32)) S0_before ++ wBD G a1 a1_firms a1_kindsTold a1_places a1_crowds a1_pipsLeft a1_notHome b1_points b1_home b1_men (S0_before ((((((S0_next + (24 : Int32)) - (1 : Int32)) - ((S0_next + (24 : Int32)) - (1 : Int32)) / (24 : Int32) * (24 : Int32)) * (12 : Int32)) + (8 : Int32))).toNatClampNeg) (S0_before (((((((S0_next + (24 : Int32)) - (1 : Int32)) - ((S0_next + (24 : Int32)) - (1 : Int32)) / (24 : Int32) * (24 : Int32)) * (12 : Int32)) + (8 : Int32)) + (1 : Int32))).toNatClampNeg) (S0_before (((((((S0_next + (24 : Int32)) - (1 : Int32)) - ((S0_next + (24 : Int32)) - (1 : Int32)) / (24 : Int32) * (24 : Int32)) * (12 : Int32)) + (8 : Int32)) + (2 : Int32))).toNatClampNeg) b1_owner b1_firms b1_kindsTold b1_places b1_crowds b1_pipsLeft b1_notHome) X Y 65 rfl rfl fRX0_39 2 rfl rfl rfl (Nat.le_of_ble_eq_true rfl) rfl (fun H locs Y => ?_)
    refine r_aload_n (pc' := 107) X hl 1 rfl rfl 66 rfl rfl ?_
    refine r_aload_n (pc' := 108) X hl 0 rfl rfl 67 rfl rfl ?_
    refine r_get (pc' := 111) (v := .ref h_before) X Y 68 rfl rfl fRX0_11 0 rfl rfl ?_
    refine r_iload_n (pc' := 112) X hl 2 rfl rfl 69 rfl rfl ?_
    refine r_bipush (pc' := 114) X (8 : Int32) 70 rfl rfl rfl ?_
    refine r_iadd (pc' := 115) X 71 rfl rfl ?_
    refine r_iconst (pc' := 116) X (3 : Int32) 72 rfl rfl rfl ?_
    refine r_iadd (pc' := 117) X 73 rfl rfl ?_
    obtain ⟨g5, hM⟩ := mG hM hne
    refine r_iald (pc' := 118) X Y 74 rfl rfl 1 rfl (vin g5) ?_
    refine r_putN (pc' := 121) (ws' := wAC G h h_before (((S0_next + (24 : Int32)) - (1 : Int32)) - ((S0_next + (24 : Int32)) - (1 : Int32)) / (24 : Int32) * (24 : Int32)) (S0_kept - (1 : Int32)) S0_before ++ wBD G a1 a1_firms a1_kindsTold a1_places a1_crowds a1_pipsLeft a1_notHome b1_points b1_home b1_men (S0_before ((((((S0_next + (24 : Int32)) - (1 : Int32)) - ((S0_next + (24 : Int32)) - (1 : Int32)) / (24 : Int32) * (24 : Int32)) * (12 : Int32)) + (8 : Int32))).toNatClampNeg) (S0_before (((((((S0_next + (24 : Int32)) - (1 : Int32)) - ((S0_next + (24 : Int32)) - (1 : Int32)) / (24 : Int32) * (24 : Int32)) * (12 : Int32)) + (8 : Int32)) + (1 : Int32))).toNatClampNeg) (S0_before (((((((S0_next + (24 : Int32)) - (1 : Int32)) - ((S0_next + (24 : Int32)) - (1 : Int32)) / (24 : Int32) * (24 : Int32)) * (12 : Int32)) + (8 : Int32)) + (2 : Int32))).toNatClampNeg) (S0_before (((((((S0_next + (24 : Int32)) - (1 : Int32)) - ((S0_next + (24 : Int32)) - (1 : Int32)) / (24 : Int32) * (24 : Int32)) * (12 : Int32)) + (8 : Int32)) + (3 : Int32))).toNatClampNeg) b1_firms b1_kindsTold b1_places b1_crowds b1_pipsLeft b1_notHome) X Y 75 rfl rfl fRX0_42 2 rfl rfl rfl (Nat.le_of_ble_eq_true rfl) rfl (fun H locs Y => ?_)
    exact RT (((((S0_next + (24 : Int32)) - (1 : Int32)) - ((S0_next + (24 : Int32)) - (1 : Int32)) / (24 : Int32) * (24 : Int32)), (S0_kept - (1 : Int32)), S0_before), (b1_points, b1_home, b1_men, (S0_before ((((((S0_next + (24 : Int32)) - (1 : Int32)) - ((S0_next + (24 : Int32)) - (1 : Int32)) / (24 : Int32) * (24 : Int32)) * (12 : Int32)) + (8 : Int32))).toNatClampNeg), (S0_before (((((((S0_next + (24 : Int32)) - (1 : Int32)) - ((S0_next + (24 : Int32)) - (1 : Int32)) / (24 : Int32) * (24 : Int32)) * (12 : Int32)) + (8 : Int32)) + (1 : Int32))).toNatClampNeg), (S0_before (((((((S0_next + (24 : Int32)) - (1 : Int32)) - ((S0_next + (24 : Int32)) - (1 : Int32)) / (24 : Int32) * (24 : Int32)) * (12 : Int32)) + (8 : Int32)) + (2 : Int32))).toNatClampNeg), (S0_before (((((((S0_next + (24 : Int32)) - (1 : Int32)) - ((S0_next + (24 : Int32)) - (1 : Int32)) / (24 : Int32) * (24 : Int32)) * (12 : Int32)) + (8 : Int32)) + (3 : Int32))).toNatClampNeg), b1_firms, b1_kindsTold, b1_places, b1_crowds, b1_pipsLeft, b1_notHome)) _ _ _ _ _ hM (Or.inr (Or.inr (Or.inr (Or.inl ⟨rfl, rfl, rfl⟩)))) (X.d (k := 76) rfl) Y
  refine lp_rule (I := fun (st1 : Int32 × BD) => ∀ (H : Heap) (locs : List Loc) (ls : Array Slot), rY G A s (wAC G h h_before (((S0_next + (24 : Int32)) - (1 : Int32)) - ((S0_next + (24 : Int32)) - (1 : Int32)) / (24 : Int32) * (24 : Int32)) (S0_kept - (1 : Int32)) S0_before ++ wBD G a1 a1_firms a1_kindsTold a1_places a1_crowds a1_pipsLeft a1_notHome st1.2.1 st1.2.2.1 st1.2.2.2.1 st1.2.2.2.2.1 st1.2.2.2.2.2.1 st1.2.2.2.2.2.2.1 st1.2.2.2.2.2.2.2.1 st1.2.2.2.2.2.2.2.2.1 st1.2.2.2.2.2.2.2.2.2.1 st1.2.2.2.2.2.2.2.2.2.2.1 st1.2.2.2.2.2.2.2.2.2.2.2.1 st1.2.2.2.2.2.2.2.2.2.2.2.2.1 st1.2.2.2.2.2.2.2.2.2.2.2.2.2) H locs → lv_has ls 4 [(0, .ref h), (1, .ref a1), (2, .int ((((S0_next + (24 : Int32)) - (1 : Int32)) - ((S0_next + (24 : Int32)) - (1 : Int32)) / (24 : Int32) * (24 : Int32)) * (12 : Int32))), (3, .int st1.1)] → W p l e q_X0_takeBack s m args below meth c H locs 0 0 Q (F0 m 36 ls [])) hne1 (fun rec1 st1 IH1 hM => ?_) _ _ hL1 _ _ _ Y (lv_sub hl [2, 3, 1, 0] rfl)
  intro H locs ls Y hl
  obtain ⟨st1_1, ⟨st1_2_points, st1_2_home, st1_2_men, st1_2_turn, st1_2_thrower, st1_2_cube, st1_2_owner, st1_2_firms, st1_2_kindsTold, st1_2_places, st1_2_crowds, st1_2_pipsLeft, st1_2_notHome⟩⟩ := st1
  replace Y : rY G A s (wAC G h h_before (((S0_next + (24 : Int32)) - (1 : Int32)) - ((S0_next + (24 : Int32)) - (1 : Int32)) / (24 : Int32) * (24 : Int32)) (S0_kept - (1 : Int32)) S0_before ++ wBD G a1 a1_firms a1_kindsTold a1_places a1_crowds a1_pipsLeft a1_notHome st1_2_points st1_2_home st1_2_men st1_2_turn st1_2_thrower st1_2_cube st1_2_owner st1_2_firms st1_2_kindsTold st1_2_places st1_2_crowds st1_2_pipsLeft st1_2_notHome) H locs := Y
  replace hl : lv_has ls 4 [(0, .ref h), (1, .ref a1), (2, .int ((((S0_next + (24 : Int32)) - (1 : Int32)) - ((S0_next + (24 : Int32)) - (1 : Int32)) / (24 : Int32) * (24 : Int32)) * (12 : Int32))), (3, .int st1_1)] := hl
  refine r_iload_n (pc' := 37) X hl 3 rfl rfl 23 rfl rfl ?_
  refine r_aload_n (pc' := 38) X hl 1 rfl rfl 24 rfl rfl ?_
  refine r_getN (pc' := 41) (v := .int st1_2_men) X Y 25 rfl rfl fRX0_51 2 rfl rfl ?_
  refine r_icmp_ge (pc' := 44) X 63 26 rfl rfl (by decide) (fun c6 => ?_) (fun c6 => ?_)
  · replace hM := mI hM c6
    exact KX1 st1_2_points st1_2_home st1_2_men st1_2_turn st1_2_thrower st1_2_cube st1_2_owner st1_2_firms st1_2_kindsTold st1_2_places st1_2_crowds st1_2_pipsLeft st1_2_notHome _ _ _ hM Y (lv_sub hl [0, 1, 2] rfl)
  · replace hM := mE hM c6
    refine r_aload_n (pc' := 45) X hl 1 rfl rfl 27 rfl rfl ?_
    refine r_iload_n (pc' := 46) X hl 3 rfl rfl 28 rfl rfl ?_
    refine r_aload_n (pc' := 47) X hl 0 rfl rfl 29 rfl rfl ?_
    refine r_get (pc' := 50) (v := .ref h_before) X Y 30 rfl rfl fRX0_11 0 rfl rfl ?_
    refine r_iload_n (pc' := 51) X hl 2 rfl rfl 31 rfl rfl ?_
    refine r_iload_n (pc' := 52) X hl 3 rfl rfl 32 rfl rfl ?_
    refine r_iadd (pc' := 53) X 33 rfl rfl ?_
    obtain ⟨g7, hM⟩ := mG hM hne1
    refine r_iald (pc' := 54) X Y 34 rfl rfl 1 rfl (vin g7) ?_
    refine r_callV (pc' := 57) (As := [.int st1_1, .int (S0_before ((((((S0_next + (24 : Int32)) - (1 : Int32)) - ((S0_next + (24 : Int32)) - (1 : Int32)) / (24 : Int32) * (24 : Int32)) * (12 : Int32)) + st1_1)).toNatClampNeg)]) (rest := []) (wr := (wAC G h h_before (((S0_next + (24 : Int32)) - (1 : Int32)) - ((S0_next + (24 : Int32)) - (1 : Int32)) / (24 : Int32) * (24 : Int32)) (S0_kept - (1 : Int32)) S0_before : va_W)) X Y 35 rfl rfl mRX0_54 (c_X2_put l G a1 a1_firms a1_kindsTold a1_places a1_crowds a1_pipsLeft a1_notHome st1_2_points st1_2_home st1_2_men st1_2_turn st1_2_thrower st1_2_cube st1_2_owner st1_2_firms st1_2_kindsTold st1_2_places st1_2_crowds st1_2_pipsLeft st1_2_notHome st1_1 ((S0_before ((((((S0_next + (24 : Int32)) - (1 : Int32)) - ((S0_next + (24 : Int32)) - (1 : Int32)) / (24 : Int32) * (24 : Int32)) * (12 : Int32)) + st1_1)).toNatClampNeg))) (mB hM hne1) 2 rfl rfl [2, 3, 4, 5, 6, 7, 8] [0, 1] [0, 1, 2, 3, 4, 5, 6, 7, 8] rfl rfl ⟨rfl, rfl, rfl⟩ rfl (w2 := fun u8 => wAC G h h_before (((S0_next + (24 : Int32)) - (1 : Int32)) - ((S0_next + (24 : Int32)) - (1 : Int32)) / (24 : Int32) * (24 : Int32)) (S0_kept - (1 : Int32)) S0_before ++ wBD G a1 a1_firms a1_kindsTold a1_places a1_crowds a1_pipsLeft a1_notHome u8.1 u8.2.1 u8.2.2.1 u8.2.2.2.1 u8.2.2.2.2.1 u8.2.2.2.2.2.1 u8.2.2.2.2.2.2.1 u8.2.2.2.2.2.2.2.1 u8.2.2.2.2.2.2.2.2.1 u8.2.2.2.2.2.2.2.2.2.1 u8.2.2.2.2.2.2.2.2.2.2.1 u8.2.2.2.2.2.2.2.2.2.2.2.1 u8.2.2.2.2.2.2.2.2.2.2.2.2) (fun _ => rfl) rfl (Nat.le_of_ble_eq_true rfl) ⟨rfl, rfl⟩ ⟨Nat.le_of_ble_eq_true rfl, Nat.le_of_ble_eq_true rfl⟩ ⟨Nat.zero_le _, Nat.zero_le _⟩ hl.1 (st' := fun u8 => []) (fun _ => rfl) (fun u8 H locs huu8 Y => ?_)
    obtain ⟨u8_points, u8_home, u8_men, u8_turn, u8_thrower, u8_cube, u8_owner, u8_firms, u8_kindsTold, u8_places, u8_crowds, u8_pipsLeft, u8_notHome⟩ := u8
    replace Y : rY G A s (wAC G h h_before (((S0_next + (24 : Int32)) - (1 : Int32)) - ((S0_next + (24 : Int32)) - (1 : Int32)) / (24 : Int32) * (24 : Int32)) (S0_kept - (1 : Int32)) S0_before ++ wBD G a1 a1_firms a1_kindsTold a1_places a1_crowds a1_pipsLeft a1_notHome u8_points u8_home u8_men u8_turn u8_thrower u8_cube u8_owner u8_firms u8_kindsTold u8_places u8_crowds u8_pipsLeft u8_notHome) H locs := Y
    replace hM := mS hM huu8
    show W p l e q_X0_takeBack s m args below meth c H locs 0 0 Q (F0 m 57 ls [])
    refine r_iinc (pc' := 60) (L' := [(3, .int (st1_1 + (1 : Int32))), (0, .ref h), (1, .ref a1), (2, .int ((((S0_next + (24 : Int32)) - (1 : Int32)) - ((S0_next + (24 : Int32)) - (1 : Int32)) / (24 : Int32) * (24 : Int32)) * (12 : Int32)))]) X (st1_1 + (1 : Int32)) hl 3 rfl rfl 36 rfl rfl (by decide) rfl (fun ls hl => ?_)
    refine r_goto X 36 37 rfl (by decide) ?_
    exact IH1 _ hM _ _ _ Y (lv_sub hl [1, 2, 3, 0] rfl)

def M_X4_fail (S0 : RD) (i1 : Int32) : Option (Int32 × RD) :=
  (some ((0 : Int32), (rd_s_faultPlace (rd_s_faultNumber S0 i1) (rd_at S0))))
def q_X4_fail : Room := { frames := 1, cells := 0, slots := 0, locals := 60 }
set_option maxHeartbeats 4000000 in
set_option maxRecDepth 100000 in
theorem c_X4_fail (l : Launch) (G : gT) (h h_bytes h_board : Nat) (S0_length : Int32) (S0_at : Int32) (S0_faultNumber : Int32) (S0_faultPlace : Int32) (i1 : Int32) : CT l G yX4_fail cX4_fail 2 (some .boolean) q_X4_fail [.ref h, .int i1] (wRD G h h_bytes h_board S0_length S0_at S0_faultNumber S0_faultPlace) (M_X4_fail (S0_length, S0_at, S0_faultNumber, S0_faultPlace) i1) (fun u => some (.int u.1)) (fun u => wRD G h h_bytes h_board u.2.1 u.2.2.1 u.2.2.2.1 u.2.2.2.2) := by
  refine CT.of (P := PX4_fail) (by decide) dPX4_fail (Nat.le_of_ble_eq_true rfl) ?_
  intro p e s m args below meth c A Q ls hne X RT Y hl
  have hl : lv_has ls 2 [(0, .ref h), (1, .int i1)] := hl
  generalize hM : M_X4_fail (S0_length, S0_at, S0_faultNumber, S0_faultPlace) i1 = MM at hne RT
  unfold M_X4_fail at hM
  refine r_aload_n (pc' := 1) X hl 0 rfl rfl 0 rfl rfl ?_
  refine r_iload_n (pc' := 2) X hl 1 rfl rfl 1 rfl rfl ?_
  refine r_put (pc' := 5) (ws' := wRD G h h_bytes h_board S0_length S0_at i1 S0_faultPlace) X Y 2 rfl rfl fRX4_76 0 rfl rfl rfl (Nat.le_of_ble_eq_true rfl) rfl (fun H locs Y => ?_)
  refine r_aload_n (pc' := 6) X hl 0 rfl rfl 3 rfl rfl ?_
  refine r_aload_n (pc' := 7) X hl 0 rfl rfl 4 rfl rfl ?_
  refine r_get (pc' := 10) (v := .int S0_at) X Y 5 rfl rfl fRX4_34 0 rfl rfl ?_
  refine r_put (pc' := 13) (ws' := wRD G h h_bytes h_board S0_length S0_at i1 S0_at) X Y 6 rfl rfl fRX4_79 0 rfl rfl rfl (Nat.le_of_ble_eq_true rfl) rfl (fun H locs Y => ?_)
  refine r_iconst (pc' := 14) X (0 : Int32) 7 rfl rfl rfl ?_
  exact RT ((0 : Int32), (S0_length, S0_at, i1, S0_at)) _ _ _ _ _ hM (Or.inr (Or.inl ⟨rfl, rfl, _, rfl, nb (Or.inl rfl)⟩)) (X.d (k := 8) rfl) Y

def M_X4_readSign (S0 : RD) (S1 : IA) (i1 : Int32) : Option (Int32 × RD) :=
  (jn (σ := Unit) (fun v1 => ((M_X4_fail S0 (1 : Int32)).bind (fun u2 => (if (u2.1 = 0 ∨ u2.1 = 1) then (some (u2.1, u2.2)) else none)))) (fun J1 => (if (rd_length S0) ≤ (rd_at S0) then (J1 ()) else (if inb (rd_at S0) 90 = true then (if (S1 ((rd_at S0)).toNatClampNeg) = i1 then (some ((1 : Int32), (rd_s_at S0 ((rd_at S0) + (1 : Int32))))) else (J1 ())) else none))))
def q_X4_readSign : Room := { frames := 2, cells := 0, slots := 0, locals := 81 }
set_option maxHeartbeats 4000000 in
set_option maxRecDepth 100000 in
theorem c_X4_readSign (l : Launch) (G : gT) (h h_bytes h_board : Nat) (S0_length : Int32) (S0_at : Int32) (S0_faultNumber : Int32) (S0_faultPlace : Int32) (S1 : Nat → Int32) (i1 : Int32) : CT l G yX4_readSign cX4_readSign 2 (some .boolean) q_X4_readSign [.ref h, .int i1] (wRD G h h_bytes h_board S0_length S0_at S0_faultNumber S0_faultPlace ++ wIA G h_bytes 90 S1) (M_X4_readSign (S0_length, S0_at, S0_faultNumber, S0_faultPlace) S1 i1) (fun u => some (.int u.1)) (fun u => wRD G h h_bytes h_board u.2.1 u.2.2.1 u.2.2.2.1 u.2.2.2.2 ++ wIA G h_bytes 90 S1) := by
  refine CT.of (P := PX4_readSign) (by decide) dPX4_readSign (Nat.le_of_ble_eq_true rfl) ?_
  intro p e s m args below meth c A Q ls hne X RT Y hl
  have hl : lv_has ls 2 [(0, .ref h), (1, .int i1)] := hl
  generalize hM : M_X4_readSign (S0_length, S0_at, S0_faultNumber, S0_faultPlace) S1 i1 = MM at hne RT
  unfold M_X4_readSign at hM
  refine r_aload_n (pc' := 1) X hl 0 rfl rfl 0 rfl rfl ?_
  refine r_get (pc' := 4) (v := .int S0_at) X Y 1 rfl rfl fRX4_34 0 rfl rfl ?_
  refine r_aload_n (pc' := 5) X hl 0 rfl rfl 2 rfl rfl ?_
  refine r_get (pc' := 8) (v := .int S0_length) X Y 3 rfl rfl fRX4_22 0 rfl rfl ?_
  obtain ⟨J1, hJ1, hM⟩ := mJ hM
  have KJ1 : ∀  (H : Heap) (locs : List Loc) (ls : Array Slot), J1 () = MM → rY G A s (wRD G h h_bytes h_board S0_length S0_at S0_faultNumber S0_faultPlace ++ wIA G h_bytes 90 S1) H locs → lv_has ls 2 [(0, .ref h)] → W p l e q_X4_readSign s m args below meth c H locs 0 0 Q (F0 m 24 ls []) := by
    intro  H locs ls hM Y hl
    replace hM := (hJ1 _).symm.trans hM
    refine r_aload_n (pc' := 25) X hl 0 rfl rfl 12 rfl rfl ?_
    refine r_iconst (pc' := 26) X (1 : Int32) 13 rfl rfl rfl ?_
    refine r_callV (pc' := 29) (As := [.int (1 : Int32)]) (rest := []) (wr := (wIA G h_bytes 90 S1 : va_W)) X Y 14 rfl rfl mRX4_56 (c_X4_fail l G h h_bytes h_board S0_length S0_at S0_faultNumber S0_faultPlace (1 : Int32)) (mB hM hne) 0 rfl rfl [0] [1] [1, 0] rfl rfl ⟨rfl, rfl, rfl⟩ rfl (w2 := fun u2 => wRD G h h_bytes h_board u2.2.1 u2.2.2.1 u2.2.2.2.1 u2.2.2.2.2 ++ wIA G h_bytes 90 S1) (fun _ => rfl) rfl (Nat.le_of_ble_eq_true rfl) ⟨rfl, rfl⟩ ⟨Nat.le_of_ble_eq_true rfl, Nat.le_of_ble_eq_true rfl⟩ ⟨Nat.zero_le _, Nat.zero_le _⟩ hl.1 (st' := fun u2 => [.int u2.1]) (fun _ => rfl) (fun u2 H locs huu2 Y => ?_)
    obtain ⟨u2_1, ⟨u2_2_length, u2_2_at, u2_2_faultNumber, u2_2_faultPlace⟩⟩ := u2
    replace Y : rY G A s (wRD G h h_bytes h_board u2_2_length u2_2_at u2_2_faultNumber u2_2_faultPlace ++ wIA G h_bytes 90 S1) H locs := Y
    replace hM := mS hM huu2
    show W p l e q_X4_readSign s m args below meth c H locs 0 0 Q (F0 m 29 ls [.int u2_1])
    obtain ⟨g3, hM⟩ := mG hM hne
    exact RT (u2_1, (u2_2_length, u2_2_at, u2_2_faultNumber, u2_2_faultPlace)) _ _ _ _ _ hM (Or.inr (Or.inl ⟨rfl, rfl, _, rfl, nb g3⟩)) (X.d (k := 15) rfl) Y
  refine r_icmp_ge (pc' := 11) X 24 4 rfl rfl (by decide) (fun c4 => ?_) (fun c4 => ?_)
  · replace hM := mI hM c4
    exact KJ1  _ _ _ hM Y (lv_sub hl [0] rfl)
  · replace hM := mE hM c4
    refine r_aload_n (pc' := 12) X hl 0 rfl rfl 5 rfl rfl ?_
    refine r_get (pc' := 15) (v := .ref h_bytes) X Y 6 rfl rfl fRX4_15 0 rfl rfl ?_
    refine r_aload_n (pc' := 16) X hl 0 rfl rfl 7 rfl rfl ?_
    refine r_get (pc' := 19) (v := .int S0_at) X Y 8 rfl rfl fRX4_34 0 rfl rfl ?_
    obtain ⟨g5, hM⟩ := mG hM hne
    refine r_iald (pc' := 20) X Y 9 rfl rfl 1 rfl (vin g5) ?_
    refine r_iload_n (pc' := 21) X hl 1 rfl rfl 10 rfl rfl ?_
    refine r_icmp_eq (pc' := 24) X 30 11 rfl rfl (by decide) (fun c6 => ?_) (fun c6 => ?_)
    · replace hM := mI hM c6
      refine r_aload_n (pc' := 31) X hl 0 rfl rfl 16 rfl rfl ?_
      refine r_dup (pc' := 32) X 17 rfl rfl rfl ?_
      refine r_get (pc' := 35) (v := .int S0_at) X Y 18 rfl rfl fRX4_34 0 rfl rfl ?_
      refine r_iconst (pc' := 36) X (1 : Int32) 19 rfl rfl rfl ?_
      refine r_iadd (pc' := 37) X 20 rfl rfl ?_
      refine r_put (pc' := 40) (ws' := wRD G h h_bytes h_board S0_length (S0_at + (1 : Int32)) S0_faultNumber S0_faultPlace ++ wIA G h_bytes 90 S1) X Y 21 rfl rfl fRX4_34 0 rfl rfl rfl (Nat.le_of_ble_eq_true rfl) rfl (fun H locs Y => ?_)
      refine r_iconst (pc' := 41) X (1 : Int32) 22 rfl rfl rfl ?_
      exact RT ((1 : Int32), (S0_length, (S0_at + (1 : Int32)), S0_faultNumber, S0_faultPlace)) _ _ _ _ _ hM (Or.inr (Or.inl ⟨rfl, rfl, _, rfl, nb (Or.inr rfl)⟩)) (X.d (k := 23) rfl) Y
    · replace hM := mE hM c6
      exact KJ1  _ _ _ hM Y (lv_sub hl [0] rfl)

def M_X4_isFigure (i0 : Int32) : Option (Int32) :=
  (if i0 < (48 : Int32) then (some (0 : Int32)) else (if (57 : Int32) < i0 then (some (0 : Int32)) else (some (1 : Int32))))
def q_X4_isFigure : Room := { frames := 1, cells := 0, slots := 0, locals := 60 }
set_option maxHeartbeats 4000000 in
set_option maxRecDepth 100000 in
theorem c_X4_isFigure (l : Launch) (G : gT) (i0 : Int32) : CT l G yX4_isFigure cX4_isFigure 1 (some .boolean) q_X4_isFigure [.int i0] ([]) (M_X4_isFigure i0) (fun u => some (.int u)) (fun u => []) := by
  refine CT.of (P := PX4_isFigure) (by decide) dPX4_isFigure (Nat.le_of_ble_eq_true rfl) ?_
  intro p e s m args below meth c A Q ls hne X RT Y hl
  have hl : lv_has ls 1 [(0, .int i0)] := hl
  generalize hM : M_X4_isFigure i0 = MM at hne RT
  unfold M_X4_isFigure at hM
  refine r_iload_n (pc' := 1) X hl 0 rfl rfl 0 rfl rfl ?_
  refine r_bipush (pc' := 3) X (48 : Int32) 1 rfl rfl rfl ?_
  refine r_icmp_lt (pc' := 6) X 16 2 rfl rfl (by decide) (fun c1 => ?_) (fun c1 => ?_)
  · replace hM := mI hM c1
    refine r_iconst (pc' := 17) X (0 : Int32) 8 rfl rfl rfl ?_
    exact RT (0 : Int32) _ _ _ _ _ hM (Or.inr (Or.inl ⟨rfl, rfl, _, rfl, nb (Or.inl rfl)⟩)) (X.d (k := 9) rfl) Y
  · replace hM := mE hM c1
    refine r_iload_n (pc' := 7) X hl 0 rfl rfl 3 rfl rfl ?_
    refine r_bipush (pc' := 9) X (57 : Int32) 4 rfl rfl rfl ?_
    refine r_icmp_gt (pc' := 12) X 16 5 rfl rfl (by decide) (fun c2 => ?_) (fun c2 => ?_)
    · replace hM := mI hM c2
      refine r_iconst (pc' := 17) X (0 : Int32) 8 rfl rfl rfl ?_
      exact RT (0 : Int32) _ _ _ _ _ hM (Or.inr (Or.inl ⟨rfl, rfl, _, rfl, nb (Or.inl rfl)⟩)) (X.d (k := 9) rfl) Y
    · replace hM := mE hM c2
      refine r_iconst (pc' := 13) X (1 : Int32) 6 rfl rfl rfl ?_
      refine r_goto X 17 7 rfl (by decide) ?_
      exact RT (1 : Int32) _ _ _ _ _ hM (Or.inr (Or.inl ⟨rfl, rfl, _, rfl, nb (Or.inr rfl)⟩)) (X.d (k := 9) rfl) Y

def M_X4_readNumber (S0 : RD) (S1 : IA) (i1 : Int32) (i2 : Int32) : Option (Int32 × RD) :=
  ((lp (σ := Int32 × Int32) (β := Int32 × Int32) (fun rec1 st1 => (if (rd_length S0) ≤ st1.1 then (some (st1.1, st1.2)) else (if ((rd_at S0) + (3 : Int32)) ≤ st1.1 then (some (st1.1, st1.2)) else (if inb st1.1 90 = true then ((M_X4_isFigure ((S1 (st1.1).toNatClampNeg))).bind (fun u12 => (if u12 = 0 then (some (st1.1, st1.2)) else (rec1 ((st1.1 + (1 : Int32)), ((((10 : Int32) * st1.2) + (S1 (st1.1).toNatClampNeg)) - (48 : Int32))))))) else none)))) 1000000 ((rd_at S0), (0 : Int32))).bind (fun b1 => (jn (σ := Unit) (fun v2 => ((M_X4_fail S0 (1 : Int32)).bind (fun u3 => (some ((-1000000 : Int32), u3.2))))) (fun J2 => (if b1.1 = (rd_at S0) then (J2 ()) else (if b1.1 = ((rd_at S0) + (3 : Int32)) then (J2 ()) else ((M_X7_within b1.2 i1 i2).bind (fun u6 => (if u6 = 0 then ((M_X4_fail S0 (2 : Int32)).bind (fun u8 => (some ((-1000000 : Int32), u8.2)))) else (some (b1.2, (rd_s_at S0 b1.1))))))))))))
def q_X4_readNumber : Room := { frames := 2, cells := 0, slots := 0, locals := 82 }
set_option maxHeartbeats 4000000 in
set_option maxRecDepth 100000 in
theorem c_X4_readNumber (l : Launch) (G : gT) (h h_bytes h_board : Nat) (S0_length : Int32) (S0_at : Int32) (S0_faultNumber : Int32) (S0_faultPlace : Int32) (S1 : Nat → Int32) (i1 : Int32) (i2 : Int32) : CT l G yX4_readNumber cX4_readNumber 5 (some .int) q_X4_readNumber [.ref h, .int i1, .int i2] (wRD G h h_bytes h_board S0_length S0_at S0_faultNumber S0_faultPlace ++ wIA G h_bytes 90 S1) (M_X4_readNumber (S0_length, S0_at, S0_faultNumber, S0_faultPlace) S1 i1 i2) (fun u => some (.int u.1)) (fun u => wRD G h h_bytes h_board u.2.1 u.2.2.1 u.2.2.2.1 u.2.2.2.2 ++ wIA G h_bytes 90 S1) := by
  refine CT.of (P := PX4_readNumber) (by decide) dPX4_readNumber (Nat.le_of_ble_eq_true rfl) ?_
  intro p e s m args below meth c A Q ls hne X RT Y hl
  have hl : lv_has ls 5 [(0, .ref h), (1, .int i1), (2, .int i2)] := hl
  generalize hM : M_X4_readNumber (S0_length, S0_at, S0_faultNumber, S0_faultPlace) S1 i1 i2 = MM at hne RT
  unfold M_X4_readNumber at hM
  refine r_aload_n (pc' := 1) X hl 0 rfl rfl 0 rfl rfl ?_
  refine r_get (pc' := 4) (v := .int S0_at) X Y 1 rfl rfl fRX4_34 0 rfl rfl ?_
  refine r_istore_n (pc' := 5) (L' := [(3, .int S0_at), (0, .ref h), (1, .int i1), (2, .int i2)]) X hl rfl 2 rfl rfl (by decide) rfl (fun ls hl => ?_)
  refine r_iconst (pc' := 6) X (0 : Int32) 3 rfl rfl rfl ?_
  refine r_istore (pc' := 8) (L' := [(4, .int (0 : Int32)), (3, .int S0_at), (0, .ref h), (1, .int i1), (2, .int i2)]) X hl 4 rfl rfl (by decide) rfl (fun ls hl => ?_)
  obtain ⟨LL1, hL1, hne1, hX1⟩ := mL hM hne
  have KX1 : ∀ (b1_1 : Int32) (b1_2 : Int32) (H : Heap) (locs : List Loc) (ls : Array Slot), some (b1_1, b1_2) = LL1 → rY G A s (wRD G h h_bytes h_board S0_length S0_at S0_faultNumber S0_faultPlace ++ wIA G h_bytes 90 S1) H locs → lv_has ls 5 [(0, .ref h), (1, .int i1), (2, .int i2), (3, .int b1_1), (4, .int b1_2)] → W p l e q_X4_readNumber s m args below meth c H locs 0 0 Q (F0 m 61 ls []) := by
    intro b1_1 b1_2 H locs ls hM Y hl
    replace hM := hX1 _ hM
    refine r_iload_n (pc' := 62) X hl 3 rfl rfl 34 rfl rfl ?_
    refine r_aload_n (pc' := 63) X hl 0 rfl rfl 35 rfl rfl ?_
    refine r_get (pc' := 66) (v := .int S0_at) X Y 36 rfl rfl fRX4_34 0 rfl rfl ?_
    obtain ⟨J2, hJ2, hM⟩ := mJ hM
    have KJ2 : ∀  (H : Heap) (locs : List Loc) (ls : Array Slot), J2 () = MM → rY G A s (wRD G h h_bytes h_board S0_length S0_at S0_faultNumber S0_faultPlace ++ wIA G h_bytes 90 S1) H locs → lv_has ls 5 [(0, .ref h)] → W p l e q_X4_readNumber s m args below meth c H locs 0 0 Q (F0 m 79 ls []) := by
      intro  H locs ls hM Y hl
      replace hM := (hJ2 _).symm.trans hM
      refine r_aload_n (pc' := 80) X hl 0 rfl rfl 44 rfl rfl ?_
      refine r_iconst (pc' := 81) X (1 : Int32) 45 rfl rfl rfl ?_
      refine r_callV (pc' := 84) (As := [.int (1 : Int32)]) (rest := []) (wr := (wIA G h_bytes 90 S1 : va_W)) X Y 46 rfl rfl mRX4_56 (c_X4_fail l G h h_bytes h_board S0_length S0_at S0_faultNumber S0_faultPlace (1 : Int32)) (mB hM hne) 0 rfl rfl [0] [1] [1, 0] rfl rfl ⟨rfl, rfl, rfl⟩ rfl (w2 := fun u3 => wRD G h h_bytes h_board u3.2.1 u3.2.2.1 u3.2.2.2.1 u3.2.2.2.2 ++ wIA G h_bytes 90 S1) (fun _ => rfl) rfl (Nat.le_of_ble_eq_true rfl) ⟨rfl, rfl⟩ ⟨Nat.le_of_ble_eq_true rfl, Nat.le_of_ble_eq_true rfl⟩ ⟨Nat.zero_le _, Nat.zero_le _⟩ hl.1 (st' := fun u3 => [.int u3.1]) (fun _ => rfl) (fun u3 H locs huu3 Y => ?_)
      obtain ⟨u3_1, ⟨u3_2_length, u3_2_at, u3_2_faultNumber, u3_2_faultPlace⟩⟩ := u3
      replace Y : rY G A s (wRD G h h_bytes h_board u3_2_length u3_2_at u3_2_faultNumber u3_2_faultPlace ++ wIA G h_bytes 90 S1) H locs := Y
      replace hM := mS hM huu3
      show W p l e q_X4_readNumber s m args below meth c H locs 0 0 Q (F0 m 84 ls [.int u3_1])
      refine r_pop (pc' := 85) X 47 rfl rfl rfl ?_
      refine r_ldc (pc' := 87) X mw229 48 rfl rfl ?_
      exact RT ((-1000000 : Int32), (u3_2_length, u3_2_at, u3_2_faultNumber, u3_2_faultPlace)) _ _ _ _ _ hM (Or.inl ⟨rfl, rfl, _, rfl⟩) (X.d (k := 49) rfl) Y
    refine r_icmp_eq (pc' := 69) X 79 37 rfl rfl (by decide) (fun c4 => ?_) (fun c4 => ?_)
    · replace hM := mI hM c4
      exact KJ2  _ _ _ hM Y (lv_sub hl [0] rfl)
    · replace hM := mE hM c4
      refine r_iload_n (pc' := 70) X hl 3 rfl rfl 38 rfl rfl ?_
      refine r_aload_n (pc' := 71) X hl 0 rfl rfl 39 rfl rfl ?_
      refine r_get (pc' := 74) (v := .int S0_at) X Y 40 rfl rfl fRX4_34 0 rfl rfl ?_
      refine r_iconst (pc' := 75) X (3 : Int32) 41 rfl rfl rfl ?_
      refine r_iadd (pc' := 76) X 42 rfl rfl ?_
      refine r_icmp_ne (pc' := 79) X 88 43 rfl rfl (by decide) (fun c5 => ?_) (fun c5 => ?_)
      · replace hM := mE hM c5
        refine r_iload (pc' := 90) X hl 4 rfl 50 rfl rfl ?_
        refine r_iload_n (pc' := 91) X hl 1 rfl rfl 51 rfl rfl ?_
        refine r_iload_n (pc' := 92) X hl 2 rfl rfl 52 rfl rfl ?_
        refine r_callSN0 (pc' := 95) (As := [.int b1_2, .int i1, .int i2]) (rest := []) X Y 53 rfl rfl mRX4_72 (c_X7_within l G b1_2 i1 i2) (mB hM hne) rfl [] rfl rfl rfl (Nat.le_of_ble_eq_true rfl) ⟨rfl, rfl⟩ ⟨Nat.le_of_ble_eq_true rfl, Nat.le_of_ble_eq_true rfl⟩ ⟨Nat.zero_le _, Nat.zero_le _⟩ hl.1 (st' := fun u6 => [.int u6]) (fun _ => rfl) (fun u6 H locs huu6 Y => ?_)
        replace hM := mS hM huu6
        refine r_if_ne (pc' := 98) X 107 54 rfl rfl (by decide) (fun c7 => ?_) (fun c7 => ?_)
        · replace hM := mE hM c7
          refine r_aload_n (pc' := 108) X hl 0 rfl rfl 61 rfl rfl ?_
          refine r_iload_n (pc' := 109) X hl 3 rfl rfl 62 rfl rfl ?_
          refine r_put (pc' := 112) (ws' := wRD G h h_bytes h_board S0_length b1_1 S0_faultNumber S0_faultPlace ++ wIA G h_bytes 90 S1) X Y 63 rfl rfl fRX4_34 0 rfl rfl rfl (Nat.le_of_ble_eq_true rfl) rfl (fun H locs Y => ?_)
          refine r_iload (pc' := 114) X hl 4 rfl 64 rfl rfl ?_
          exact RT (b1_2, (S0_length, b1_1, S0_faultNumber, S0_faultPlace)) _ _ _ _ _ hM (Or.inl ⟨rfl, rfl, _, rfl⟩) (X.d (k := 65) rfl) Y
        · replace hM := mI hM c7
          refine r_aload_n (pc' := 99) X hl 0 rfl rfl 55 rfl rfl ?_
          refine r_iconst (pc' := 100) X (2 : Int32) 56 rfl rfl rfl ?_
          refine r_callV (pc' := 103) (As := [.int (2 : Int32)]) (rest := []) (wr := (wIA G h_bytes 90 S1 : va_W)) X Y 57 rfl rfl mRX4_56 (c_X4_fail l G h h_bytes h_board S0_length S0_at S0_faultNumber S0_faultPlace (2 : Int32)) (mB hM hne) 0 rfl rfl [0] [1] [1, 0] rfl rfl ⟨rfl, rfl, rfl⟩ rfl (w2 := fun u8 => wRD G h h_bytes h_board u8.2.1 u8.2.2.1 u8.2.2.2.1 u8.2.2.2.2 ++ wIA G h_bytes 90 S1) (fun _ => rfl) rfl (Nat.le_of_ble_eq_true rfl) ⟨rfl, rfl⟩ ⟨Nat.le_of_ble_eq_true rfl, Nat.le_of_ble_eq_true rfl⟩ ⟨Nat.zero_le _, Nat.zero_le _⟩ hl.1 (st' := fun u8 => [.int u8.1]) (fun _ => rfl) (fun u8 H locs huu8 Y => ?_)
          obtain ⟨u8_1, ⟨u8_2_length, u8_2_at, u8_2_faultNumber, u8_2_faultPlace⟩⟩ := u8
          replace Y : rY G A s (wRD G h h_bytes h_board u8_2_length u8_2_at u8_2_faultNumber u8_2_faultPlace ++ wIA G h_bytes 90 S1) H locs := Y
          replace hM := mS hM huu8
          show W p l e q_X4_readNumber s m args below meth c H locs 0 0 Q (F0 m 103 ls [.int u8_1])
          refine r_pop (pc' := 104) X 58 rfl rfl rfl ?_
          refine r_ldc (pc' := 106) X mw229 59 rfl rfl ?_
          exact RT ((-1000000 : Int32), (u8_2_length, u8_2_at, u8_2_faultNumber, u8_2_faultPlace)) _ _ _ _ _ hM (Or.inl ⟨rfl, rfl, _, rfl⟩) (X.d (k := 60) rfl) Y
      · replace hM := mI hM c5
        exact KJ2  _ _ _ hM Y (lv_sub hl [0] rfl)
  refine lp_rule (I := fun (st1 : Int32 × Int32) => ∀ (H : Heap) (locs : List Loc) (ls : Array Slot), rY G A s (wRD G h h_bytes h_board S0_length S0_at S0_faultNumber S0_faultPlace ++ wIA G h_bytes 90 S1) H locs → lv_has ls 5 [(0, .ref h), (1, .int i1), (2, .int i2), (3, .int st1.1), (4, .int st1.2)] → W p l e q_X4_readNumber s m args below meth c H locs 0 0 Q (F0 m 8 ls [])) hne1 (fun rec1 st1 IH1 hM => ?_) _ _ hL1 _ _ _ Y (lv_sub hl [2, 3, 4, 1, 0] rfl)
  intro H locs ls Y hl
  obtain ⟨st1_1, st1_2⟩ := st1
  replace Y : rY G A s (wRD G h h_bytes h_board S0_length S0_at S0_faultNumber S0_faultPlace ++ wIA G h_bytes 90 S1) H locs := Y
  replace hl : lv_has ls 5 [(0, .ref h), (1, .int i1), (2, .int i2), (3, .int st1_1), (4, .int st1_2)] := hl
  refine r_iload_n (pc' := 9) X hl 3 rfl rfl 5 rfl rfl ?_
  refine r_aload_n (pc' := 10) X hl 0 rfl rfl 6 rfl rfl ?_
  refine r_get (pc' := 13) (v := .int S0_length) X Y 7 rfl rfl fRX4_22 0 rfl rfl ?_
  refine r_icmp_ge (pc' := 16) X 61 8 rfl rfl (by decide) (fun c9 => ?_) (fun c9 => ?_)
  · replace hM := mI hM c9
    exact KX1 st1_1 st1_2 _ _ _ hM Y (lv_sub hl [0, 1, 2, 3, 4] rfl)
  · replace hM := mE hM c9
    refine r_iload_n (pc' := 17) X hl 3 rfl rfl 9 rfl rfl ?_
    refine r_aload_n (pc' := 18) X hl 0 rfl rfl 10 rfl rfl ?_
    refine r_get (pc' := 21) (v := .int S0_at) X Y 11 rfl rfl fRX4_34 0 rfl rfl ?_
    refine r_iconst (pc' := 22) X (3 : Int32) 12 rfl rfl rfl ?_
    refine r_iadd (pc' := 23) X 13 rfl rfl ?_
    refine r_icmp_ge (pc' := 26) X 61 14 rfl rfl (by decide) (fun c10 => ?_) (fun c10 => ?_)
    · replace hM := mI hM c10
      exact KX1 st1_1 st1_2 _ _ _ hM Y (lv_sub hl [0, 1, 2, 3, 4] rfl)
    · replace hM := mE hM c10
      refine r_aload_n (pc' := 27) X hl 0 rfl rfl 15 rfl rfl ?_
      refine r_get (pc' := 30) (v := .ref h_bytes) X Y 16 rfl rfl fRX4_15 0 rfl rfl ?_
      refine r_iload_n (pc' := 31) X hl 3 rfl rfl 17 rfl rfl ?_
      obtain ⟨g11, hM⟩ := mG hM hne1
      refine r_iald (pc' := 32) X Y 18 rfl rfl 1 rfl (vin g11) ?_
      refine r_callS0 (pc' := 35) (As := [.int (S1 (st1_1).toNatClampNeg)]) (rest := []) X Y 19 rfl rfl mRX4_69 (c_X4_isFigure l G ((S1 (st1_1).toNatClampNeg))) (mB hM hne1) rfl [] rfl rfl rfl (Nat.le_of_ble_eq_true rfl) ⟨rfl, rfl⟩ ⟨Nat.le_of_ble_eq_true rfl, Nat.le_of_ble_eq_true rfl⟩ ⟨Nat.zero_le _, Nat.zero_le _⟩ hl.1 (st' := fun u12 => [.int u12]) (fun _ => rfl) (fun u12 H locs huu12 Y => ?_)
      replace hM := mS hM huu12
      refine r_if_eq (pc' := 38) X 61 20 rfl rfl (by decide) (fun c13 => ?_) (fun c13 => ?_)
      · replace hM := mI hM c13
        exact KX1 st1_1 st1_2 _ _ _ hM Y (lv_sub hl [0, 1, 2, 3, 4] rfl)
      · replace hM := mE hM c13
        refine r_bipush (pc' := 40) X (10 : Int32) 21 rfl rfl rfl ?_
        refine r_iload (pc' := 42) X hl 4 rfl 22 rfl rfl ?_
        refine r_imul (pc' := 43) X 23 rfl rfl ?_
        refine r_aload_n (pc' := 44) X hl 0 rfl rfl 24 rfl rfl ?_
        refine r_get (pc' := 47) (v := .ref h_bytes) X Y 25 rfl rfl fRX4_15 0 rfl rfl ?_
        refine r_iload_n (pc' := 48) X hl 3 rfl rfl 26 rfl rfl ?_
        refine r_iald (pc' := 49) X Y 27 rfl rfl 1 rfl (vin g11) ?_
        refine r_iadd (pc' := 50) X 28 rfl rfl ?_
        refine r_bipush (pc' := 52) X (48 : Int32) 29 rfl rfl rfl ?_
        refine r_isub (pc' := 53) X 30 rfl rfl ?_
        refine r_istore (pc' := 55) (L' := [(4, .int ((((10 : Int32) * st1_2) + (S1 (st1_1).toNatClampNeg)) - (48 : Int32))), (0, .ref h), (1, .int i1), (2, .int i2), (3, .int st1_1)]) X hl 31 rfl rfl (by decide) rfl (fun ls hl => ?_)
        refine r_iinc (pc' := 58) (L' := [(3, .int (st1_1 + (1 : Int32))), (4, .int ((((10 : Int32) * st1_2) + (S1 (st1_1).toNatClampNeg)) - (48 : Int32))), (0, .ref h), (1, .int i1), (2, .int i2)]) X (st1_1 + (1 : Int32)) hl 4 rfl rfl 32 rfl rfl (by decide) rfl (fun ls hl => ?_)
        refine r_goto X 8 33 rfl (by decide) ?_
        exact IH1 _ hM _ _ _ Y (lv_sub hl [2, 3, 4, 0, 1] rfl)

def M_X4_readLaw (S0 : RD) (S1 : IA) (S2 : BD) : Option (Int32 × RD × BD) :=
  ((M_X4_readSign S0 S1 (116 : Int32)).bind (fun u1 => (if u1.1 = 0 then (some ((0 : Int32), u1.2, S2)) else ((M_X4_readNumber u1.2 S1 (4 : Int32) (12 : Int32)).bind (fun u3 => (if u3.1 = (-1000000 : Int32) then (some ((0 : Int32), u3.2, S2)) else ((M_X4_readSign u3.2 S1 (44 : Int32)).bind (fun u5 => (if u5.1 = 0 then (some ((0 : Int32), u5.2, S2)) else ((M_X4_readNumber u5.2 S1 (1 : Int32) (4 : Int32)).bind (fun u7 => (if u7.1 = (-1000000 : Int32) then (some ((0 : Int32), u7.2, S2)) else ((M_X4_readSign u7.2 S1 (59 : Int32)).bind (fun u9 => (if u9.1 = 0 then (some ((0 : Int32), u9.2, S2)) else ((M_X2_begin S2 u3.1 u7.1).bind (fun u11 => (some ((1 : Int32), u9.2, u11)))))))))))))))))))
def q_X4_readLaw : Room := { frames := 3, cells := 0, slots := 0, locals := 106 }
set_option maxHeartbeats 4000000 in
set_option maxRecDepth 100000 in
theorem c_X4_readLaw (l : Launch) (G : gT) (h h_bytes h_board h_board_firms h_board_kindsTold h_board_places h_board_crowds h_board_pipsLeft h_board_notHome : Nat) (S0_length : Int32) (S0_at : Int32) (S0_faultNumber : Int32) (S0_faultPlace : Int32) (S1 : Nat → Int32) (S2_points : Int32) (S2_home : Int32) (S2_men : Int32) (S2_turn : Int32) (S2_thrower : Int32) (S2_cube : Int32) (S2_owner : Int32) (S2_firms : Nat → Int32) (S2_kindsTold : Nat → Int32) (S2_places : Nat → Int32) (S2_crowds : Nat → Int32) (S2_pipsLeft : Nat → Int32) (S2_notHome : Nat → Int32) : CT l G yX4_readLaw cX4_readLaw 3 (some .boolean) q_X4_readLaw [.ref h] (wRD G h h_bytes h_board S0_length S0_at S0_faultNumber S0_faultPlace ++ wIA G h_bytes 90 S1 ++ wBD G h_board h_board_firms h_board_kindsTold h_board_places h_board_crowds h_board_pipsLeft h_board_notHome S2_points S2_home S2_men S2_turn S2_thrower S2_cube S2_owner S2_firms S2_kindsTold S2_places S2_crowds S2_pipsLeft S2_notHome) (M_X4_readLaw (S0_length, S0_at, S0_faultNumber, S0_faultPlace) S1 (S2_points, S2_home, S2_men, S2_turn, S2_thrower, S2_cube, S2_owner, S2_firms, S2_kindsTold, S2_places, S2_crowds, S2_pipsLeft, S2_notHome)) (fun u => some (.int u.1)) (fun u => wRD G h h_bytes h_board u.2.1.1 u.2.1.2.1 u.2.1.2.2.1 u.2.1.2.2.2 ++ wIA G h_bytes 90 S1 ++ wBD G h_board h_board_firms h_board_kindsTold h_board_places h_board_crowds h_board_pipsLeft h_board_notHome u.2.2.1 u.2.2.2.1 u.2.2.2.2.1 u.2.2.2.2.2.1 u.2.2.2.2.2.2.1 u.2.2.2.2.2.2.2.1 u.2.2.2.2.2.2.2.2.1 u.2.2.2.2.2.2.2.2.2.1 u.2.2.2.2.2.2.2.2.2.2.1 u.2.2.2.2.2.2.2.2.2.2.2.1 u.2.2.2.2.2.2.2.2.2.2.2.2.1 u.2.2.2.2.2.2.2.2.2.2.2.2.2.1 u.2.2.2.2.2.2.2.2.2.2.2.2.2.2) := by
  refine CT.of (P := PX4_readLaw) (by decide) dPX4_readLaw (Nat.le_of_ble_eq_true rfl) ?_
  intro p e s m args below meth c A Q ls hne X RT Y hl
  have hl : lv_has ls 3 [(0, .ref h)] := hl
  generalize hM : M_X4_readLaw (S0_length, S0_at, S0_faultNumber, S0_faultPlace) S1 (S2_points, S2_home, S2_men, S2_turn, S2_thrower, S2_cube, S2_owner, S2_firms, S2_kindsTold, S2_places, S2_crowds, S2_pipsLeft, S2_notHome) = MM at hne RT
  unfold M_X4_readLaw at hM
  refine r_aload_n (pc' := 1) X hl 0 rfl rfl 0 rfl rfl ?_
  refine r_bipush (pc' := 3) X (116 : Int32) 1 rfl rfl rfl ?_
  refine r_callV (pc' := 6) (As := [.int (116 : Int32)]) (rest := []) (wr := (wBD G h_board h_board_firms h_board_kindsTold h_board_places h_board_crowds h_board_pipsLeft h_board_notHome S2_points S2_home S2_men S2_turn S2_thrower S2_cube S2_owner S2_firms S2_kindsTold S2_places S2_crowds S2_pipsLeft S2_notHome : va_W)) X Y 2 rfl rfl mRX4_37 (c_X4_readSign l G h h_bytes h_board S0_length S0_at S0_faultNumber S0_faultPlace S1 (116 : Int32)) (mB hM hne) 0 rfl rfl [0, 1] [2, 3, 4, 5, 6, 7, 8] [7, 8, 0, 1, 2, 3, 4, 5, 6] rfl rfl ⟨rfl, rfl, rfl⟩ rfl (w2 := fun u1 => wRD G h h_bytes h_board u1.2.1 u1.2.2.1 u1.2.2.2.1 u1.2.2.2.2 ++ wIA G h_bytes 90 S1 ++ wBD G h_board h_board_firms h_board_kindsTold h_board_places h_board_crowds h_board_pipsLeft h_board_notHome S2_points S2_home S2_men S2_turn S2_thrower S2_cube S2_owner S2_firms S2_kindsTold S2_places S2_crowds S2_pipsLeft S2_notHome) (fun _ => rfl) rfl (Nat.le_of_ble_eq_true rfl) ⟨rfl, rfl⟩ ⟨Nat.le_of_ble_eq_true rfl, Nat.le_of_ble_eq_true rfl⟩ ⟨Nat.zero_le _, Nat.zero_le _⟩ hl.1 (st' := fun u1 => [.int u1.1]) (fun _ => rfl) (fun u1 H locs huu1 Y => ?_)
  obtain ⟨u1_1, ⟨u1_2_length, u1_2_at, u1_2_faultNumber, u1_2_faultPlace⟩⟩ := u1
  replace Y : rY G A s (wRD G h h_bytes h_board u1_2_length u1_2_at u1_2_faultNumber u1_2_faultPlace ++ wIA G h_bytes 90 S1 ++ wBD G h_board h_board_firms h_board_kindsTold h_board_places h_board_crowds h_board_pipsLeft h_board_notHome S2_points S2_home S2_men S2_turn S2_thrower S2_cube S2_owner S2_firms S2_kindsTold S2_places S2_crowds S2_pipsLeft S2_notHome) H locs := Y
  replace hM := mS hM huu1
  show W p l e q_X4_readLaw s m args below meth c H locs 0 0 Q (F0 m 6 ls [.int u1_1])
  refine r_if_ne (pc' := 9) X 11 3 rfl rfl (by decide) (fun c2 => ?_) (fun c2 => ?_)
  · replace hM := mE hM c2
    refine r_aload_n (pc' := 12) X hl 0 rfl rfl 6 rfl rfl ?_
    refine r_iconst (pc' := 13) X (4 : Int32) 7 rfl rfl rfl ?_
    refine r_bipush (pc' := 15) X (12 : Int32) 8 rfl rfl rfl ?_
    refine r_callV (pc' := 18) (As := [.int (4 : Int32), .int (12 : Int32)]) (rest := []) (wr := (wBD G h_board h_board_firms h_board_kindsTold h_board_places h_board_crowds h_board_pipsLeft h_board_notHome S2_points S2_home S2_men S2_turn S2_thrower S2_cube S2_owner S2_firms S2_kindsTold S2_places S2_crowds S2_pipsLeft S2_notHome : va_W)) X Y 9 rfl rfl mRX4_41 (c_X4_readNumber l G h h_bytes h_board u1_2_length u1_2_at u1_2_faultNumber u1_2_faultPlace S1 (4 : Int32) (12 : Int32)) (mB hM hne) 0 rfl rfl [0, 1] [2, 3, 4, 5, 6, 7, 8] [7, 8, 0, 1, 2, 3, 4, 5, 6] rfl rfl ⟨rfl, rfl, rfl⟩ rfl (w2 := fun u3 => wRD G h h_bytes h_board u3.2.1 u3.2.2.1 u3.2.2.2.1 u3.2.2.2.2 ++ wIA G h_bytes 90 S1 ++ wBD G h_board h_board_firms h_board_kindsTold h_board_places h_board_crowds h_board_pipsLeft h_board_notHome S2_points S2_home S2_men S2_turn S2_thrower S2_cube S2_owner S2_firms S2_kindsTold S2_places S2_crowds S2_pipsLeft S2_notHome) (fun _ => rfl) rfl (Nat.le_of_ble_eq_true rfl) ⟨rfl, rfl⟩ ⟨Nat.le_of_ble_eq_true rfl, Nat.le_of_ble_eq_true rfl⟩ ⟨Nat.zero_le _, Nat.zero_le _⟩ hl.1 (st' := fun u3 => [.int u3.1]) (fun _ => rfl) (fun u3 H locs huu3 Y => ?_)
    obtain ⟨u3_1, ⟨u3_2_length, u3_2_at, u3_2_faultNumber, u3_2_faultPlace⟩⟩ := u3
    replace Y : rY G A s (wRD G h h_bytes h_board u3_2_length u3_2_at u3_2_faultNumber u3_2_faultPlace ++ wIA G h_bytes 90 S1 ++ wBD G h_board h_board_firms h_board_kindsTold h_board_places h_board_crowds h_board_pipsLeft h_board_notHome S2_points S2_home S2_men S2_turn S2_thrower S2_cube S2_owner S2_firms S2_kindsTold S2_places S2_crowds S2_pipsLeft S2_notHome) H locs := Y
    replace hM := mS hM huu3
    show W p l e q_X4_readLaw s m args below meth c H locs 0 0 Q (F0 m 18 ls [.int u3_1])
    refine r_istore_n (pc' := 19) (L' := [(1, .int u3_1), (0, .ref h)]) X hl rfl 10 rfl rfl (by decide) rfl (fun ls hl => ?_)
    refine r_iload_n (pc' := 20) X hl 0 rfl rfl 11 rfl rfl ?_
    refine r_ldc (pc' := 22) X mw229 12 rfl rfl ?_
    refine r_icmp_eq (pc' := 25) X 34 13 rfl rfl (by decide) (fun c4 => ?_) (fun c4 => ?_)
    · replace hM := mI hM c4
      refine r_iconst (pc' := 35) X (0 : Int32) 18 rfl rfl rfl ?_
      exact RT ((0 : Int32), (u3_2_length, u3_2_at, u3_2_faultNumber, u3_2_faultPlace), (S2_points, S2_home, S2_men, S2_turn, S2_thrower, S2_cube, S2_owner, S2_firms, S2_kindsTold, S2_places, S2_crowds, S2_pipsLeft, S2_notHome)) _ _ _ _ _ hM (Or.inr (Or.inl ⟨rfl, rfl, _, rfl, nb (Or.inl rfl)⟩)) (X.d (k := 19) rfl) Y
    · replace hM := mE hM c4
      refine r_aload_n (pc' := 26) X hl 1 rfl rfl 14 rfl rfl ?_
      refine r_bipush (pc' := 28) X (44 : Int32) 15 rfl rfl rfl ?_
      refine r_callV (pc' := 31) (As := [.int (44 : Int32)]) (rest := []) (wr := (wBD G h_board h_board_firms h_board_kindsTold h_board_places h_board_crowds h_board_pipsLeft h_board_notHome S2_points S2_home S2_men S2_turn S2_thrower S2_cube S2_owner S2_firms S2_kindsTold S2_places S2_crowds S2_pipsLeft S2_notHome : va_W)) X Y 16 rfl rfl mRX4_37 (c_X4_readSign l G h h_bytes h_board u3_2_length u3_2_at u3_2_faultNumber u3_2_faultPlace S1 (44 : Int32)) (mB hM hne) 0 rfl rfl [0, 1] [2, 3, 4, 5, 6, 7, 8] [7, 8, 0, 1, 2, 3, 4, 5, 6] rfl rfl ⟨rfl, rfl, rfl⟩ rfl (w2 := fun u5 => wRD G h h_bytes h_board u5.2.1 u5.2.2.1 u5.2.2.2.1 u5.2.2.2.2 ++ wIA G h_bytes 90 S1 ++ wBD G h_board h_board_firms h_board_kindsTold h_board_places h_board_crowds h_board_pipsLeft h_board_notHome S2_points S2_home S2_men S2_turn S2_thrower S2_cube S2_owner S2_firms S2_kindsTold S2_places S2_crowds S2_pipsLeft S2_notHome) (fun _ => rfl) rfl (Nat.le_of_ble_eq_true rfl) ⟨rfl, rfl⟩ ⟨Nat.le_of_ble_eq_true rfl, Nat.le_of_ble_eq_true rfl⟩ ⟨Nat.zero_le _, Nat.zero_le _⟩ hl.1 (st' := fun u5 => [.int u5.1]) (fun _ => rfl) (fun u5 H locs huu5 Y => ?_)
      obtain ⟨u5_1, ⟨u5_2_length, u5_2_at, u5_2_faultNumber, u5_2_faultPlace⟩⟩ := u5
      replace Y : rY G A s (wRD G h h_bytes h_board u5_2_length u5_2_at u5_2_faultNumber u5_2_faultPlace ++ wIA G h_bytes 90 S1 ++ wBD G h_board h_board_firms h_board_kindsTold h_board_places h_board_crowds h_board_pipsLeft h_board_notHome S2_points S2_home S2_men S2_turn S2_thrower S2_cube S2_owner S2_firms S2_kindsTold S2_places S2_crowds S2_pipsLeft S2_notHome) H locs := Y
      replace hM := mS hM huu5
      show W p l e q_X4_readLaw s m args below meth c H locs 0 0 Q (F0 m 31 ls [.int u5_1])
      refine r_if_ne (pc' := 34) X 36 17 rfl rfl (by decide) (fun c6 => ?_) (fun c6 => ?_)
      · replace hM := mE hM c6
        refine r_aload_n (pc' := 37) X hl 1 rfl rfl 20 rfl rfl ?_
        refine r_iconst (pc' := 38) X (1 : Int32) 21 rfl rfl rfl ?_
        refine r_iconst (pc' := 39) X (4 : Int32) 22 rfl rfl rfl ?_
        refine r_callV (pc' := 42) (As := [.int (1 : Int32), .int (4 : Int32)]) (rest := []) (wr := (wBD G h_board h_board_firms h_board_kindsTold h_board_places h_board_crowds h_board_pipsLeft h_board_notHome S2_points S2_home S2_men S2_turn S2_thrower S2_cube S2_owner S2_firms S2_kindsTold S2_places S2_crowds S2_pipsLeft S2_notHome : va_W)) X Y 23 rfl rfl mRX4_41 (c_X4_readNumber l G h h_bytes h_board u5_2_length u5_2_at u5_2_faultNumber u5_2_faultPlace S1 (1 : Int32) (4 : Int32)) (mB hM hne) 0 rfl rfl [0, 1] [2, 3, 4, 5, 6, 7, 8] [7, 8, 0, 1, 2, 3, 4, 5, 6] rfl rfl ⟨rfl, rfl, rfl⟩ rfl (w2 := fun u7 => wRD G h h_bytes h_board u7.2.1 u7.2.2.1 u7.2.2.2.1 u7.2.2.2.2 ++ wIA G h_bytes 90 S1 ++ wBD G h_board h_board_firms h_board_kindsTold h_board_places h_board_crowds h_board_pipsLeft h_board_notHome S2_points S2_home S2_men S2_turn S2_thrower S2_cube S2_owner S2_firms S2_kindsTold S2_places S2_crowds S2_pipsLeft S2_notHome) (fun _ => rfl) rfl (Nat.le_of_ble_eq_true rfl) ⟨rfl, rfl⟩ ⟨Nat.le_of_ble_eq_true rfl, Nat.le_of_ble_eq_true rfl⟩ ⟨Nat.zero_le _, Nat.zero_le _⟩ hl.1 (st' := fun u7 => [.int u7.1]) (fun _ => rfl) (fun u7 H locs huu7 Y => ?_)
        obtain ⟨u7_1, ⟨u7_2_length, u7_2_at, u7_2_faultNumber, u7_2_faultPlace⟩⟩ := u7
        replace Y : rY G A s (wRD G h h_bytes h_board u7_2_length u7_2_at u7_2_faultNumber u7_2_faultPlace ++ wIA G h_bytes 90 S1 ++ wBD G h_board h_board_firms h_board_kindsTold h_board_places h_board_crowds h_board_pipsLeft h_board_notHome S2_points S2_home S2_men S2_turn S2_thrower S2_cube S2_owner S2_firms S2_kindsTold S2_places S2_crowds S2_pipsLeft S2_notHome) H locs := Y
        replace hM := mS hM huu7
        show W p l e q_X4_readLaw s m args below meth c H locs 0 0 Q (F0 m 42 ls [.int u7_1])
        refine r_istore_n (pc' := 43) (L' := [(2, .int u7_1), (1, .int u3_1), (0, .ref h)]) X hl rfl 24 rfl rfl (by decide) rfl (fun ls hl => ?_)
        refine r_iload_n (pc' := 44) X hl 0 rfl rfl 25 rfl rfl ?_
        refine r_ldc (pc' := 46) X mw229 26 rfl rfl ?_
        refine r_icmp_eq (pc' := 49) X 58 27 rfl rfl (by decide) (fun c8 => ?_) (fun c8 => ?_)
        · replace hM := mI hM c8
          refine r_iconst (pc' := 59) X (0 : Int32) 32 rfl rfl rfl ?_
          exact RT ((0 : Int32), (u7_2_length, u7_2_at, u7_2_faultNumber, u7_2_faultPlace), (S2_points, S2_home, S2_men, S2_turn, S2_thrower, S2_cube, S2_owner, S2_firms, S2_kindsTold, S2_places, S2_crowds, S2_pipsLeft, S2_notHome)) _ _ _ _ _ hM (Or.inr (Or.inl ⟨rfl, rfl, _, rfl, nb (Or.inl rfl)⟩)) (X.d (k := 33) rfl) Y
        · replace hM := mE hM c8
          refine r_aload_n (pc' := 50) X hl 2 rfl rfl 28 rfl rfl ?_
          refine r_bipush (pc' := 52) X (59 : Int32) 29 rfl rfl rfl ?_
          refine r_callV (pc' := 55) (As := [.int (59 : Int32)]) (rest := []) (wr := (wBD G h_board h_board_firms h_board_kindsTold h_board_places h_board_crowds h_board_pipsLeft h_board_notHome S2_points S2_home S2_men S2_turn S2_thrower S2_cube S2_owner S2_firms S2_kindsTold S2_places S2_crowds S2_pipsLeft S2_notHome : va_W)) X Y 30 rfl rfl mRX4_37 (c_X4_readSign l G h h_bytes h_board u7_2_length u7_2_at u7_2_faultNumber u7_2_faultPlace S1 (59 : Int32)) (mB hM hne) 0 rfl rfl [0, 1] [2, 3, 4, 5, 6, 7, 8] [7, 8, 0, 1, 2, 3, 4, 5, 6] rfl rfl ⟨rfl, rfl, rfl⟩ rfl (w2 := fun u9 => wRD G h h_bytes h_board u9.2.1 u9.2.2.1 u9.2.2.2.1 u9.2.2.2.2 ++ wIA G h_bytes 90 S1 ++ wBD G h_board h_board_firms h_board_kindsTold h_board_places h_board_crowds h_board_pipsLeft h_board_notHome S2_points S2_home S2_men S2_turn S2_thrower S2_cube S2_owner S2_firms S2_kindsTold S2_places S2_crowds S2_pipsLeft S2_notHome) (fun _ => rfl) rfl (Nat.le_of_ble_eq_true rfl) ⟨rfl, rfl⟩ ⟨Nat.le_of_ble_eq_true rfl, Nat.le_of_ble_eq_true rfl⟩ ⟨Nat.zero_le _, Nat.zero_le _⟩ hl.1 (st' := fun u9 => [.int u9.1]) (fun _ => rfl) (fun u9 H locs huu9 Y => ?_)
          obtain ⟨u9_1, ⟨u9_2_length, u9_2_at, u9_2_faultNumber, u9_2_faultPlace⟩⟩ := u9
          replace Y : rY G A s (wRD G h h_bytes h_board u9_2_length u9_2_at u9_2_faultNumber u9_2_faultPlace ++ wIA G h_bytes 90 S1 ++ wBD G h_board h_board_firms h_board_kindsTold h_board_places h_board_crowds h_board_pipsLeft h_board_notHome S2_points S2_home S2_men S2_turn S2_thrower S2_cube S2_owner S2_firms S2_kindsTold S2_places S2_crowds S2_pipsLeft S2_notHome) H locs := Y
          replace hM := mS hM huu9
          show W p l e q_X4_readLaw s m args below meth c H locs 0 0 Q (F0 m 55 ls [.int u9_1])
          refine r_if_ne (pc' := 58) X 60 31 rfl rfl (by decide) (fun c10 => ?_) (fun c10 => ?_)
          · replace hM := mE hM c10
            refine r_aload_n (pc' := 61) X hl 2 rfl rfl 34 rfl rfl ?_
            refine r_get (pc' := 64) (v := .ref h_board) X Y 35 rfl rfl fRX4_23 0 rfl rfl ?_
            refine r_iload_n (pc' := 65) X hl 1 rfl rfl 36 rfl rfl ?_
            refine r_iload_n (pc' := 66) X hl 0 rfl rfl 37 rfl rfl ?_
            refine r_callV (pc' := 69) (As := [.int u3_1, .int u7_1]) (rest := []) (wr := (wRD G h h_bytes h_board u9_2_length u9_2_at u9_2_faultNumber u9_2_faultPlace ++ wIA G h_bytes 90 S1 : va_W)) X Y 38 rfl rfl mRX4_46 (c_X2_begin l G h_board h_board_firms h_board_kindsTold h_board_places h_board_crowds h_board_pipsLeft h_board_notHome S2_points S2_home S2_men S2_turn S2_thrower S2_cube S2_owner S2_firms S2_kindsTold S2_places S2_crowds S2_pipsLeft S2_notHome u3_1 u7_1) (mB hM hne) 2 rfl rfl [2, 3, 4, 5, 6, 7, 8] [0, 1] [0, 1, 2, 3, 4, 5, 6, 7, 8] rfl rfl ⟨rfl, rfl, rfl⟩ rfl (w2 := fun u11 => wRD G h h_bytes h_board u9_2_length u9_2_at u9_2_faultNumber u9_2_faultPlace ++ wIA G h_bytes 90 S1 ++ wBD G h_board h_board_firms h_board_kindsTold h_board_places h_board_crowds h_board_pipsLeft h_board_notHome u11.1 u11.2.1 u11.2.2.1 u11.2.2.2.1 u11.2.2.2.2.1 u11.2.2.2.2.2.1 u11.2.2.2.2.2.2.1 u11.2.2.2.2.2.2.2.1 u11.2.2.2.2.2.2.2.2.1 u11.2.2.2.2.2.2.2.2.2.1 u11.2.2.2.2.2.2.2.2.2.2.1 u11.2.2.2.2.2.2.2.2.2.2.2.1 u11.2.2.2.2.2.2.2.2.2.2.2.2) (fun _ => rfl) rfl (Nat.le_of_ble_eq_true rfl) ⟨rfl, rfl⟩ ⟨Nat.le_of_ble_eq_true rfl, Nat.le_of_ble_eq_true rfl⟩ ⟨Nat.zero_le _, Nat.zero_le _⟩ hl.1 (st' := fun u11 => []) (fun _ => rfl) (fun u11 H locs huu11 Y => ?_)
            obtain ⟨u11_points, u11_home, u11_men, u11_turn, u11_thrower, u11_cube, u11_owner, u11_firms, u11_kindsTold, u11_places, u11_crowds, u11_pipsLeft, u11_notHome⟩ := u11
            replace Y : rY G A s (wRD G h h_bytes h_board u9_2_length u9_2_at u9_2_faultNumber u9_2_faultPlace ++ wIA G h_bytes 90 S1 ++ wBD G h_board h_board_firms h_board_kindsTold h_board_places h_board_crowds h_board_pipsLeft h_board_notHome u11_points u11_home u11_men u11_turn u11_thrower u11_cube u11_owner u11_firms u11_kindsTold u11_places u11_crowds u11_pipsLeft u11_notHome) H locs := Y
            replace hM := mS hM huu11
            show W p l e q_X4_readLaw s m args below meth c H locs 0 0 Q (F0 m 69 ls [])
            refine r_iconst (pc' := 70) X (1 : Int32) 39 rfl rfl rfl ?_
            exact RT ((1 : Int32), (u9_2_length, u9_2_at, u9_2_faultNumber, u9_2_faultPlace), (u11_points, u11_home, u11_men, u11_turn, u11_thrower, u11_cube, u11_owner, u11_firms, u11_kindsTold, u11_places, u11_crowds, u11_pipsLeft, u11_notHome)) _ _ _ _ _ hM (Or.inr (Or.inl ⟨rfl, rfl, _, rfl, nb (Or.inr rfl)⟩)) (X.d (k := 40) rfl) Y
          · replace hM := mI hM c10
            refine r_iconst (pc' := 59) X (0 : Int32) 32 rfl rfl rfl ?_
            exact RT ((0 : Int32), (u9_2_length, u9_2_at, u9_2_faultNumber, u9_2_faultPlace), (S2_points, S2_home, S2_men, S2_turn, S2_thrower, S2_cube, S2_owner, S2_firms, S2_kindsTold, S2_places, S2_crowds, S2_pipsLeft, S2_notHome)) _ _ _ _ _ hM (Or.inr (Or.inl ⟨rfl, rfl, _, rfl, nb (Or.inl rfl)⟩)) (X.d (k := 33) rfl) Y
      · replace hM := mI hM c6
        refine r_iconst (pc' := 35) X (0 : Int32) 18 rfl rfl rfl ?_
        exact RT ((0 : Int32), (u5_2_length, u5_2_at, u5_2_faultNumber, u5_2_faultPlace), (S2_points, S2_home, S2_men, S2_turn, S2_thrower, S2_cube, S2_owner, S2_firms, S2_kindsTold, S2_places, S2_crowds, S2_pipsLeft, S2_notHome)) _ _ _ _ _ hM (Or.inr (Or.inl ⟨rfl, rfl, _, rfl, nb (Or.inl rfl)⟩)) (X.d (k := 19) rfl) Y
  · replace hM := mI hM c2
    refine r_iconst (pc' := 10) X (0 : Int32) 4 rfl rfl rfl ?_
    exact RT ((0 : Int32), (u1_2_length, u1_2_at, u1_2_faultNumber, u1_2_faultPlace), (S2_points, S2_home, S2_men, S2_turn, S2_thrower, S2_cube, S2_owner, S2_firms, S2_kindsTold, S2_places, S2_crowds, S2_pipsLeft, S2_notHome)) _ _ _ _ _ hM (Or.inr (Or.inl ⟨rfl, rfl, _, rfl, nb (Or.inl rfl)⟩)) (X.d (k := 5) rfl) Y

def M_X4_kindHere (S0 : RD) (S1 : IA) : Option (Int32) :=
  (if (rd_at S0) < (rd_length S0) then (if inb (rd_at S0) 90 = true then (if (S1 ((rd_at S0)).toNatClampNeg) = 98 then (some (5 : Int32)) else (if (S1 ((rd_at S0)).toNatClampNeg) = 99 then (some (1 : Int32)) else (if (S1 ((rd_at S0)).toNatClampNeg) = 111 then (some (3 : Int32)) else (if (S1 ((rd_at S0)).toNatClampNeg) = 112 then (some (4 : Int32)) else (if (S1 ((rd_at S0)).toNatClampNeg) = 114 then (some (2 : Int32)) else (some (-1000000 : Int32))))))) else none) else (some (-1000000 : Int32)))
def q_X4_kindHere : Room := { frames := 1, cells := 0, slots := 0, locals := 60 }
set_option maxHeartbeats 4000000 in
set_option maxRecDepth 100000 in
theorem c_X4_kindHere (l : Launch) (G : gT) (h h_bytes h_board : Nat) (S0_length : Int32) (S0_at : Int32) (S0_faultNumber : Int32) (S0_faultPlace : Int32) (S1 : Nat → Int32) : CT l G yX4_kindHere cX4_kindHere 1 (some .int) q_X4_kindHere [.ref h] (wRD G h h_bytes h_board S0_length S0_at S0_faultNumber S0_faultPlace ++ wIA G h_bytes 90 S1) (M_X4_kindHere (S0_length, S0_at, S0_faultNumber, S0_faultPlace) S1) (fun u => some (.int u)) (fun u => wRD G h h_bytes h_board S0_length S0_at S0_faultNumber S0_faultPlace ++ wIA G h_bytes 90 S1) := by
  refine CT.of (P := PX4_kindHere) (by decide) dPX4_kindHere (Nat.le_of_ble_eq_true rfl) ?_
  intro p e s m args below meth c A Q ls hne X RT Y hl
  have hl : lv_has ls 1 [(0, .ref h)] := hl
  generalize hM : M_X4_kindHere (S0_length, S0_at, S0_faultNumber, S0_faultPlace) S1 = MM at hne RT
  unfold M_X4_kindHere at hM
  refine r_aload_n (pc' := 1) X hl 0 rfl rfl 0 rfl rfl ?_
  refine r_get (pc' := 4) (v := .int S0_at) X Y 1 rfl rfl fRX4_34 0 rfl rfl ?_
  refine r_aload_n (pc' := 5) X hl 0 rfl rfl 2 rfl rfl ?_
  refine r_get (pc' := 8) (v := .int S0_length) X Y 3 rfl rfl fRX4_22 0 rfl rfl ?_
  refine r_icmp_lt (pc' := 11) X 14 4 rfl rfl (by decide) (fun c1 => ?_) (fun c1 => ?_)
  · replace hM := mI hM c1
    refine r_aload_n (pc' := 15) X hl 0 rfl rfl 7 rfl rfl ?_
    refine r_get (pc' := 18) (v := .ref h_bytes) X Y 8 rfl rfl fRX4_15 0 rfl rfl ?_
    refine r_aload_n (pc' := 19) X hl 0 rfl rfl 9 rfl rfl ?_
    refine r_get (pc' := 22) (v := .int S0_at) X Y 10 rfl rfl fRX4_34 0 rfl rfl ?_
    obtain ⟨g2, hM⟩ := mG hM hne
    refine r_iald (pc' := 23) X Y 11 rfl rfl 1 rfl (vin g2) ?_
    by_cases h3_98 : (S1 (S0_at).toNatClampNeg) = 98
    · replace hM := mI hM h3_98
      refine r_look X 80 12 rfl (by decide) (by first | (rw [h3_98]; done) | (rw [h3_98]; rfl) | (rw [h3_98]; decide)) (by decide) ?_
      refine r_iconst (pc' := 81) X (5 : Int32) 21 rfl rfl rfl ?_
      exact RT (5 : Int32) _ _ _ _ _ hM (Or.inl ⟨rfl, rfl, _, rfl⟩) (X.d (k := 22) rfl) Y
    replace hM := mE hM h3_98
    by_cases h3_99 : (S1 (S0_at).toNatClampNeg) = 99
    · replace hM := mI hM h3_99
      refine r_look X 72 12 rfl (by decide) (by first | (rw [h3_99]; done) | (rw [h3_99]; rfl) | (rw [h3_99]; decide)) (by decide) ?_
      refine r_iconst (pc' := 73) X (1 : Int32) 13 rfl rfl rfl ?_
      exact RT (1 : Int32) _ _ _ _ _ hM (Or.inl ⟨rfl, rfl, _, rfl⟩) (X.d (k := 14) rfl) Y
    replace hM := mE hM h3_99
    by_cases h3_111 : (S1 (S0_at).toNatClampNeg) = 111
    · replace hM := mI hM h3_111
      refine r_look X 76 12 rfl (by decide) (by first | (rw [h3_111]; done) | (rw [h3_111]; rfl) | (rw [h3_111]; decide)) (by decide) ?_
      refine r_iconst (pc' := 77) X (3 : Int32) 17 rfl rfl rfl ?_
      exact RT (3 : Int32) _ _ _ _ _ hM (Or.inl ⟨rfl, rfl, _, rfl⟩) (X.d (k := 18) rfl) Y
    replace hM := mE hM h3_111
    by_cases h3_112 : (S1 (S0_at).toNatClampNeg) = 112
    · replace hM := mI hM h3_112
      refine r_look X 78 12 rfl (by decide) (by first | (rw [h3_112]; done) | (rw [h3_112]; rfl) | (rw [h3_112]; decide)) (by decide) ?_
      refine r_iconst (pc' := 79) X (4 : Int32) 19 rfl rfl rfl ?_
      exact RT (4 : Int32) _ _ _ _ _ hM (Or.inl ⟨rfl, rfl, _, rfl⟩) (X.d (k := 20) rfl) Y
    replace hM := mE hM h3_112
    by_cases h3_114 : (S1 (S0_at).toNatClampNeg) = 114
    · replace hM := mI hM h3_114
      refine r_look X 74 12 rfl (by decide) (by first | (rw [h3_114]; done) | (rw [h3_114]; rfl) | (rw [h3_114]; decide)) (by decide) ?_
      refine r_iconst (pc' := 75) X (2 : Int32) 15 rfl rfl rfl ?_
      exact RT (2 : Int32) _ _ _ _ _ hM (Or.inl ⟨rfl, rfl, _, rfl⟩) (X.d (k := 16) rfl) Y
    replace hM := mE hM h3_114
    refine r_look X 82 12 rfl (by decide) (show Op.lookupswitch.offset [(98, 57), (99, 49), (111, 53), (112, 55), (114, 51)] 59 ((S1 (S0_at).toNatClampNeg)).toInt = 59 from (lv_osw (k := 98) h3_98 rfl).trans ((lv_osw (k := 99) h3_99 rfl).trans ((lv_osw (k := 111) h3_111 rfl).trans ((lv_osw (k := 112) h3_112 rfl).trans ((lv_osw (k := 114) h3_114 rfl).trans (rfl)))))) (by decide) ?_
    refine r_ldc (pc' := 84) X mw229 23 rfl rfl ?_
    exact RT (-1000000 : Int32) _ _ _ _ _ hM (Or.inl ⟨rfl, rfl, _, rfl⟩) (X.d (k := 24) rfl) Y
  · replace hM := mE hM c1
    refine r_ldc (pc' := 13) X mw229 5 rfl rfl ?_
    exact RT (-1000000 : Int32) _ _ _ _ _ hM (Or.inl ⟨rfl, rfl, _, rfl⟩) (X.d (k := 6) rfl) Y

def M_X4_readMan (S0 : RD) (S1 : IA) (S2 : BD) : Option (Int32 × RD × BD) :=
  ((M_X4_kindHere S0 S1).bind (fun u1 => (if u1 = (-1000000 : Int32) then ((M_X4_fail S0 (1 : Int32)).bind (fun u16 => (if (u16.1 = 0 ∨ u16.1 = 1) then (some (u16.1, u16.2, S2)) else none))) else (if (bd_men S2) < (8 : Int32) then ((M_X4_readNumber ((rd_s_at S0 ((rd_at S0) + (1 : Int32)))) S1 (0 : Int32) (1 : Int32)).bind (fun u4 => (if u4.1 = (-1000000 : Int32) then (some ((0 : Int32), u4.2, S2)) else ((M_X4_readSign u4.2 S1 (44 : Int32)).bind (fun u6 => (if u6.1 = 0 then (some ((0 : Int32), u6.2, S2)) else ((M_X2_bar S2).bind (fun u8 => ((M_X4_readNumber u6.2 S1 (0 : Int32) u8).bind (fun u9 => (if u9.1 = (-1000000 : Int32) then (some ((0 : Int32), u9.2, S2)) else ((M_X4_readSign u9.2 S1 (59 : Int32)).bind (fun u11 => (if u11.1 = 0 then (some ((0 : Int32), u11.2, S2)) else ((M_X2_join S2 u1 u4.1 u9.1).bind (fun u13 => (some ((1 : Int32), u11.2, u13)))))))))))))))))) else ((M_X4_fail S0 (3 : Int32)).bind (fun u14 => (if (u14.1 = 0 ∨ u14.1 = 1) then (some (u14.1, u14.2, S2)) else none)))))))
def q_X4_readMan : Room := { frames := 4, cells := 0, slots := 0, locals := 130 }
set_option maxHeartbeats 4000000 in
set_option maxRecDepth 100000 in
theorem c_X4_readMan (l : Launch) (G : gT) (h h_bytes h_board h_board_firms h_board_kindsTold h_board_places h_board_crowds h_board_pipsLeft h_board_notHome : Nat) (S0_length : Int32) (S0_at : Int32) (S0_faultNumber : Int32) (S0_faultPlace : Int32) (S1 : Nat → Int32) (S2_points : Int32) (S2_home : Int32) (S2_men : Int32) (S2_turn : Int32) (S2_thrower : Int32) (S2_cube : Int32) (S2_owner : Int32) (S2_firms : Nat → Int32) (S2_kindsTold : Nat → Int32) (S2_places : Nat → Int32) (S2_crowds : Nat → Int32) (S2_pipsLeft : Nat → Int32) (S2_notHome : Nat → Int32) : CT l G yX4_readMan cX4_readMan 4 (some .boolean) q_X4_readMan [.ref h] (wRD G h h_bytes h_board S0_length S0_at S0_faultNumber S0_faultPlace ++ wIA G h_bytes 90 S1 ++ wBD G h_board h_board_firms h_board_kindsTold h_board_places h_board_crowds h_board_pipsLeft h_board_notHome S2_points S2_home S2_men S2_turn S2_thrower S2_cube S2_owner S2_firms S2_kindsTold S2_places S2_crowds S2_pipsLeft S2_notHome) (M_X4_readMan (S0_length, S0_at, S0_faultNumber, S0_faultPlace) S1 (S2_points, S2_home, S2_men, S2_turn, S2_thrower, S2_cube, S2_owner, S2_firms, S2_kindsTold, S2_places, S2_crowds, S2_pipsLeft, S2_notHome)) (fun u => some (.int u.1)) (fun u => wRD G h h_bytes h_board u.2.1.1 u.2.1.2.1 u.2.1.2.2.1 u.2.1.2.2.2 ++ wIA G h_bytes 90 S1 ++ wBD G h_board h_board_firms h_board_kindsTold h_board_places h_board_crowds h_board_pipsLeft h_board_notHome u.2.2.1 u.2.2.2.1 u.2.2.2.2.1 u.2.2.2.2.2.1 u.2.2.2.2.2.2.1 u.2.2.2.2.2.2.2.1 u.2.2.2.2.2.2.2.2.1 u.2.2.2.2.2.2.2.2.2.1 u.2.2.2.2.2.2.2.2.2.2.1 u.2.2.2.2.2.2.2.2.2.2.2.1 u.2.2.2.2.2.2.2.2.2.2.2.2.1 u.2.2.2.2.2.2.2.2.2.2.2.2.2.1 u.2.2.2.2.2.2.2.2.2.2.2.2.2.2) := by
  refine CT.of (P := PX4_readMan) (by decide) dPX4_readMan (Nat.le_of_ble_eq_true rfl) ?_
  intro p e s m args below meth c A Q ls hne X RT Y hl
  have hl : lv_has ls 4 [(0, .ref h)] := hl
  generalize hM : M_X4_readMan (S0_length, S0_at, S0_faultNumber, S0_faultPlace) S1 (S2_points, S2_home, S2_men, S2_turn, S2_thrower, S2_cube, S2_owner, S2_firms, S2_kindsTold, S2_places, S2_crowds, S2_pipsLeft, S2_notHome) = MM at hne RT
  unfold M_X4_readMan at hM
  refine r_aload_n (pc' := 1) X hl 0 rfl rfl 0 rfl rfl ?_
  refine r_callV0 (pc' := 4) (As := []) (rest := []) X Y 1 rfl rfl mRX4_52 (c_X4_kindHere l G h h_bytes h_board S0_length S0_at S0_faultNumber S0_faultPlace S1) (mB hM hne) 0 rfl rfl [0, 1] rfl rfl rfl (Nat.le_of_ble_eq_true rfl) ⟨rfl, rfl⟩ ⟨Nat.le_of_ble_eq_true rfl, Nat.le_of_ble_eq_true rfl⟩ ⟨Nat.zero_le _, Nat.zero_le _⟩ hl.1 (st' := fun u1 => [.int u1]) (fun _ => rfl) (fun u1 H locs huu1 Y => ?_)
  replace hM := mS hM huu1
  refine r_istore_n (pc' := 5) (L' := [(1, .int u1), (0, .ref h)]) X hl rfl 2 rfl rfl (by decide) rfl (fun ls hl => ?_)
  refine r_iload_n (pc' := 6) X hl 0 rfl rfl 3 rfl rfl ?_
  refine r_ldc (pc' := 8) X mw229 4 rfl rfl ?_
  refine r_icmp_ne (pc' := 11) X 17 5 rfl rfl (by decide) (fun c2 => ?_) (fun c2 => ?_)
  · replace hM := mE hM c2
    refine r_aload_n (pc' := 18) X hl 1 rfl rfl 10 rfl rfl ?_
    refine r_get (pc' := 21) (v := .ref h_board) X Y 11 rfl rfl fRX4_23 0 rfl rfl ?_
    refine r_getN (pc' := 24) (v := .int S2_men) X Y 12 rfl rfl fRX4_59 2 rfl rfl ?_
    refine r_bipush (pc' := 26) X (8 : Int32) 13 rfl rfl rfl ?_
    refine r_icmp_lt (pc' := 29) X 35 14 rfl rfl (by decide) (fun c3 => ?_) (fun c3 => ?_)
    · replace hM := mI hM c3
      refine r_aload_n (pc' := 36) X hl 1 rfl rfl 19 rfl rfl ?_
      refine r_dup (pc' := 37) X 20 rfl rfl rfl ?_
      refine r_get (pc' := 40) (v := .int S0_at) X Y 21 rfl rfl fRX4_34 0 rfl rfl ?_
      refine r_iconst (pc' := 41) X (1 : Int32) 22 rfl rfl rfl ?_
      refine r_iadd (pc' := 42) X 23 rfl rfl ?_
      refine r_put (pc' := 45) (ws' := wRD G h h_bytes h_board S0_length (S0_at + (1 : Int32)) S0_faultNumber S0_faultPlace ++ wIA G h_bytes 90 S1 ++ wBD G h_board h_board_firms h_board_kindsTold h_board_places h_board_crowds h_board_pipsLeft h_board_notHome S2_points S2_home S2_men S2_turn S2_thrower S2_cube S2_owner S2_firms S2_kindsTold S2_places S2_crowds S2_pipsLeft S2_notHome) X Y 24 rfl rfl fRX4_34 0 rfl rfl rfl (Nat.le_of_ble_eq_true rfl) rfl (fun H locs Y => ?_)
      refine r_aload_n (pc' := 46) X hl 1 rfl rfl 25 rfl rfl ?_
      refine r_iconst (pc' := 47) X (0 : Int32) 26 rfl rfl rfl ?_
      refine r_iconst (pc' := 48) X (1 : Int32) 27 rfl rfl rfl ?_
      refine r_callV (pc' := 51) (As := [.int (0 : Int32), .int (1 : Int32)]) (rest := []) (wr := (wBD G h_board h_board_firms h_board_kindsTold h_board_places h_board_crowds h_board_pipsLeft h_board_notHome S2_points S2_home S2_men S2_turn S2_thrower S2_cube S2_owner S2_firms S2_kindsTold S2_places S2_crowds S2_pipsLeft S2_notHome : va_W)) X Y 28 rfl rfl mRX4_41 (c_X4_readNumber l G h h_bytes h_board S0_length ((S0_at + (1 : Int32))) S0_faultNumber S0_faultPlace S1 (0 : Int32) (1 : Int32)) (mB hM hne) 0 rfl rfl [0, 1] [2, 3, 4, 5, 6, 7, 8] [7, 8, 0, 1, 2, 3, 4, 5, 6] rfl rfl ⟨rfl, rfl, rfl⟩ rfl (w2 := fun u4 => wRD G h h_bytes h_board u4.2.1 u4.2.2.1 u4.2.2.2.1 u4.2.2.2.2 ++ wIA G h_bytes 90 S1 ++ wBD G h_board h_board_firms h_board_kindsTold h_board_places h_board_crowds h_board_pipsLeft h_board_notHome S2_points S2_home S2_men S2_turn S2_thrower S2_cube S2_owner S2_firms S2_kindsTold S2_places S2_crowds S2_pipsLeft S2_notHome) (fun _ => rfl) rfl (Nat.le_of_ble_eq_true rfl) ⟨rfl, rfl⟩ ⟨Nat.le_of_ble_eq_true rfl, Nat.le_of_ble_eq_true rfl⟩ ⟨Nat.zero_le _, Nat.zero_le _⟩ hl.1 (st' := fun u4 => [.int u4.1]) (fun _ => rfl) (fun u4 H locs huu4 Y => ?_)
      obtain ⟨u4_1, ⟨u4_2_length, u4_2_at, u4_2_faultNumber, u4_2_faultPlace⟩⟩ := u4
      replace Y : rY G A s (wRD G h h_bytes h_board u4_2_length u4_2_at u4_2_faultNumber u4_2_faultPlace ++ wIA G h_bytes 90 S1 ++ wBD G h_board h_board_firms h_board_kindsTold h_board_places h_board_crowds h_board_pipsLeft h_board_notHome S2_points S2_home S2_men S2_turn S2_thrower S2_cube S2_owner S2_firms S2_kindsTold S2_places S2_crowds S2_pipsLeft S2_notHome) H locs := Y
      replace hM := mS hM huu4
      show W p l e q_X4_readMan s m args below meth c H locs 0 0 Q (F0 m 51 ls [.int u4_1])
      refine r_istore_n (pc' := 52) (L' := [(2, .int u4_1), (1, .int u1), (0, .ref h)]) X hl rfl 29 rfl rfl (by decide) rfl (fun ls hl => ?_)
      refine r_iload_n (pc' := 53) X hl 0 rfl rfl 30 rfl rfl ?_
      refine r_ldc (pc' := 55) X mw229 31 rfl rfl ?_
      refine r_icmp_eq (pc' := 58) X 67 32 rfl rfl (by decide) (fun c5 => ?_) (fun c5 => ?_)
      · replace hM := mI hM c5
        refine r_iconst (pc' := 68) X (0 : Int32) 37 rfl rfl rfl ?_
        exact RT ((0 : Int32), (u4_2_length, u4_2_at, u4_2_faultNumber, u4_2_faultPlace), (S2_points, S2_home, S2_men, S2_turn, S2_thrower, S2_cube, S2_owner, S2_firms, S2_kindsTold, S2_places, S2_crowds, S2_pipsLeft, S2_notHome)) _ _ _ _ _ hM (Or.inr (Or.inl ⟨rfl, rfl, _, rfl, nb (Or.inl rfl)⟩)) (X.d (k := 38) rfl) Y
      · replace hM := mE hM c5
        refine r_aload_n (pc' := 59) X hl 2 rfl rfl 33 rfl rfl ?_
        refine r_bipush (pc' := 61) X (44 : Int32) 34 rfl rfl rfl ?_
        refine r_callV (pc' := 64) (As := [.int (44 : Int32)]) (rest := []) (wr := (wBD G h_board h_board_firms h_board_kindsTold h_board_places h_board_crowds h_board_pipsLeft h_board_notHome S2_points S2_home S2_men S2_turn S2_thrower S2_cube S2_owner S2_firms S2_kindsTold S2_places S2_crowds S2_pipsLeft S2_notHome : va_W)) X Y 35 rfl rfl mRX4_37 (c_X4_readSign l G h h_bytes h_board u4_2_length u4_2_at u4_2_faultNumber u4_2_faultPlace S1 (44 : Int32)) (mB hM hne) 0 rfl rfl [0, 1] [2, 3, 4, 5, 6, 7, 8] [7, 8, 0, 1, 2, 3, 4, 5, 6] rfl rfl ⟨rfl, rfl, rfl⟩ rfl (w2 := fun u6 => wRD G h h_bytes h_board u6.2.1 u6.2.2.1 u6.2.2.2.1 u6.2.2.2.2 ++ wIA G h_bytes 90 S1 ++ wBD G h_board h_board_firms h_board_kindsTold h_board_places h_board_crowds h_board_pipsLeft h_board_notHome S2_points S2_home S2_men S2_turn S2_thrower S2_cube S2_owner S2_firms S2_kindsTold S2_places S2_crowds S2_pipsLeft S2_notHome) (fun _ => rfl) rfl (Nat.le_of_ble_eq_true rfl) ⟨rfl, rfl⟩ ⟨Nat.le_of_ble_eq_true rfl, Nat.le_of_ble_eq_true rfl⟩ ⟨Nat.zero_le _, Nat.zero_le _⟩ hl.1 (st' := fun u6 => [.int u6.1]) (fun _ => rfl) (fun u6 H locs huu6 Y => ?_)
        obtain ⟨u6_1, ⟨u6_2_length, u6_2_at, u6_2_faultNumber, u6_2_faultPlace⟩⟩ := u6
        replace Y : rY G A s (wRD G h h_bytes h_board u6_2_length u6_2_at u6_2_faultNumber u6_2_faultPlace ++ wIA G h_bytes 90 S1 ++ wBD G h_board h_board_firms h_board_kindsTold h_board_places h_board_crowds h_board_pipsLeft h_board_notHome S2_points S2_home S2_men S2_turn S2_thrower S2_cube S2_owner S2_firms S2_kindsTold S2_places S2_crowds S2_pipsLeft S2_notHome) H locs := Y
        replace hM := mS hM huu6
        show W p l e q_X4_readMan s m args below meth c H locs 0 0 Q (F0 m 64 ls [.int u6_1])
        refine r_if_ne (pc' := 67) X 69 36 rfl rfl (by decide) (fun c7 => ?_) (fun c7 => ?_)
        · replace hM := mE hM c7
          refine r_aload_n (pc' := 70) X hl 2 rfl rfl 39 rfl rfl ?_
          refine r_iconst (pc' := 71) X (0 : Int32) 40 rfl rfl rfl ?_
          refine r_aload_n (pc' := 72) X hl 2 rfl rfl 41 rfl rfl ?_
          refine r_get (pc' := 75) (v := .ref h_board) X Y 42 rfl rfl fRX4_23 0 rfl rfl ?_
          refine r_callV0 (pc' := 78) (As := []) (rest := [.int (0 : Int32), .ref h]) X Y 43 rfl rfl mRX4_62 (c_X2_bar l G h_board h_board_firms h_board_kindsTold h_board_places h_board_crowds h_board_pipsLeft h_board_notHome S2_points S2_home S2_men S2_turn S2_thrower S2_cube S2_owner S2_firms S2_kindsTold S2_places S2_crowds S2_pipsLeft S2_notHome) (mB hM hne) 2 rfl rfl [2, 3, 4, 5, 6, 7, 8] rfl rfl rfl (Nat.le_of_ble_eq_true rfl) ⟨rfl, rfl⟩ ⟨Nat.le_of_ble_eq_true rfl, Nat.le_of_ble_eq_true rfl⟩ ⟨Nat.zero_le _, Nat.zero_le _⟩ hl.1 (st' := fun u8 => [.int u8, .int (0 : Int32), .ref h]) (fun _ => rfl) (fun u8 H locs huu8 Y => ?_)
          replace hM := mS hM huu8
          refine r_callV (pc' := 81) (As := [.int (0 : Int32), .int u8]) (rest := []) (wr := (wBD G h_board h_board_firms h_board_kindsTold h_board_places h_board_crowds h_board_pipsLeft h_board_notHome S2_points S2_home S2_men S2_turn S2_thrower S2_cube S2_owner S2_firms S2_kindsTold S2_places S2_crowds S2_pipsLeft S2_notHome : va_W)) X Y 44 rfl rfl mRX4_41 (c_X4_readNumber l G h h_bytes h_board u6_2_length u6_2_at u6_2_faultNumber u6_2_faultPlace S1 (0 : Int32) u8) (mB hM hne) 0 rfl rfl [0, 1] [2, 3, 4, 5, 6, 7, 8] [7, 8, 0, 1, 2, 3, 4, 5, 6] rfl rfl ⟨rfl, rfl, rfl⟩ rfl (w2 := fun u9 => wRD G h h_bytes h_board u9.2.1 u9.2.2.1 u9.2.2.2.1 u9.2.2.2.2 ++ wIA G h_bytes 90 S1 ++ wBD G h_board h_board_firms h_board_kindsTold h_board_places h_board_crowds h_board_pipsLeft h_board_notHome S2_points S2_home S2_men S2_turn S2_thrower S2_cube S2_owner S2_firms S2_kindsTold S2_places S2_crowds S2_pipsLeft S2_notHome) (fun _ => rfl) rfl (Nat.le_of_ble_eq_true rfl) ⟨rfl, rfl⟩ ⟨Nat.le_of_ble_eq_true rfl, Nat.le_of_ble_eq_true rfl⟩ ⟨Nat.zero_le _, Nat.zero_le _⟩ hl.1 (st' := fun u9 => [.int u9.1]) (fun _ => rfl) (fun u9 H locs huu9 Y => ?_)
          obtain ⟨u9_1, ⟨u9_2_length, u9_2_at, u9_2_faultNumber, u9_2_faultPlace⟩⟩ := u9
          replace Y : rY G A s (wRD G h h_bytes h_board u9_2_length u9_2_at u9_2_faultNumber u9_2_faultPlace ++ wIA G h_bytes 90 S1 ++ wBD G h_board h_board_firms h_board_kindsTold h_board_places h_board_crowds h_board_pipsLeft h_board_notHome S2_points S2_home S2_men S2_turn S2_thrower S2_cube S2_owner S2_firms S2_kindsTold S2_places S2_crowds S2_pipsLeft S2_notHome) H locs := Y
          replace hM := mS hM huu9
          show W p l e q_X4_readMan s m args below meth c H locs 0 0 Q (F0 m 81 ls [.int u9_1])
          refine r_istore_n (pc' := 82) (L' := [(3, .int u9_1), (2, .int u4_1), (1, .int u1), (0, .ref h)]) X hl rfl 45 rfl rfl (by decide) rfl (fun ls hl => ?_)
          refine r_iload_n (pc' := 83) X hl 0 rfl rfl 46 rfl rfl ?_
          refine r_ldc (pc' := 85) X mw229 47 rfl rfl ?_
          refine r_icmp_eq (pc' := 88) X 97 48 rfl rfl (by decide) (fun c10 => ?_) (fun c10 => ?_)
          · replace hM := mI hM c10
            refine r_iconst (pc' := 98) X (0 : Int32) 53 rfl rfl rfl ?_
            exact RT ((0 : Int32), (u9_2_length, u9_2_at, u9_2_faultNumber, u9_2_faultPlace), (S2_points, S2_home, S2_men, S2_turn, S2_thrower, S2_cube, S2_owner, S2_firms, S2_kindsTold, S2_places, S2_crowds, S2_pipsLeft, S2_notHome)) _ _ _ _ _ hM (Or.inr (Or.inl ⟨rfl, rfl, _, rfl, nb (Or.inl rfl)⟩)) (X.d (k := 54) rfl) Y
          · replace hM := mE hM c10
            refine r_aload_n (pc' := 89) X hl 3 rfl rfl 49 rfl rfl ?_
            refine r_bipush (pc' := 91) X (59 : Int32) 50 rfl rfl rfl ?_
            refine r_callV (pc' := 94) (As := [.int (59 : Int32)]) (rest := []) (wr := (wBD G h_board h_board_firms h_board_kindsTold h_board_places h_board_crowds h_board_pipsLeft h_board_notHome S2_points S2_home S2_men S2_turn S2_thrower S2_cube S2_owner S2_firms S2_kindsTold S2_places S2_crowds S2_pipsLeft S2_notHome : va_W)) X Y 51 rfl rfl mRX4_37 (c_X4_readSign l G h h_bytes h_board u9_2_length u9_2_at u9_2_faultNumber u9_2_faultPlace S1 (59 : Int32)) (mB hM hne) 0 rfl rfl [0, 1] [2, 3, 4, 5, 6, 7, 8] [7, 8, 0, 1, 2, 3, 4, 5, 6] rfl rfl ⟨rfl, rfl, rfl⟩ rfl (w2 := fun u11 => wRD G h h_bytes h_board u11.2.1 u11.2.2.1 u11.2.2.2.1 u11.2.2.2.2 ++ wIA G h_bytes 90 S1 ++ wBD G h_board h_board_firms h_board_kindsTold h_board_places h_board_crowds h_board_pipsLeft h_board_notHome S2_points S2_home S2_men S2_turn S2_thrower S2_cube S2_owner S2_firms S2_kindsTold S2_places S2_crowds S2_pipsLeft S2_notHome) (fun _ => rfl) rfl (Nat.le_of_ble_eq_true rfl) ⟨rfl, rfl⟩ ⟨Nat.le_of_ble_eq_true rfl, Nat.le_of_ble_eq_true rfl⟩ ⟨Nat.zero_le _, Nat.zero_le _⟩ hl.1 (st' := fun u11 => [.int u11.1]) (fun _ => rfl) (fun u11 H locs huu11 Y => ?_)
            obtain ⟨u11_1, ⟨u11_2_length, u11_2_at, u11_2_faultNumber, u11_2_faultPlace⟩⟩ := u11
            replace Y : rY G A s (wRD G h h_bytes h_board u11_2_length u11_2_at u11_2_faultNumber u11_2_faultPlace ++ wIA G h_bytes 90 S1 ++ wBD G h_board h_board_firms h_board_kindsTold h_board_places h_board_crowds h_board_pipsLeft h_board_notHome S2_points S2_home S2_men S2_turn S2_thrower S2_cube S2_owner S2_firms S2_kindsTold S2_places S2_crowds S2_pipsLeft S2_notHome) H locs := Y
            replace hM := mS hM huu11
            show W p l e q_X4_readMan s m args below meth c H locs 0 0 Q (F0 m 94 ls [.int u11_1])
            refine r_if_ne (pc' := 97) X 99 52 rfl rfl (by decide) (fun c12 => ?_) (fun c12 => ?_)
            · replace hM := mE hM c12
              refine r_aload_n (pc' := 100) X hl 3 rfl rfl 55 rfl rfl ?_
              refine r_get (pc' := 103) (v := .ref h_board) X Y 56 rfl rfl fRX4_23 0 rfl rfl ?_
              refine r_iload_n (pc' := 104) X hl 2 rfl rfl 57 rfl rfl ?_
              refine r_iload_n (pc' := 105) X hl 1 rfl rfl 58 rfl rfl ?_
              refine r_iload_n (pc' := 106) X hl 0 rfl rfl 59 rfl rfl ?_
              refine r_callV (pc' := 109) (As := [.int u1, .int u4_1, .int u9_1]) (rest := []) (wr := (wRD G h h_bytes h_board u11_2_length u11_2_at u11_2_faultNumber u11_2_faultPlace ++ wIA G h_bytes 90 S1 : va_W)) X Y 60 rfl rfl mRX4_65 (c_X2_join l G h_board h_board_firms h_board_kindsTold h_board_places h_board_crowds h_board_pipsLeft h_board_notHome S2_points S2_home S2_men S2_turn S2_thrower S2_cube S2_owner S2_firms S2_kindsTold S2_places S2_crowds S2_pipsLeft S2_notHome u1 u4_1 u9_1) (mB hM hne) 2 rfl rfl [2, 3, 4, 5, 6, 7, 8] [0, 1] [0, 1, 2, 3, 4, 5, 6, 7, 8] rfl rfl ⟨rfl, rfl, rfl⟩ rfl (w2 := fun u13 => wRD G h h_bytes h_board u11_2_length u11_2_at u11_2_faultNumber u11_2_faultPlace ++ wIA G h_bytes 90 S1 ++ wBD G h_board h_board_firms h_board_kindsTold h_board_places h_board_crowds h_board_pipsLeft h_board_notHome u13.1 u13.2.1 u13.2.2.1 u13.2.2.2.1 u13.2.2.2.2.1 u13.2.2.2.2.2.1 u13.2.2.2.2.2.2.1 u13.2.2.2.2.2.2.2.1 u13.2.2.2.2.2.2.2.2.1 u13.2.2.2.2.2.2.2.2.2.1 u13.2.2.2.2.2.2.2.2.2.2.1 u13.2.2.2.2.2.2.2.2.2.2.2.1 u13.2.2.2.2.2.2.2.2.2.2.2.2) (fun _ => rfl) rfl (Nat.le_of_ble_eq_true rfl) ⟨rfl, rfl⟩ ⟨Nat.le_of_ble_eq_true rfl, Nat.le_of_ble_eq_true rfl⟩ ⟨Nat.zero_le _, Nat.zero_le _⟩ hl.1 (st' := fun u13 => []) (fun _ => rfl) (fun u13 H locs huu13 Y => ?_)
              obtain ⟨u13_points, u13_home, u13_men, u13_turn, u13_thrower, u13_cube, u13_owner, u13_firms, u13_kindsTold, u13_places, u13_crowds, u13_pipsLeft, u13_notHome⟩ := u13
              replace Y : rY G A s (wRD G h h_bytes h_board u11_2_length u11_2_at u11_2_faultNumber u11_2_faultPlace ++ wIA G h_bytes 90 S1 ++ wBD G h_board h_board_firms h_board_kindsTold h_board_places h_board_crowds h_board_pipsLeft h_board_notHome u13_points u13_home u13_men u13_turn u13_thrower u13_cube u13_owner u13_firms u13_kindsTold u13_places u13_crowds u13_pipsLeft u13_notHome) H locs := Y
              replace hM := mS hM huu13
              show W p l e q_X4_readMan s m args below meth c H locs 0 0 Q (F0 m 109 ls [])
              refine r_iconst (pc' := 110) X (1 : Int32) 61 rfl rfl rfl ?_
              exact RT ((1 : Int32), (u11_2_length, u11_2_at, u11_2_faultNumber, u11_2_faultPlace), (u13_points, u13_home, u13_men, u13_turn, u13_thrower, u13_cube, u13_owner, u13_firms, u13_kindsTold, u13_places, u13_crowds, u13_pipsLeft, u13_notHome)) _ _ _ _ _ hM (Or.inr (Or.inl ⟨rfl, rfl, _, rfl, nb (Or.inr rfl)⟩)) (X.d (k := 62) rfl) Y
            · replace hM := mI hM c12
              refine r_iconst (pc' := 98) X (0 : Int32) 53 rfl rfl rfl ?_
              exact RT ((0 : Int32), (u11_2_length, u11_2_at, u11_2_faultNumber, u11_2_faultPlace), (S2_points, S2_home, S2_men, S2_turn, S2_thrower, S2_cube, S2_owner, S2_firms, S2_kindsTold, S2_places, S2_crowds, S2_pipsLeft, S2_notHome)) _ _ _ _ _ hM (Or.inr (Or.inl ⟨rfl, rfl, _, rfl, nb (Or.inl rfl)⟩)) (X.d (k := 54) rfl) Y
        · replace hM := mI hM c7
          refine r_iconst (pc' := 68) X (0 : Int32) 37 rfl rfl rfl ?_
          exact RT ((0 : Int32), (u6_2_length, u6_2_at, u6_2_faultNumber, u6_2_faultPlace), (S2_points, S2_home, S2_men, S2_turn, S2_thrower, S2_cube, S2_owner, S2_firms, S2_kindsTold, S2_places, S2_crowds, S2_pipsLeft, S2_notHome)) _ _ _ _ _ hM (Or.inr (Or.inl ⟨rfl, rfl, _, rfl, nb (Or.inl rfl)⟩)) (X.d (k := 38) rfl) Y
    · replace hM := mE hM c3
      refine r_aload_n (pc' := 30) X hl 1 rfl rfl 15 rfl rfl ?_
      refine r_iconst (pc' := 31) X (3 : Int32) 16 rfl rfl rfl ?_
      refine r_callV (pc' := 34) (As := [.int (3 : Int32)]) (rest := []) (wr := (wIA G h_bytes 90 S1 ++ wBD G h_board h_board_firms h_board_kindsTold h_board_places h_board_crowds h_board_pipsLeft h_board_notHome S2_points S2_home S2_men S2_turn S2_thrower S2_cube S2_owner S2_firms S2_kindsTold S2_places S2_crowds S2_pipsLeft S2_notHome : va_W)) X Y 17 rfl rfl mRX4_56 (c_X4_fail l G h h_bytes h_board S0_length S0_at S0_faultNumber S0_faultPlace (3 : Int32)) (mB hM hne) 0 rfl rfl [0] [1, 2, 3, 4, 5, 6, 7, 8] [8, 0, 1, 2, 3, 4, 5, 6, 7] rfl rfl ⟨rfl, rfl, rfl⟩ rfl (w2 := fun u14 => wRD G h h_bytes h_board u14.2.1 u14.2.2.1 u14.2.2.2.1 u14.2.2.2.2 ++ wIA G h_bytes 90 S1 ++ wBD G h_board h_board_firms h_board_kindsTold h_board_places h_board_crowds h_board_pipsLeft h_board_notHome S2_points S2_home S2_men S2_turn S2_thrower S2_cube S2_owner S2_firms S2_kindsTold S2_places S2_crowds S2_pipsLeft S2_notHome) (fun _ => rfl) rfl (Nat.le_of_ble_eq_true rfl) ⟨rfl, rfl⟩ ⟨Nat.le_of_ble_eq_true rfl, Nat.le_of_ble_eq_true rfl⟩ ⟨Nat.zero_le _, Nat.zero_le _⟩ hl.1 (st' := fun u14 => [.int u14.1]) (fun _ => rfl) (fun u14 H locs huu14 Y => ?_)
      obtain ⟨u14_1, ⟨u14_2_length, u14_2_at, u14_2_faultNumber, u14_2_faultPlace⟩⟩ := u14
      replace Y : rY G A s (wRD G h h_bytes h_board u14_2_length u14_2_at u14_2_faultNumber u14_2_faultPlace ++ wIA G h_bytes 90 S1 ++ wBD G h_board h_board_firms h_board_kindsTold h_board_places h_board_crowds h_board_pipsLeft h_board_notHome S2_points S2_home S2_men S2_turn S2_thrower S2_cube S2_owner S2_firms S2_kindsTold S2_places S2_crowds S2_pipsLeft S2_notHome) H locs := Y
      replace hM := mS hM huu14
      show W p l e q_X4_readMan s m args below meth c H locs 0 0 Q (F0 m 34 ls [.int u14_1])
      obtain ⟨g15, hM⟩ := mG hM hne
      exact RT (u14_1, (u14_2_length, u14_2_at, u14_2_faultNumber, u14_2_faultPlace), (S2_points, S2_home, S2_men, S2_turn, S2_thrower, S2_cube, S2_owner, S2_firms, S2_kindsTold, S2_places, S2_crowds, S2_pipsLeft, S2_notHome)) _ _ _ _ _ hM (Or.inr (Or.inl ⟨rfl, rfl, _, rfl, nb g15⟩)) (X.d (k := 18) rfl) Y
  · replace hM := mI hM c2
    refine r_aload_n (pc' := 12) X hl 1 rfl rfl 6 rfl rfl ?_
    refine r_iconst (pc' := 13) X (1 : Int32) 7 rfl rfl rfl ?_
    refine r_callV (pc' := 16) (As := [.int (1 : Int32)]) (rest := []) (wr := (wIA G h_bytes 90 S1 ++ wBD G h_board h_board_firms h_board_kindsTold h_board_places h_board_crowds h_board_pipsLeft h_board_notHome S2_points S2_home S2_men S2_turn S2_thrower S2_cube S2_owner S2_firms S2_kindsTold S2_places S2_crowds S2_pipsLeft S2_notHome : va_W)) X Y 8 rfl rfl mRX4_56 (c_X4_fail l G h h_bytes h_board S0_length S0_at S0_faultNumber S0_faultPlace (1 : Int32)) (mB hM hne) 0 rfl rfl [0] [1, 2, 3, 4, 5, 6, 7, 8] [8, 0, 1, 2, 3, 4, 5, 6, 7] rfl rfl ⟨rfl, rfl, rfl⟩ rfl (w2 := fun u16 => wRD G h h_bytes h_board u16.2.1 u16.2.2.1 u16.2.2.2.1 u16.2.2.2.2 ++ wIA G h_bytes 90 S1 ++ wBD G h_board h_board_firms h_board_kindsTold h_board_places h_board_crowds h_board_pipsLeft h_board_notHome S2_points S2_home S2_men S2_turn S2_thrower S2_cube S2_owner S2_firms S2_kindsTold S2_places S2_crowds S2_pipsLeft S2_notHome) (fun _ => rfl) rfl (Nat.le_of_ble_eq_true rfl) ⟨rfl, rfl⟩ ⟨Nat.le_of_ble_eq_true rfl, Nat.le_of_ble_eq_true rfl⟩ ⟨Nat.zero_le _, Nat.zero_le _⟩ hl.1 (st' := fun u16 => [.int u16.1]) (fun _ => rfl) (fun u16 H locs huu16 Y => ?_)
    obtain ⟨u16_1, ⟨u16_2_length, u16_2_at, u16_2_faultNumber, u16_2_faultPlace⟩⟩ := u16
    replace Y : rY G A s (wRD G h h_bytes h_board u16_2_length u16_2_at u16_2_faultNumber u16_2_faultPlace ++ wIA G h_bytes 90 S1 ++ wBD G h_board h_board_firms h_board_kindsTold h_board_places h_board_crowds h_board_pipsLeft h_board_notHome S2_points S2_home S2_men S2_turn S2_thrower S2_cube S2_owner S2_firms S2_kindsTold S2_places S2_crowds S2_pipsLeft S2_notHome) H locs := Y
    replace hM := mS hM huu16
    show W p l e q_X4_readMan s m args below meth c H locs 0 0 Q (F0 m 16 ls [.int u16_1])
    obtain ⟨g17, hM⟩ := mG hM hne
    exact RT (u16_1, (u16_2_length, u16_2_at, u16_2_faultNumber, u16_2_faultPlace), (S2_points, S2_home, S2_men, S2_turn, S2_thrower, S2_cube, S2_owner, S2_firms, S2_kindsTold, S2_places, S2_crowds, S2_pipsLeft, S2_notHome)) _ _ _ _ _ hM (Or.inr (Or.inl ⟨rfl, rfl, _, rfl, nb g17⟩)) (X.d (k := 9) rfl) Y

def M_X4_readAll (S0 : RD) (S1 : IA) (S2 : BD) : Option (Int32 × RD × BD) :=
  ((M_X4_readLaw S0 S1 S2).bind (fun u1 => (if u1.1 = 0 then (some ((0 : Int32), u1.2.1, u1.2.2)) else ((M_X4_readMan u1.2.1 S1 u1.2.2).bind (fun u3 => (if u3.1 = 0 then (some ((0 : Int32), u3.2.1, u3.2.2)) else (lp (σ := Int32 × RD × BD) (β := Int32 × RD × BD) (fun rec5 st5 => (if (8 : Int32) < st5.1 then (some ((1 : Int32), st5.2.1, st5.2.2)) else (if (rd_length st5.2.1) ≤ (rd_at st5.2.1) then (some ((1 : Int32), st5.2.1, st5.2.2)) else ((M_X4_readMan st5.2.1 S1 st5.2.2).bind (fun u8 => (if u8.1 = 0 then (some ((0 : Int32), u8.2.1, u8.2.2)) else (rec5 ((st5.1 + (1 : Int32)), u8.2.1, u8.2.2)))))))) 1000000 ((1 : Int32), u3.2.1, u3.2.2))))))))
def q_X4_readAll : Room := { frames := 5, cells := 0, slots := 0, locals := 153 }
set_option maxHeartbeats 4000000 in
set_option maxRecDepth 100000 in
theorem c_X4_readAll (l : Launch) (G : gT) (h h_bytes h_board h_board_firms h_board_kindsTold h_board_places h_board_crowds h_board_pipsLeft h_board_notHome : Nat) (S0_length : Int32) (S0_at : Int32) (S0_faultNumber : Int32) (S0_faultPlace : Int32) (S1 : Nat → Int32) (S2_points : Int32) (S2_home : Int32) (S2_men : Int32) (S2_turn : Int32) (S2_thrower : Int32) (S2_cube : Int32) (S2_owner : Int32) (S2_firms : Nat → Int32) (S2_kindsTold : Nat → Int32) (S2_places : Nat → Int32) (S2_crowds : Nat → Int32) (S2_pipsLeft : Nat → Int32) (S2_notHome : Nat → Int32) : CT l G yX4_readAll cX4_readAll 2 (some .boolean) q_X4_readAll [.ref h] (wRD G h h_bytes h_board S0_length S0_at S0_faultNumber S0_faultPlace ++ wIA G h_bytes 90 S1 ++ wBD G h_board h_board_firms h_board_kindsTold h_board_places h_board_crowds h_board_pipsLeft h_board_notHome S2_points S2_home S2_men S2_turn S2_thrower S2_cube S2_owner S2_firms S2_kindsTold S2_places S2_crowds S2_pipsLeft S2_notHome) (M_X4_readAll (S0_length, S0_at, S0_faultNumber, S0_faultPlace) S1 (S2_points, S2_home, S2_men, S2_turn, S2_thrower, S2_cube, S2_owner, S2_firms, S2_kindsTold, S2_places, S2_crowds, S2_pipsLeft, S2_notHome)) (fun u => some (.int u.1)) (fun u => wRD G h h_bytes h_board u.2.1.1 u.2.1.2.1 u.2.1.2.2.1 u.2.1.2.2.2 ++ wIA G h_bytes 90 S1 ++ wBD G h_board h_board_firms h_board_kindsTold h_board_places h_board_crowds h_board_pipsLeft h_board_notHome u.2.2.1 u.2.2.2.1 u.2.2.2.2.1 u.2.2.2.2.2.1 u.2.2.2.2.2.2.1 u.2.2.2.2.2.2.2.1 u.2.2.2.2.2.2.2.2.1 u.2.2.2.2.2.2.2.2.2.1 u.2.2.2.2.2.2.2.2.2.2.1 u.2.2.2.2.2.2.2.2.2.2.2.1 u.2.2.2.2.2.2.2.2.2.2.2.2.1 u.2.2.2.2.2.2.2.2.2.2.2.2.2.1 u.2.2.2.2.2.2.2.2.2.2.2.2.2.2) := by
  refine CT.of (P := PX4_readAll) (by decide) dPX4_readAll (Nat.le_of_ble_eq_true rfl) ?_
  intro p e s m args below meth c A Q ls hne X RT Y hl
  have hl : lv_has ls 2 [(0, .ref h)] := hl
  generalize hM : M_X4_readAll (S0_length, S0_at, S0_faultNumber, S0_faultPlace) S1 (S2_points, S2_home, S2_men, S2_turn, S2_thrower, S2_cube, S2_owner, S2_firms, S2_kindsTold, S2_places, S2_crowds, S2_pipsLeft, S2_notHome) = MM at hne RT
  unfold M_X4_readAll at hM
  refine r_aload_n (pc' := 1) X hl 0 rfl rfl 0 rfl rfl ?_
  refine r_callV (pc' := 4) (As := []) (rest := []) (wr := ([] : va_W)) X Y 1 rfl rfl mRX4_27 (c_X4_readLaw l G h h_bytes h_board h_board_firms h_board_kindsTold h_board_places h_board_crowds h_board_pipsLeft h_board_notHome S0_length S0_at S0_faultNumber S0_faultPlace S1 S2_points S2_home S2_men S2_turn S2_thrower S2_cube S2_owner S2_firms S2_kindsTold S2_places S2_crowds S2_pipsLeft S2_notHome) (mB hM hne) 0 rfl rfl [0, 1, 2, 3, 4, 5, 6, 7, 8] [] [0, 1, 2, 3, 4, 5, 6, 7, 8] rfl rfl ⟨rfl, rfl, rfl⟩ rfl (w2 := fun u1 => wRD G h h_bytes h_board u1.2.1.1 u1.2.1.2.1 u1.2.1.2.2.1 u1.2.1.2.2.2 ++ wIA G h_bytes 90 S1 ++ wBD G h_board h_board_firms h_board_kindsTold h_board_places h_board_crowds h_board_pipsLeft h_board_notHome u1.2.2.1 u1.2.2.2.1 u1.2.2.2.2.1 u1.2.2.2.2.2.1 u1.2.2.2.2.2.2.1 u1.2.2.2.2.2.2.2.1 u1.2.2.2.2.2.2.2.2.1 u1.2.2.2.2.2.2.2.2.2.1 u1.2.2.2.2.2.2.2.2.2.2.1 u1.2.2.2.2.2.2.2.2.2.2.2.1 u1.2.2.2.2.2.2.2.2.2.2.2.2.1 u1.2.2.2.2.2.2.2.2.2.2.2.2.2.1 u1.2.2.2.2.2.2.2.2.2.2.2.2.2.2) (fun _ => rfl) rfl (Nat.le_of_ble_eq_true rfl) ⟨rfl, rfl⟩ ⟨Nat.le_of_ble_eq_true rfl, Nat.le_of_ble_eq_true rfl⟩ ⟨Nat.zero_le _, Nat.zero_le _⟩ hl.1 (st' := fun u1 => [.int u1.1]) (fun _ => rfl) (fun u1 H locs huu1 Y => ?_)
  obtain ⟨u1_1, ⟨u1_2_1_length, u1_2_1_at, u1_2_1_faultNumber, u1_2_1_faultPlace⟩, ⟨u1_2_2_points, u1_2_2_home, u1_2_2_men, u1_2_2_turn, u1_2_2_thrower, u1_2_2_cube, u1_2_2_owner, u1_2_2_firms, u1_2_2_kindsTold, u1_2_2_places, u1_2_2_crowds, u1_2_2_pipsLeft, u1_2_2_notHome⟩⟩ := u1
  replace Y : rY G A s (wRD G h h_bytes h_board u1_2_1_length u1_2_1_at u1_2_1_faultNumber u1_2_1_faultPlace ++ wIA G h_bytes 90 S1 ++ wBD G h_board h_board_firms h_board_kindsTold h_board_places h_board_crowds h_board_pipsLeft h_board_notHome u1_2_2_points u1_2_2_home u1_2_2_men u1_2_2_turn u1_2_2_thrower u1_2_2_cube u1_2_2_owner u1_2_2_firms u1_2_2_kindsTold u1_2_2_places u1_2_2_crowds u1_2_2_pipsLeft u1_2_2_notHome) H locs := Y
  replace hM := mS hM huu1
  show W p l e q_X4_readAll s m args below meth c H locs 0 0 Q (F0 m 4 ls [.int u1_1])
  refine r_if_eq (pc' := 7) X 14 2 rfl rfl (by decide) (fun c2 => ?_) (fun c2 => ?_)
  · replace hM := mI hM c2
    refine r_iconst (pc' := 15) X (0 : Int32) 6 rfl rfl rfl ?_
    exact RT ((0 : Int32), (u1_2_1_length, u1_2_1_at, u1_2_1_faultNumber, u1_2_1_faultPlace), (u1_2_2_points, u1_2_2_home, u1_2_2_men, u1_2_2_turn, u1_2_2_thrower, u1_2_2_cube, u1_2_2_owner, u1_2_2_firms, u1_2_2_kindsTold, u1_2_2_places, u1_2_2_crowds, u1_2_2_pipsLeft, u1_2_2_notHome)) _ _ _ _ _ hM (Or.inr (Or.inl ⟨rfl, rfl, _, rfl, nb (Or.inl rfl)⟩)) (X.d (k := 7) rfl) Y
  · replace hM := mE hM c2
    refine r_aload_n (pc' := 8) X hl 0 rfl rfl 3 rfl rfl ?_
    refine r_callV (pc' := 11) (As := []) (rest := []) (wr := ([] : va_W)) X Y 4 rfl rfl mRX4_31 (c_X4_readMan l G h h_bytes h_board h_board_firms h_board_kindsTold h_board_places h_board_crowds h_board_pipsLeft h_board_notHome u1_2_1_length u1_2_1_at u1_2_1_faultNumber u1_2_1_faultPlace S1 u1_2_2_points u1_2_2_home u1_2_2_men u1_2_2_turn u1_2_2_thrower u1_2_2_cube u1_2_2_owner u1_2_2_firms u1_2_2_kindsTold u1_2_2_places u1_2_2_crowds u1_2_2_pipsLeft u1_2_2_notHome) (mB hM hne) 0 rfl rfl [0, 1, 2, 3, 4, 5, 6, 7, 8] [] [0, 1, 2, 3, 4, 5, 6, 7, 8] rfl rfl ⟨rfl, rfl, rfl⟩ rfl (w2 := fun u3 => wRD G h h_bytes h_board u3.2.1.1 u3.2.1.2.1 u3.2.1.2.2.1 u3.2.1.2.2.2 ++ wIA G h_bytes 90 S1 ++ wBD G h_board h_board_firms h_board_kindsTold h_board_places h_board_crowds h_board_pipsLeft h_board_notHome u3.2.2.1 u3.2.2.2.1 u3.2.2.2.2.1 u3.2.2.2.2.2.1 u3.2.2.2.2.2.2.1 u3.2.2.2.2.2.2.2.1 u3.2.2.2.2.2.2.2.2.1 u3.2.2.2.2.2.2.2.2.2.1 u3.2.2.2.2.2.2.2.2.2.2.1 u3.2.2.2.2.2.2.2.2.2.2.2.1 u3.2.2.2.2.2.2.2.2.2.2.2.2.1 u3.2.2.2.2.2.2.2.2.2.2.2.2.2.1 u3.2.2.2.2.2.2.2.2.2.2.2.2.2.2) (fun _ => rfl) rfl (Nat.le_of_ble_eq_true rfl) ⟨rfl, rfl⟩ ⟨Nat.le_of_ble_eq_true rfl, Nat.le_of_ble_eq_true rfl⟩ ⟨Nat.zero_le _, Nat.zero_le _⟩ hl.1 (st' := fun u3 => [.int u3.1]) (fun _ => rfl) (fun u3 H locs huu3 Y => ?_)
    obtain ⟨u3_1, ⟨u3_2_1_length, u3_2_1_at, u3_2_1_faultNumber, u3_2_1_faultPlace⟩, ⟨u3_2_2_points, u3_2_2_home, u3_2_2_men, u3_2_2_turn, u3_2_2_thrower, u3_2_2_cube, u3_2_2_owner, u3_2_2_firms, u3_2_2_kindsTold, u3_2_2_places, u3_2_2_crowds, u3_2_2_pipsLeft, u3_2_2_notHome⟩⟩ := u3
    replace Y : rY G A s (wRD G h h_bytes h_board u3_2_1_length u3_2_1_at u3_2_1_faultNumber u3_2_1_faultPlace ++ wIA G h_bytes 90 S1 ++ wBD G h_board h_board_firms h_board_kindsTold h_board_places h_board_crowds h_board_pipsLeft h_board_notHome u3_2_2_points u3_2_2_home u3_2_2_men u3_2_2_turn u3_2_2_thrower u3_2_2_cube u3_2_2_owner u3_2_2_firms u3_2_2_kindsTold u3_2_2_places u3_2_2_crowds u3_2_2_pipsLeft u3_2_2_notHome) H locs := Y
    replace hM := mS hM huu3
    show W p l e q_X4_readAll s m args below meth c H locs 0 0 Q (F0 m 11 ls [.int u3_1])
    refine r_if_ne (pc' := 14) X 16 5 rfl rfl (by decide) (fun c4 => ?_) (fun c4 => ?_)
    · replace hM := mE hM c4
      refine r_iconst (pc' := 17) X (1 : Int32) 8 rfl rfl rfl ?_
      refine r_istore_n (pc' := 18) (L' := [(1, .int (1 : Int32)), (0, .ref h)]) X hl rfl 9 rfl rfl (by decide) rfl (fun ls hl => ?_)
      refine lp_rule (I := fun (st5 : Int32 × RD × BD) => ∀ (H : Heap) (locs : List Loc) (ls : Array Slot), rY G A s (wRD G h h_bytes h_board st5.2.1.1 st5.2.1.2.1 st5.2.1.2.2.1 st5.2.1.2.2.2 ++ wIA G h_bytes 90 S1 ++ wBD G h_board h_board_firms h_board_kindsTold h_board_places h_board_crowds h_board_pipsLeft h_board_notHome st5.2.2.1 st5.2.2.2.1 st5.2.2.2.2.1 st5.2.2.2.2.2.1 st5.2.2.2.2.2.2.1 st5.2.2.2.2.2.2.2.1 st5.2.2.2.2.2.2.2.2.1 st5.2.2.2.2.2.2.2.2.2.1 st5.2.2.2.2.2.2.2.2.2.2.1 st5.2.2.2.2.2.2.2.2.2.2.2.1 st5.2.2.2.2.2.2.2.2.2.2.2.2.1 st5.2.2.2.2.2.2.2.2.2.2.2.2.2.1 st5.2.2.2.2.2.2.2.2.2.2.2.2.2.2) H locs → lv_has ls 2 [(0, .ref h), (1, .int st5.1)] → W p l e q_X4_readAll s m args below meth c H locs 0 0 Q (F0 m 18 ls [])) hne (fun rec5 st5 IH5 hM => ?_) _ _ hM _ _ _ Y (lv_sub hl [1, 0] rfl)
      intro H locs ls Y hl
      obtain ⟨st5_1, ⟨st5_2_1_length, st5_2_1_at, st5_2_1_faultNumber, st5_2_1_faultPlace⟩, ⟨st5_2_2_points, st5_2_2_home, st5_2_2_men, st5_2_2_turn, st5_2_2_thrower, st5_2_2_cube, st5_2_2_owner, st5_2_2_firms, st5_2_2_kindsTold, st5_2_2_places, st5_2_2_crowds, st5_2_2_pipsLeft, st5_2_2_notHome⟩⟩ := st5
      replace Y : rY G A s (wRD G h h_bytes h_board st5_2_1_length st5_2_1_at st5_2_1_faultNumber st5_2_1_faultPlace ++ wIA G h_bytes 90 S1 ++ wBD G h_board h_board_firms h_board_kindsTold h_board_places h_board_crowds h_board_pipsLeft h_board_notHome st5_2_2_points st5_2_2_home st5_2_2_men st5_2_2_turn st5_2_2_thrower st5_2_2_cube st5_2_2_owner st5_2_2_firms st5_2_2_kindsTold st5_2_2_places st5_2_2_crowds st5_2_2_pipsLeft st5_2_2_notHome) H locs := Y
      replace hl : lv_has ls 2 [(0, .ref h), (1, .int st5_1)] := hl
      refine r_iload_n (pc' := 19) X hl 1 rfl rfl 10 rfl rfl ?_
      refine r_bipush (pc' := 21) X (8 : Int32) 11 rfl rfl rfl ?_
      refine r_icmp_gt (pc' := 24) X 50 12 rfl rfl (by decide) (fun c6 => ?_) (fun c6 => ?_)
      · replace hM := mI hM c6
        refine r_iconst (pc' := 51) X (1 : Int32) 25 rfl rfl rfl ?_
        exact RT ((1 : Int32), (st5_2_1_length, st5_2_1_at, st5_2_1_faultNumber, st5_2_1_faultPlace), (st5_2_2_points, st5_2_2_home, st5_2_2_men, st5_2_2_turn, st5_2_2_thrower, st5_2_2_cube, st5_2_2_owner, st5_2_2_firms, st5_2_2_kindsTold, st5_2_2_places, st5_2_2_crowds, st5_2_2_pipsLeft, st5_2_2_notHome)) _ _ _ _ _ hM (Or.inr (Or.inl ⟨rfl, rfl, _, rfl, nb (Or.inr rfl)⟩)) (X.d (k := 26) rfl) Y
      · replace hM := mE hM c6
        refine r_aload_n (pc' := 25) X hl 0 rfl rfl 13 rfl rfl ?_
        refine r_get (pc' := 28) (v := .int st5_2_1_at) X Y 14 rfl rfl fRX4_34 0 rfl rfl ?_
        refine r_aload_n (pc' := 29) X hl 0 rfl rfl 15 rfl rfl ?_
        refine r_get (pc' := 32) (v := .int st5_2_1_length) X Y 16 rfl rfl fRX4_22 0 rfl rfl ?_
        refine r_icmp_ge (pc' := 35) X 50 17 rfl rfl (by decide) (fun c7 => ?_) (fun c7 => ?_)
        · replace hM := mI hM c7
          refine r_iconst (pc' := 51) X (1 : Int32) 25 rfl rfl rfl ?_
          exact RT ((1 : Int32), (st5_2_1_length, st5_2_1_at, st5_2_1_faultNumber, st5_2_1_faultPlace), (st5_2_2_points, st5_2_2_home, st5_2_2_men, st5_2_2_turn, st5_2_2_thrower, st5_2_2_cube, st5_2_2_owner, st5_2_2_firms, st5_2_2_kindsTold, st5_2_2_places, st5_2_2_crowds, st5_2_2_pipsLeft, st5_2_2_notHome)) _ _ _ _ _ hM (Or.inr (Or.inl ⟨rfl, rfl, _, rfl, nb (Or.inr rfl)⟩)) (X.d (k := 26) rfl) Y
        · replace hM := mE hM c7
          refine r_aload_n (pc' := 36) X hl 0 rfl rfl 18 rfl rfl ?_
          refine r_callV (pc' := 39) (As := []) (rest := []) (wr := ([] : va_W)) X Y 19 rfl rfl mRX4_31 (c_X4_readMan l G h h_bytes h_board h_board_firms h_board_kindsTold h_board_places h_board_crowds h_board_pipsLeft h_board_notHome st5_2_1_length st5_2_1_at st5_2_1_faultNumber st5_2_1_faultPlace S1 st5_2_2_points st5_2_2_home st5_2_2_men st5_2_2_turn st5_2_2_thrower st5_2_2_cube st5_2_2_owner st5_2_2_firms st5_2_2_kindsTold st5_2_2_places st5_2_2_crowds st5_2_2_pipsLeft st5_2_2_notHome) (mB hM hne) 0 rfl rfl [0, 1, 2, 3, 4, 5, 6, 7, 8] [] [0, 1, 2, 3, 4, 5, 6, 7, 8] rfl rfl ⟨rfl, rfl, rfl⟩ rfl (w2 := fun u8 => wRD G h h_bytes h_board u8.2.1.1 u8.2.1.2.1 u8.2.1.2.2.1 u8.2.1.2.2.2 ++ wIA G h_bytes 90 S1 ++ wBD G h_board h_board_firms h_board_kindsTold h_board_places h_board_crowds h_board_pipsLeft h_board_notHome u8.2.2.1 u8.2.2.2.1 u8.2.2.2.2.1 u8.2.2.2.2.2.1 u8.2.2.2.2.2.2.1 u8.2.2.2.2.2.2.2.1 u8.2.2.2.2.2.2.2.2.1 u8.2.2.2.2.2.2.2.2.2.1 u8.2.2.2.2.2.2.2.2.2.2.1 u8.2.2.2.2.2.2.2.2.2.2.2.1 u8.2.2.2.2.2.2.2.2.2.2.2.2.1 u8.2.2.2.2.2.2.2.2.2.2.2.2.2.1 u8.2.2.2.2.2.2.2.2.2.2.2.2.2.2) (fun _ => rfl) rfl (Nat.le_of_ble_eq_true rfl) ⟨rfl, rfl⟩ ⟨Nat.le_of_ble_eq_true rfl, Nat.le_of_ble_eq_true rfl⟩ ⟨Nat.zero_le _, Nat.zero_le _⟩ hl.1 (st' := fun u8 => [.int u8.1]) (fun _ => rfl) (fun u8 H locs huu8 Y => ?_)
          obtain ⟨u8_1, ⟨u8_2_1_length, u8_2_1_at, u8_2_1_faultNumber, u8_2_1_faultPlace⟩, ⟨u8_2_2_points, u8_2_2_home, u8_2_2_men, u8_2_2_turn, u8_2_2_thrower, u8_2_2_cube, u8_2_2_owner, u8_2_2_firms, u8_2_2_kindsTold, u8_2_2_places, u8_2_2_crowds, u8_2_2_pipsLeft, u8_2_2_notHome⟩⟩ := u8
          replace Y : rY G A s (wRD G h h_bytes h_board u8_2_1_length u8_2_1_at u8_2_1_faultNumber u8_2_1_faultPlace ++ wIA G h_bytes 90 S1 ++ wBD G h_board h_board_firms h_board_kindsTold h_board_places h_board_crowds h_board_pipsLeft h_board_notHome u8_2_2_points u8_2_2_home u8_2_2_men u8_2_2_turn u8_2_2_thrower u8_2_2_cube u8_2_2_owner u8_2_2_firms u8_2_2_kindsTold u8_2_2_places u8_2_2_crowds u8_2_2_pipsLeft u8_2_2_notHome) H locs := Y
          replace hM := mS hM huu8
          show W p l e q_X4_readAll s m args below meth c H locs 0 0 Q (F0 m 39 ls [.int u8_1])
          refine r_if_ne (pc' := 42) X 44 20 rfl rfl (by decide) (fun c9 => ?_) (fun c9 => ?_)
          · replace hM := mE hM c9
            refine r_iinc (pc' := 47) (L' := [(1, .int (st5_1 + (1 : Int32))), (0, .ref h)]) X (st5_1 + (1 : Int32)) hl 1 rfl rfl 23 rfl rfl (by decide) rfl (fun ls hl => ?_)
            refine r_goto X 18 24 rfl (by decide) ?_
            exact IH5 _ hM _ _ _ Y (lv_sub hl [1, 0] rfl)
          · replace hM := mI hM c9
            refine r_iconst (pc' := 43) X (0 : Int32) 21 rfl rfl rfl ?_
            exact RT ((0 : Int32), (u8_2_1_length, u8_2_1_at, u8_2_1_faultNumber, u8_2_1_faultPlace), (u8_2_2_points, u8_2_2_home, u8_2_2_men, u8_2_2_turn, u8_2_2_thrower, u8_2_2_cube, u8_2_2_owner, u8_2_2_firms, u8_2_2_kindsTold, u8_2_2_places, u8_2_2_crowds, u8_2_2_pipsLeft, u8_2_2_notHome)) _ _ _ _ _ hM (Or.inr (Or.inl ⟨rfl, rfl, _, rfl, nb (Or.inl rfl)⟩)) (X.d (k := 22) rfl) Y
    · replace hM := mI hM c4
      refine r_iconst (pc' := 15) X (0 : Int32) 6 rfl rfl rfl ?_
      exact RT ((0 : Int32), (u3_2_1_length, u3_2_1_at, u3_2_1_faultNumber, u3_2_1_faultPlace), (u3_2_2_points, u3_2_2_home, u3_2_2_men, u3_2_2_turn, u3_2_2_thrower, u3_2_2_cube, u3_2_2_owner, u3_2_2_firms, u3_2_2_kindsTold, u3_2_2_places, u3_2_2_crowds, u3_2_2_pipsLeft, u3_2_2_notHome)) _ _ _ _ _ hM (Or.inr (Or.inl ⟨rfl, rfl, _, rfl, nb (Or.inl rfl)⟩)) (X.d (k := 7) rfl) Y
