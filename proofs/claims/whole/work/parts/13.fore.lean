def M_X3_startFrom (S0 : FS) (S1 : BD) (S2 : BD) : Option (BD) :=
  ((M_X2_copyFrom S1 S2).bind (fun u1 => (some u1)))
def q_X3_startFrom : Room := { frames := 2, cells := 0, slots := 0, locals := 81 }
set_option maxHeartbeats 4000000 in
set_option maxRecDepth 100000 in
theorem c_X3_startFrom (l : Launch) (G : gT) (h a1 h_spare h_told a1_firms a1_kindsTold a1_places a1_crowds a1_pipsLeft a1_notHome h_spare_firms h_spare_kindsTold h_spare_places h_spare_crowds h_spare_pipsLeft h_spare_notHome : Nat) (S0 : Int32) (S1_points : Int32) (S1_home : Int32) (S1_men : Int32) (S1_turn : Int32) (S1_thrower : Int32) (S1_cube : Int32) (S1_owner : Int32) (S1_firms : Nat → Int32) (S1_kindsTold : Nat → Int32) (S1_places : Nat → Int32) (S1_crowds : Nat → Int32) (S1_pipsLeft : Nat → Int32) (S1_notHome : Nat → Int32) (S2_points : Int32) (S2_home : Int32) (S2_men : Int32) (S2_turn : Int32) (S2_thrower : Int32) (S2_cube : Int32) (S2_owner : Int32) (S2_firms : Nat → Int32) (S2_kindsTold : Nat → Int32) (S2_places : Nat → Int32) (S2_crowds : Nat → Int32) (S2_pipsLeft : Nat → Int32) (S2_notHome : Nat → Int32) : CT l G yX3_startFrom cX3_startFrom 2 none q_X3_startFrom [.ref h, .ref a1] (wFS G h h_spare h_told S0 ++ wBD G a1 a1_firms a1_kindsTold a1_places a1_crowds a1_pipsLeft a1_notHome S1_points S1_home S1_men S1_turn S1_thrower S1_cube S1_owner S1_firms S1_kindsTold S1_places S1_crowds S1_pipsLeft S1_notHome ++ wBD G h_spare h_spare_firms h_spare_kindsTold h_spare_places h_spare_crowds h_spare_pipsLeft h_spare_notHome S2_points S2_home S2_men S2_turn S2_thrower S2_cube S2_owner S2_firms S2_kindsTold S2_places S2_crowds S2_pipsLeft S2_notHome) (M_X3_startFrom S0 (S1_points, S1_home, S1_men, S1_turn, S1_thrower, S1_cube, S1_owner, S1_firms, S1_kindsTold, S1_places, S1_crowds, S1_pipsLeft, S1_notHome) (S2_points, S2_home, S2_men, S2_turn, S2_thrower, S2_cube, S2_owner, S2_firms, S2_kindsTold, S2_places, S2_crowds, S2_pipsLeft, S2_notHome)) (fun u => none) (fun u => wFS G h h_spare h_told S0 ++ wBD G a1 a1_firms a1_kindsTold a1_places a1_crowds a1_pipsLeft a1_notHome S1_points S1_home S1_men S1_turn S1_thrower S1_cube S1_owner S1_firms S1_kindsTold S1_places S1_crowds S1_pipsLeft S1_notHome ++ wBD G h_spare h_spare_firms h_spare_kindsTold h_spare_places h_spare_crowds h_spare_pipsLeft h_spare_notHome u.1 u.2.1 u.2.2.1 u.2.2.2.1 u.2.2.2.2.1 u.2.2.2.2.2.1 u.2.2.2.2.2.2.1 u.2.2.2.2.2.2.2.1 u.2.2.2.2.2.2.2.2.1 u.2.2.2.2.2.2.2.2.2.1 u.2.2.2.2.2.2.2.2.2.2.1 u.2.2.2.2.2.2.2.2.2.2.2.1 u.2.2.2.2.2.2.2.2.2.2.2.2) := by
  refine CT.of (P := PX3_startFrom) (by decide) dPX3_startFrom (Nat.le_of_ble_eq_true rfl) ?_
  intro p e s m args below meth c A Q ls hne X RT Y hl
  have hl : lv_has ls 2 [(0, .ref h), (1, .ref a1)] := hl
  generalize hM : M_X3_startFrom S0 (S1_points, S1_home, S1_men, S1_turn, S1_thrower, S1_cube, S1_owner, S1_firms, S1_kindsTold, S1_places, S1_crowds, S1_pipsLeft, S1_notHome) (S2_points, S2_home, S2_men, S2_turn, S2_thrower, S2_cube, S2_owner, S2_firms, S2_kindsTold, S2_places, S2_crowds, S2_pipsLeft, S2_notHome) = MM at hne RT
  unfold M_X3_startFrom at hM
  refine r_aload_n (pc' := 1) X hl 0 rfl rfl 0 rfl rfl ?_
  refine r_get (pc' := 4) (v := .ref h_spare) X Y 1 rfl rfl fRX3_12 0 rfl rfl ?_
  refine r_aload_n (pc' := 5) X hl 1 rfl rfl 2 rfl rfl ?_
  refine r_callV (pc' := 8) (As := [.ref a1]) (rest := []) (wr := (wFS G h h_spare h_told S0 : va_W)) X Y 3 rfl rfl mRX3_27 (c_X2_copyFrom l G h_spare a1 a1_firms a1_kindsTold a1_places a1_crowds a1_pipsLeft a1_notHome h_spare_firms h_spare_kindsTold h_spare_places h_spare_crowds h_spare_pipsLeft h_spare_notHome S1_points S1_home S1_men S1_turn S1_thrower S1_cube S1_owner S1_firms S1_kindsTold S1_places S1_crowds S1_pipsLeft S1_notHome S2_points S2_home S2_men S2_turn S2_thrower S2_cube S2_owner S2_firms S2_kindsTold S2_places S2_crowds S2_pipsLeft S2_notHome) (mB hM hne) 8 rfl rfl [1, 2, 3, 4, 5, 6, 7, 8, 9, 10, 11, 12, 13, 14] [0] [0, 1, 2, 3, 4, 5, 6, 7, 8, 9, 10, 11, 12, 13, 14] rfl rfl ⟨rfl, rfl, rfl⟩ rfl (w2 := fun u1 => wFS G h h_spare h_told S0 ++ wBD G a1 a1_firms a1_kindsTold a1_places a1_crowds a1_pipsLeft a1_notHome S1_points S1_home S1_men S1_turn S1_thrower S1_cube S1_owner S1_firms S1_kindsTold S1_places S1_crowds S1_pipsLeft S1_notHome ++ wBD G h_spare h_spare_firms h_spare_kindsTold h_spare_places h_spare_crowds h_spare_pipsLeft h_spare_notHome u1.1 u1.2.1 u1.2.2.1 u1.2.2.2.1 u1.2.2.2.2.1 u1.2.2.2.2.2.1 u1.2.2.2.2.2.2.1 u1.2.2.2.2.2.2.2.1 u1.2.2.2.2.2.2.2.2.1 u1.2.2.2.2.2.2.2.2.2.1 u1.2.2.2.2.2.2.2.2.2.2.1 u1.2.2.2.2.2.2.2.2.2.2.2.1 u1.2.2.2.2.2.2.2.2.2.2.2.2) (fun _ => rfl) rfl (Nat.le_of_ble_eq_true rfl) ⟨rfl, rfl⟩ ⟨Nat.le_of_ble_eq_true rfl, Nat.le_of_ble_eq_true rfl⟩ ⟨Nat.zero_le _, Nat.zero_le _⟩ hl.1 (st' := fun u1 => []) (fun _ => rfl) (fun u1 H locs huu1 Y => ?_)
  obtain ⟨u1_points, u1_home, u1_men, u1_turn, u1_thrower, u1_cube, u1_owner, u1_firms, u1_kindsTold, u1_places, u1_crowds, u1_pipsLeft, u1_notHome⟩ := u1
  replace Y : rY G A s (wFS G h h_spare h_told S0 ++ wBD G a1 a1_firms a1_kindsTold a1_places a1_crowds a1_pipsLeft a1_notHome S1_points S1_home S1_men S1_turn S1_thrower S1_cube S1_owner S1_firms S1_kindsTold S1_places S1_crowds S1_pipsLeft S1_notHome ++ wBD G h_spare h_spare_firms h_spare_kindsTold h_spare_places h_spare_crowds h_spare_pipsLeft h_spare_notHome u1_points u1_home u1_men u1_turn u1_thrower u1_cube u1_owner u1_firms u1_kindsTold u1_places u1_crowds u1_pipsLeft u1_notHome) H locs := Y
  replace hM := mS hM huu1
  show W p l e q_X3_startFrom s m args below meth c H locs 0 0 Q (F0 m 8 ls [])
  exact RT (u1_points, u1_home, u1_men, u1_turn, u1_thrower, u1_cube, u1_owner, u1_firms, u1_kindsTold, u1_places, u1_crowds, u1_pipsLeft, u1_notHome) _ _ _ _ _ hM (Or.inr (Or.inr (Or.inr (Or.inl ⟨rfl, rfl, rfl⟩)))) (X.d (k := 4) rfl) Y

def M_X3_worthTo_0 (S0 : FS) (S1 : BD) (i1 : Int32) (i2 : Int32) : Option (Int32 × FS × BD) :=
  (if 0 < i2 then ((lp (σ := Int32 × Int32 × Int32 × BD) (β := Int32 × Int32 × BD) (fun rec2 st2 => (if (6 : Int32) < st2.2.1 then (some (st2.1, st2.2.2.1, st2.2.2.2)) else none)) 1000000 ((0 : Int32), (1 : Int32), S0, S1)).bind (fun b2 => (some ((-b2.1), b2.2.1, b2.2.2)))) else ((M_X2_lead S1 i1).bind (fun u4 => (some (u4, S0, S1)))))
def q_X3_worthTo_0 : Room := { frames := 2, cells := 0, slots := 0, locals := 81 }
set_option maxHeartbeats 4000000 in
set_option maxRecDepth 100000 in
theorem c_X3_worthTo_0 (l : Launch) (G : gT) (h h_spare h_told h_spare_firms h_spare_kindsTold h_spare_places h_spare_crowds h_spare_pipsLeft h_spare_notHome : Nat) (S0 : Int32) (S1_points : Int32) (S1_home : Int32) (S1_men : Int32) (S1_turn : Int32) (S1_thrower : Int32) (S1_cube : Int32) (S1_owner : Int32) (S1_firms : Nat → Int32) (S1_kindsTold : Nat → Int32) (S1_places : Nat → Int32) (S1_crowds : Nat → Int32) (S1_pipsLeft : Nat → Int32) (S1_notHome : Nat → Int32) (i1 : Int32) (i2 : Int32) : CT l G yX3_worthTo cX3_worthTo 5 (some .int) q_X3_worthTo_0 [.ref h, .int i1, .int i2] (wFS G h h_spare h_told S0 ++ wBD G h_spare h_spare_firms h_spare_kindsTold h_spare_places h_spare_crowds h_spare_pipsLeft h_spare_notHome S1_points S1_home S1_men S1_turn S1_thrower S1_cube S1_owner S1_firms S1_kindsTold S1_places S1_crowds S1_pipsLeft S1_notHome) (M_X3_worthTo_0 S0 (S1_points, S1_home, S1_men, S1_turn, S1_thrower, S1_cube, S1_owner, S1_firms, S1_kindsTold, S1_places, S1_crowds, S1_pipsLeft, S1_notHome) i1 i2) (fun u => some (.int u.1)) (fun u => wFS G h h_spare h_told u.2.1 ++ wBD G h_spare h_spare_firms h_spare_kindsTold h_spare_places h_spare_crowds h_spare_pipsLeft h_spare_notHome u.2.2.1 u.2.2.2.1 u.2.2.2.2.1 u.2.2.2.2.2.1 u.2.2.2.2.2.2.1 u.2.2.2.2.2.2.2.1 u.2.2.2.2.2.2.2.2.1 u.2.2.2.2.2.2.2.2.2.1 u.2.2.2.2.2.2.2.2.2.2.1 u.2.2.2.2.2.2.2.2.2.2.2.1 u.2.2.2.2.2.2.2.2.2.2.2.2.1 u.2.2.2.2.2.2.2.2.2.2.2.2.2.1 u.2.2.2.2.2.2.2.2.2.2.2.2.2.2) := by
  refine CT.of (P := PX3_worthTo) (by decide) dPX3_worthTo (Nat.le_of_ble_eq_true rfl) ?_
  intro p e s m args below meth c A Q ls hne X RT Y hl
  have hl : lv_has ls 5 [(0, .ref h), (1, .int i1), (2, .int i2)] := hl
  generalize hM : M_X3_worthTo_0 S0 (S1_points, S1_home, S1_men, S1_turn, S1_thrower, S1_cube, S1_owner, S1_firms, S1_kindsTold, S1_places, S1_crowds, S1_pipsLeft, S1_notHome) i1 i2 = MM at hne RT
  unfold M_X3_worthTo_0 at hM
  refine r_iload_n (pc' := 1) X hl 2 rfl rfl 0 rfl rfl ?_
  refine r_if_gt (pc' := 4) X 13 1 rfl rfl (by decide) (fun c1 => ?_) (fun c1 => ?_)
  · replace hM := mI hM c1
    refine r_iconst (pc' := 14) X (0 : Int32) 7 rfl rfl rfl ?_
    refine r_istore_n (pc' := 15) (L' := [(3, .int (0 : Int32)), (0, .ref h), (1, .int i1), (2, .int i2)]) X hl rfl 8 rfl rfl (by decide) rfl (fun ls hl => ?_)
    refine r_iconst (pc' := 16) X (1 : Int32) 9 rfl rfl rfl ?_
    refine r_istore (pc' := 18) (L' := [(4, .int (1 : Int32)), (3, .int (0 : Int32)), (0, .ref h), (1, .int i1), (2, .int i2)]) X hl 10 rfl rfl (by decide) rfl (fun ls hl => ?_)
    obtain ⟨LL2, hL2, hne2, hX2⟩ := mL hM hne
    have KX2 : ∀ (b2_1 : Int32) (b2_2_1 : Int32) (b2_2_2_points : Int32) (b2_2_2_home : Int32) (b2_2_2_men : Int32) (b2_2_2_turn : Int32) (b2_2_2_thrower : Int32) (b2_2_2_cube : Int32) (b2_2_2_owner : Int32) (b2_2_2_firms : Nat → Int32) (b2_2_2_kindsTold : Nat → Int32) (b2_2_2_places : Nat → Int32) (b2_2_2_crowds : Nat → Int32) (b2_2_2_pipsLeft : Nat → Int32) (b2_2_2_notHome : Nat → Int32) (H : Heap) (locs : List Loc) (ls : Array Slot), some (b2_1, b2_2_1, (b2_2_2_points, b2_2_2_home, b2_2_2_men, b2_2_2_turn, b2_2_2_thrower, b2_2_2_cube, b2_2_2_owner, b2_2_2_firms, b2_2_2_kindsTold, b2_2_2_places, b2_2_2_crowds, b2_2_2_pipsLeft, b2_2_2_notHome)) = LL2 → rY G A s (wFS G h h_spare h_told b2_2_1 ++ wBD G h_spare h_spare_firms h_spare_kindsTold h_spare_places h_spare_crowds h_spare_pipsLeft h_spare_notHome b2_2_2_points b2_2_2_home b2_2_2_men b2_2_2_turn b2_2_2_thrower b2_2_2_cube b2_2_2_owner b2_2_2_firms b2_2_2_kindsTold b2_2_2_places b2_2_2_crowds b2_2_2_pipsLeft b2_2_2_notHome) H locs → lv_has ls 5 [(3, .int b2_1)] → W p l e q_X3_worthTo_0 s m args below meth c H locs 0 0 Q (F0 m 46 ls []) := by
      intro b2_1 b2_2_1 b2_2_2_points b2_2_2_home b2_2_2_men b2_2_2_turn b2_2_2_thrower b2_2_2_cube b2_2_2_owner b2_2_2_firms b2_2_2_kindsTold b2_2_2_places b2_2_2_crowds b2_2_2_pipsLeft b2_2_2_notHome H locs ls hM Y hl
      replace hM := hX2 _ hM
      refine r_iload_n (pc' := 47) X hl 0 rfl rfl 28 rfl rfl ?_
      refine r_ineg (pc' := 48) X 29 rfl rfl ?_
      exact RT ((-b2_1), b2_2_1, (b2_2_2_points, b2_2_2_home, b2_2_2_men, b2_2_2_turn, b2_2_2_thrower, b2_2_2_cube, b2_2_2_owner, b2_2_2_firms, b2_2_2_kindsTold, b2_2_2_places, b2_2_2_crowds, b2_2_2_pipsLeft, b2_2_2_notHome)) _ _ _ _ _ hM (Or.inl ⟨rfl, rfl, _, rfl⟩) (X.d (k := 30) rfl) Y
    refine lp_rule (I := fun (st2 : Int32 × Int32 × Int32 × BD) => ∀ (H : Heap) (locs : List Loc) (ls : Array Slot), rY G A s (wFS G h h_spare h_told st2.2.2.1 ++ wBD G h_spare h_spare_firms h_spare_kindsTold h_spare_places h_spare_crowds h_spare_pipsLeft h_spare_notHome st2.2.2.2.1 st2.2.2.2.2.1 st2.2.2.2.2.2.1 st2.2.2.2.2.2.2.1 st2.2.2.2.2.2.2.2.1 st2.2.2.2.2.2.2.2.2.1 st2.2.2.2.2.2.2.2.2.2.1 st2.2.2.2.2.2.2.2.2.2.2.1 st2.2.2.2.2.2.2.2.2.2.2.2.1 st2.2.2.2.2.2.2.2.2.2.2.2.2.1 st2.2.2.2.2.2.2.2.2.2.2.2.2.2.1 st2.2.2.2.2.2.2.2.2.2.2.2.2.2.2.1 st2.2.2.2.2.2.2.2.2.2.2.2.2.2.2.2) H locs → lv_has ls 5 [(0, .ref h), (1, .int i1), (2, .int i2), (3, .int st2.1), (4, .int st2.2.1)] → W p l e q_X3_worthTo_0 s m args below meth c H locs 0 0 Q (F0 m 18 ls [])) hne2 (fun rec2 st2 IH2 hM => ?_) _ _ hL2 _ _ _ Y (lv_sub hl [2, 3, 4, 1, 0] rfl)
    intro H locs ls Y hl
    obtain ⟨st2_1, st2_2_1, st2_2_2_1, ⟨st2_2_2_2_points, st2_2_2_2_home, st2_2_2_2_men, st2_2_2_2_turn, st2_2_2_2_thrower, st2_2_2_2_cube, st2_2_2_2_owner, st2_2_2_2_firms, st2_2_2_2_kindsTold, st2_2_2_2_places, st2_2_2_2_crowds, st2_2_2_2_pipsLeft, st2_2_2_2_notHome⟩⟩ := st2
    replace Y : rY G A s (wFS G h h_spare h_told st2_2_2_1 ++ wBD G h_spare h_spare_firms h_spare_kindsTold h_spare_places h_spare_crowds h_spare_pipsLeft h_spare_notHome st2_2_2_2_points st2_2_2_2_home st2_2_2_2_men st2_2_2_2_turn st2_2_2_2_thrower st2_2_2_2_cube st2_2_2_2_owner st2_2_2_2_firms st2_2_2_2_kindsTold st2_2_2_2_places st2_2_2_2_crowds st2_2_2_2_pipsLeft st2_2_2_2_notHome) H locs := Y
    replace hl : lv_has ls 5 [(0, .ref h), (1, .int i1), (2, .int i2), (3, .int st2_1), (4, .int st2_2_1)] := hl
    refine r_iload (pc' := 20) X hl 4 rfl 11 rfl rfl ?_
    refine r_bipush (pc' := 22) X (6 : Int32) 12 rfl rfl rfl ?_
    refine r_icmp_gt (pc' := 25) X 46 13 rfl rfl (by decide) (fun c3 => ?_) (fun c3 => ?_)
    · replace hM := mI hM c3
      exact KX2 st2_1 st2_2_2_1 st2_2_2_2_points st2_2_2_2_home st2_2_2_2_men st2_2_2_2_turn st2_2_2_2_thrower st2_2_2_2_cube st2_2_2_2_owner st2_2_2_2_firms st2_2_2_2_kindsTold st2_2_2_2_places st2_2_2_2_crowds st2_2_2_2_pipsLeft st2_2_2_2_notHome _ _ _ hM Y (lv_sub hl [3] rfl)
    · replace hM := mE hM c3
      refine r_iload_n (pc' := 26) X hl 3 rfl rfl 14 rfl rfl ?_
      refine r_aload_n (pc' := 27) X hl 0 rfl rfl 15 rfl rfl ?_
      refine r_iconst (pc' := 28) X (1 : Int32) 16 rfl rfl rfl ?_
      refine r_iload_n (pc' := 29) X hl 1 rfl rfl 17 rfl rfl ?_
      refine r_isub (pc' := 30) X 18 rfl rfl ?_
      refine r_iload (pc' := 32) X hl 4 rfl 19 rfl rfl ?_
      refine r_iload_n (pc' := 33) X hl 2 rfl rfl 20 rfl rfl ?_
      refine r_iconst (pc' := 34) X (1 : Int32) 21 rfl rfl rfl ?_
      refine r_isub (pc' := 35) X 22 rfl rfl ?_
      exact absurd hM.symm hne2
  · replace hM := mE hM c1
    refine r_aload_n (pc' := 5) X hl 0 rfl rfl 2 rfl rfl ?_
    refine r_get (pc' := 8) (v := .ref h_spare) X Y 3 rfl rfl fRX3_12 0 rfl rfl ?_
    refine r_iload_n (pc' := 9) X hl 1 rfl rfl 4 rfl rfl ?_
    refine r_callV0 (pc' := 12) (As := [.int i1]) (rest := []) X Y 5 rfl rfl mRX3_59 (c_X2_lead l G h_spare h_spare_firms h_spare_kindsTold h_spare_places h_spare_crowds h_spare_pipsLeft h_spare_notHome S1_points S1_home S1_men S1_turn S1_thrower S1_cube S1_owner S1_firms S1_kindsTold S1_places S1_crowds S1_pipsLeft S1_notHome i1) (mB hM hne) 1 rfl rfl [1, 2, 3, 4, 5, 6, 7] rfl rfl rfl (Nat.le_of_ble_eq_true rfl) ⟨rfl, rfl⟩ ⟨Nat.le_of_ble_eq_true rfl, Nat.le_of_ble_eq_true rfl⟩ ⟨Nat.zero_le _, Nat.zero_le _⟩ hl.1 (st' := fun u4 => [.int u4]) (fun _ => rfl) (fun u4 H locs huu4 Y => ?_)
    replace hM := mS hM huu4
    exact RT (u4, S0, (S1_points, S1_home, S1_men, S1_turn, S1_thrower, S1_cube, S1_owner, S1_firms, S1_kindsTold, S1_places, S1_crowds, S1_pipsLeft, S1_notHome)) _ _ _ _ _ hM (Or.inl ⟨rfl, rfl, _, rfl⟩) (X.d (k := 6) rfl) Y

def M_X3_worthBehind_0 (S0 : FS) (S1 : BD) (i1 : Int32) (i2 : Int32) (i3 : Int32) : Option (Int32 × FS × BD) :=
  (if inb i1 8 = true then ((M_X2_go S1 i1 i2).bind (fun u2 => ((M_X3_worthTo_0 S0 u2.2 (((bd_firms u2.2) (i1).toNatClampNeg)) i3).bind (fun u3 => ((M_X2_put u3.2.2 i1 (((bd_places S1) (i1).toNatClampNeg))).bind (fun u4 => (if u2.1 = (-1000000 : Int32) then (some (u3.1, u3.2.1, u4)) else ((M_X2_put u4 u2.1 (((bd_places u2.2) (i1).toNatClampNeg))).bind (fun u6 => (some (u3.1, u3.2.1, u6))))))))))) else none)
def q_X3_worthBehind_0 : Room := { frames := 5, cells := 0, slots := 0, locals := 152 }
set_option maxHeartbeats 4000000 in
set_option maxRecDepth 100000 in
theorem c_X3_worthBehind_0 (l : Launch) (G : gT) (h h_spare h_told h_spare_firms h_spare_kindsTold h_spare_places h_spare_crowds h_spare_pipsLeft h_spare_notHome : Nat) (S0 : Int32) (S1_points : Int32) (S1_home : Int32) (S1_men : Int32) (S1_turn : Int32) (S1_thrower : Int32) (S1_cube : Int32) (S1_owner : Int32) (S1_firms : Nat → Int32) (S1_kindsTold : Nat → Int32) (S1_places : Nat → Int32) (S1_crowds : Nat → Int32) (S1_pipsLeft : Nat → Int32) (S1_notHome : Nat → Int32) (i1 : Int32) (i2 : Int32) (i3 : Int32) : CT l G yX3_worthBehind cX3_worthBehind 8 (some .int) q_X3_worthBehind_0 [.ref h, .int i1, .int i2, .int i3] (wFS G h h_spare h_told S0 ++ wBD G h_spare h_spare_firms h_spare_kindsTold h_spare_places h_spare_crowds h_spare_pipsLeft h_spare_notHome S1_points S1_home S1_men S1_turn S1_thrower S1_cube S1_owner S1_firms S1_kindsTold S1_places S1_crowds S1_pipsLeft S1_notHome) (M_X3_worthBehind_0 S0 (S1_points, S1_home, S1_men, S1_turn, S1_thrower, S1_cube, S1_owner, S1_firms, S1_kindsTold, S1_places, S1_crowds, S1_pipsLeft, S1_notHome) i1 i2 i3) (fun u => some (.int u.1)) (fun u => wFS G h h_spare h_told u.2.1 ++ wBD G h_spare h_spare_firms h_spare_kindsTold h_spare_places h_spare_crowds h_spare_pipsLeft h_spare_notHome u.2.2.1 u.2.2.2.1 u.2.2.2.2.1 u.2.2.2.2.2.1 u.2.2.2.2.2.2.1 u.2.2.2.2.2.2.2.1 u.2.2.2.2.2.2.2.2.1 u.2.2.2.2.2.2.2.2.2.1 u.2.2.2.2.2.2.2.2.2.2.1 u.2.2.2.2.2.2.2.2.2.2.2.1 u.2.2.2.2.2.2.2.2.2.2.2.2.1 u.2.2.2.2.2.2.2.2.2.2.2.2.2.1 u.2.2.2.2.2.2.2.2.2.2.2.2.2.2) := by
  refine CT.of (P := PX3_worthBehind) (by decide) dPX3_worthBehind (Nat.le_of_ble_eq_true rfl) ?_
  intro p e s m args below meth c A Q ls hne X RT Y hl
  have hl : lv_has ls 8 [(0, .ref h), (1, .int i1), (2, .int i2), (3, .int i3)] := hl
  generalize hM : M_X3_worthBehind_0 S0 (S1_points, S1_home, S1_men, S1_turn, S1_thrower, S1_cube, S1_owner, S1_firms, S1_kindsTold, S1_places, S1_crowds, S1_pipsLeft, S1_notHome) i1 i2 i3 = MM at hne RT
  unfold M_X3_worthBehind_0 at hM
  refine r_aload_n (pc' := 1) X hl 0 rfl rfl 0 rfl rfl ?_
  refine r_get (pc' := 4) (v := .ref h_spare) X Y 1 rfl rfl fRX3_12 0 rfl rfl ?_
  refine r_getN (pc' := 7) (v := .ref h_spare_places) X Y 2 rfl rfl fRX3_49 1 rfl rfl ?_
  refine r_iload_n (pc' := 8) X hl 1 rfl rfl 3 rfl rfl ?_
  obtain ⟨g1, hM⟩ := mG hM hne
  refine r_iald (pc' := 9) X Y 4 rfl rfl 4 rfl (vin g1) ?_
  refine r_istore (pc' := 11) (L' := [(4, .int (S1_places (i1).toNatClampNeg)), (0, .ref h), (1, .int i1), (2, .int i2), (3, .int i3)]) X hl 5 rfl rfl (by decide) rfl (fun ls hl => ?_)
  refine r_aload_n (pc' := 12) X hl 1 rfl rfl 6 rfl rfl ?_
  refine r_get (pc' := 15) (v := .ref h_spare) X Y 7 rfl rfl fRX3_12 0 rfl rfl ?_
  refine r_iload_n (pc' := 16) X hl 2 rfl rfl 8 rfl rfl ?_
  refine r_iload_n (pc' := 17) X hl 3 rfl rfl 9 rfl rfl ?_
  refine r_callV (pc' := 20) (As := [.int i1, .int i2]) (rest := []) (wr := (wFS G h h_spare h_told S0 : va_W)) X Y 10 rfl rfl mRX3_52 (c_X2_go l G h_spare h_spare_firms h_spare_kindsTold h_spare_places h_spare_crowds h_spare_pipsLeft h_spare_notHome S1_points S1_home S1_men S1_turn S1_thrower S1_cube S1_owner S1_firms S1_kindsTold S1_places S1_crowds S1_pipsLeft S1_notHome i1 i2) (mB hM hne) 1 rfl rfl [1, 2, 3, 4, 5, 6, 7] [0] [0, 1, 2, 3, 4, 5, 6, 7] rfl rfl ⟨rfl, rfl, rfl⟩ rfl (w2 := fun u2 => wFS G h h_spare h_told S0 ++ wBD G h_spare h_spare_firms h_spare_kindsTold h_spare_places h_spare_crowds h_spare_pipsLeft h_spare_notHome u2.2.1 u2.2.2.1 u2.2.2.2.1 u2.2.2.2.2.1 u2.2.2.2.2.2.1 u2.2.2.2.2.2.2.1 u2.2.2.2.2.2.2.2.1 u2.2.2.2.2.2.2.2.2.1 u2.2.2.2.2.2.2.2.2.2.1 u2.2.2.2.2.2.2.2.2.2.2.1 u2.2.2.2.2.2.2.2.2.2.2.2.1 u2.2.2.2.2.2.2.2.2.2.2.2.2.1 u2.2.2.2.2.2.2.2.2.2.2.2.2.2) (fun _ => rfl) rfl (Nat.le_of_ble_eq_true rfl) ⟨rfl, rfl⟩ ⟨Nat.le_of_ble_eq_true rfl, Nat.le_of_ble_eq_true rfl⟩ ⟨Nat.zero_le _, Nat.zero_le _⟩ hl.1 (st' := fun u2 => [.int u2.1]) (fun _ => rfl) (fun u2 H locs huu2 Y => ?_)
  obtain ⟨u2_1, ⟨u2_2_points, u2_2_home, u2_2_men, u2_2_turn, u2_2_thrower, u2_2_cube, u2_2_owner, u2_2_firms, u2_2_kindsTold, u2_2_places, u2_2_crowds, u2_2_pipsLeft, u2_2_notHome⟩⟩ := u2
  replace Y : rY G A s (wFS G h h_spare h_told S0 ++ wBD G h_spare h_spare_firms h_spare_kindsTold h_spare_places h_spare_crowds h_spare_pipsLeft h_spare_notHome u2_2_points u2_2_home u2_2_men u2_2_turn u2_2_thrower u2_2_cube u2_2_owner u2_2_firms u2_2_kindsTold u2_2_places u2_2_crowds u2_2_pipsLeft u2_2_notHome) H locs := Y
  replace hM := mS hM huu2
  show W p l e q_X3_worthBehind_0 s m args below meth c H locs 0 0 Q (F0 m 20 ls [.int u2_1])
  refine r_istore (pc' := 22) (L' := [(5, .int u2_1), (4, .int (S1_places (i1).toNatClampNeg)), (0, .ref h), (1, .int i1), (2, .int i2), (3, .int i3)]) X hl 11 rfl rfl (by decide) rfl (fun ls hl => ?_)
  refine r_aload_n (pc' := 23) X hl 2 rfl rfl 12 rfl rfl ?_
  refine r_get (pc' := 26) (v := .ref h_spare) X Y 13 rfl rfl fRX3_12 0 rfl rfl ?_
  refine r_getN (pc' := 29) (v := .ref h_spare_places) X Y 14 rfl rfl fRX3_49 1 rfl rfl ?_
  refine r_iload_n (pc' := 30) X hl 3 rfl rfl 15 rfl rfl ?_
  refine r_iald (pc' := 31) X Y 16 rfl rfl 4 rfl (vin g1) ?_
  refine r_istore (pc' := 33) (L' := [(6, .int (u2_2_places (i1).toNatClampNeg)), (5, .int u2_1), (4, .int (S1_places (i1).toNatClampNeg)), (0, .ref h), (1, .int i1), (2, .int i2), (3, .int i3)]) X hl 17 rfl rfl (by decide) rfl (fun ls hl => ?_)
  refine r_aload_n (pc' := 34) X hl 3 rfl rfl 18 rfl rfl ?_
  refine r_aload_n (pc' := 35) X hl 3 rfl rfl 19 rfl rfl ?_
  refine r_get (pc' := 38) (v := .ref h_spare) X Y 20 rfl rfl fRX3_12 0 rfl rfl ?_
  refine r_getN (pc' := 41) (v := .ref h_spare_firms) X Y 21 rfl rfl fRX3_34 1 rfl rfl ?_
  refine r_iload_n (pc' := 42) X hl 4 rfl rfl 22 rfl rfl ?_
  refine r_iald (pc' := 43) X Y 23 rfl rfl 2 rfl (vin g1) ?_
  refine r_iload_n (pc' := 44) X hl 6 rfl rfl 24 rfl rfl ?_
  refine r_callV (pc' := 47) (As := [.int (u2_2_firms (i1).toNatClampNeg), .int i3]) (rest := []) (wr := ([] : va_W)) X Y 25 rfl rfl mRX3_45 (c_X3_worthTo_0 l G h h_spare h_told h_spare_firms h_spare_kindsTold h_spare_places h_spare_crowds h_spare_pipsLeft h_spare_notHome S0 u2_2_points u2_2_home u2_2_men u2_2_turn u2_2_thrower u2_2_cube u2_2_owner u2_2_firms u2_2_kindsTold u2_2_places u2_2_crowds u2_2_pipsLeft u2_2_notHome ((u2_2_firms (i1).toNatClampNeg)) i3) (mB hM hne) 0 rfl rfl [0, 1, 2, 3, 4, 5, 6, 7] [] [0, 1, 2, 3, 4, 5, 6, 7] rfl rfl ⟨rfl, rfl, rfl⟩ rfl (w2 := fun u3 => wFS G h h_spare h_told u3.2.1 ++ wBD G h_spare h_spare_firms h_spare_kindsTold h_spare_places h_spare_crowds h_spare_pipsLeft h_spare_notHome u3.2.2.1 u3.2.2.2.1 u3.2.2.2.2.1 u3.2.2.2.2.2.1 u3.2.2.2.2.2.2.1 u3.2.2.2.2.2.2.2.1 u3.2.2.2.2.2.2.2.2.1 u3.2.2.2.2.2.2.2.2.2.1 u3.2.2.2.2.2.2.2.2.2.2.1 u3.2.2.2.2.2.2.2.2.2.2.2.1 u3.2.2.2.2.2.2.2.2.2.2.2.2.1 u3.2.2.2.2.2.2.2.2.2.2.2.2.2.1 u3.2.2.2.2.2.2.2.2.2.2.2.2.2.2) (fun _ => rfl) rfl (Nat.le_of_ble_eq_true rfl) ⟨rfl, rfl⟩ ⟨Nat.le_of_ble_eq_true rfl, Nat.le_of_ble_eq_true rfl⟩ ⟨Nat.zero_le _, Nat.zero_le _⟩ hl.1 (st' := fun u3 => [.int u3.1]) (fun _ => rfl) (fun u3 H locs huu3 Y => ?_)
  obtain ⟨u3_1, u3_2_1, ⟨u3_2_2_points, u3_2_2_home, u3_2_2_men, u3_2_2_turn, u3_2_2_thrower, u3_2_2_cube, u3_2_2_owner, u3_2_2_firms, u3_2_2_kindsTold, u3_2_2_places, u3_2_2_crowds, u3_2_2_pipsLeft, u3_2_2_notHome⟩⟩ := u3
  replace Y : rY G A s (wFS G h h_spare h_told u3_2_1 ++ wBD G h_spare h_spare_firms h_spare_kindsTold h_spare_places h_spare_crowds h_spare_pipsLeft h_spare_notHome u3_2_2_points u3_2_2_home u3_2_2_men u3_2_2_turn u3_2_2_thrower u3_2_2_cube u3_2_2_owner u3_2_2_firms u3_2_2_kindsTold u3_2_2_places u3_2_2_crowds u3_2_2_pipsLeft u3_2_2_notHome) H locs := Y
  replace hM := mS hM huu3
  show W p l e q_X3_worthBehind_0 s m args below meth c H locs 0 0 Q (F0 m 47 ls [.int u3_1])
  refine r_istore (pc' := 49) (L' := [(7, .int u3_1), (6, .int (u2_2_places (i1).toNatClampNeg)), (5, .int u2_1), (4, .int (S1_places (i1).toNatClampNeg)), (0, .ref h), (1, .int i1), (2, .int i2), (3, .int i3)]) X hl 26 rfl rfl (by decide) rfl (fun ls hl => ?_)
  refine r_aload_n (pc' := 50) X hl 4 rfl rfl 27 rfl rfl ?_
  refine r_get (pc' := 53) (v := .ref h_spare) X Y 28 rfl rfl fRX3_12 0 rfl rfl ?_
  refine r_iload_n (pc' := 54) X hl 5 rfl rfl 29 rfl rfl ?_
  refine r_iload (pc' := 56) X hl 3 rfl 30 rfl rfl ?_
  refine r_callV (pc' := 59) (As := [.int i1, .int (S1_places (i1).toNatClampNeg)]) (rest := []) (wr := (wFS G h h_spare h_told u3_2_1 : va_W)) X Y 31 rfl rfl mRX3_55 (c_X2_put l G h_spare h_spare_firms h_spare_kindsTold h_spare_places h_spare_crowds h_spare_pipsLeft h_spare_notHome u3_2_2_points u3_2_2_home u3_2_2_men u3_2_2_turn u3_2_2_thrower u3_2_2_cube u3_2_2_owner u3_2_2_firms u3_2_2_kindsTold u3_2_2_places u3_2_2_crowds u3_2_2_pipsLeft u3_2_2_notHome i1 ((S1_places (i1).toNatClampNeg))) (mB hM hne) 1 rfl rfl [1, 2, 3, 4, 5, 6, 7] [0] [0, 1, 2, 3, 4, 5, 6, 7] rfl rfl ⟨rfl, rfl, rfl⟩ rfl (w2 := fun u4 => wFS G h h_spare h_told u3_2_1 ++ wBD G h_spare h_spare_firms h_spare_kindsTold h_spare_places h_spare_crowds h_spare_pipsLeft h_spare_notHome u4.1 u4.2.1 u4.2.2.1 u4.2.2.2.1 u4.2.2.2.2.1 u4.2.2.2.2.2.1 u4.2.2.2.2.2.2.1 u4.2.2.2.2.2.2.2.1 u4.2.2.2.2.2.2.2.2.1 u4.2.2.2.2.2.2.2.2.2.1 u4.2.2.2.2.2.2.2.2.2.2.1 u4.2.2.2.2.2.2.2.2.2.2.2.1 u4.2.2.2.2.2.2.2.2.2.2.2.2) (fun _ => rfl) rfl (Nat.le_of_ble_eq_true rfl) ⟨rfl, rfl⟩ ⟨Nat.le_of_ble_eq_true rfl, Nat.le_of_ble_eq_true rfl⟩ ⟨Nat.zero_le _, Nat.zero_le _⟩ hl.1 (st' := fun u4 => []) (fun _ => rfl) (fun u4 H locs huu4 Y => ?_)
  obtain ⟨u4_points, u4_home, u4_men, u4_turn, u4_thrower, u4_cube, u4_owner, u4_firms, u4_kindsTold, u4_places, u4_crowds, u4_pipsLeft, u4_notHome⟩ := u4
  replace Y : rY G A s (wFS G h h_spare h_told u3_2_1 ++ wBD G h_spare h_spare_firms h_spare_kindsTold h_spare_places h_spare_crowds h_spare_pipsLeft h_spare_notHome u4_points u4_home u4_men u4_turn u4_thrower u4_cube u4_owner u4_firms u4_kindsTold u4_places u4_crowds u4_pipsLeft u4_notHome) H locs := Y
  replace hM := mS hM huu4
  show W p l e q_X3_worthBehind_0 s m args below meth c H locs 0 0 Q (F0 m 59 ls [])
  refine r_iload (pc' := 61) X hl 2 rfl 32 rfl rfl ?_
  refine r_ldc (pc' := 63) X mw154 33 rfl rfl ?_
  refine r_icmp_eq (pc' := 66) X 77 34 rfl rfl (by decide) (fun c5 => ?_) (fun c5 => ?_)
  · replace hM := mI hM c5
    refine r_iload (pc' := 79) X hl 0 rfl 40 rfl rfl ?_
    exact RT (u3_1, u3_2_1, (u4_points, u4_home, u4_men, u4_turn, u4_thrower, u4_cube, u4_owner, u4_firms, u4_kindsTold, u4_places, u4_crowds, u4_pipsLeft, u4_notHome)) _ _ _ _ _ hM (Or.inl ⟨rfl, rfl, _, rfl⟩) (X.d (k := 41) rfl) Y
  · replace hM := mE hM c5
    refine r_aload_n (pc' := 67) X hl 4 rfl rfl 35 rfl rfl ?_
    refine r_get (pc' := 70) (v := .ref h_spare) X Y 36 rfl rfl fRX3_12 0 rfl rfl ?_
    refine r_iload (pc' := 72) X hl 2 rfl 37 rfl rfl ?_
    refine r_iload (pc' := 74) X hl 1 rfl 38 rfl rfl ?_
    refine r_callV (pc' := 77) (As := [.int u2_1, .int (u2_2_places (i1).toNatClampNeg)]) (rest := []) (wr := (wFS G h h_spare h_told u3_2_1 : va_W)) X Y 39 rfl rfl mRX3_55 (c_X2_put l G h_spare h_spare_firms h_spare_kindsTold h_spare_places h_spare_crowds h_spare_pipsLeft h_spare_notHome u4_points u4_home u4_men u4_turn u4_thrower u4_cube u4_owner u4_firms u4_kindsTold u4_places u4_crowds u4_pipsLeft u4_notHome u2_1 ((u2_2_places (i1).toNatClampNeg))) (mB hM hne) 1 rfl rfl [1, 2, 3, 4, 5, 6, 7] [0] [0, 1, 2, 3, 4, 5, 6, 7] rfl rfl ⟨rfl, rfl, rfl⟩ rfl (w2 := fun u6 => wFS G h h_spare h_told u3_2_1 ++ wBD G h_spare h_spare_firms h_spare_kindsTold h_spare_places h_spare_crowds h_spare_pipsLeft h_spare_notHome u6.1 u6.2.1 u6.2.2.1 u6.2.2.2.1 u6.2.2.2.2.1 u6.2.2.2.2.2.1 u6.2.2.2.2.2.2.1 u6.2.2.2.2.2.2.2.1 u6.2.2.2.2.2.2.2.2.1 u6.2.2.2.2.2.2.2.2.2.1 u6.2.2.2.2.2.2.2.2.2.2.1 u6.2.2.2.2.2.2.2.2.2.2.2.1 u6.2.2.2.2.2.2.2.2.2.2.2.2) (fun _ => rfl) rfl (Nat.le_of_ble_eq_true rfl) ⟨rfl, rfl⟩ ⟨Nat.le_of_ble_eq_true rfl, Nat.le_of_ble_eq_true rfl⟩ ⟨Nat.zero_le _, Nat.zero_le _⟩ hl.1 (st' := fun u6 => []) (fun _ => rfl) (fun u6 H locs huu6 Y => ?_)
    obtain ⟨u6_points, u6_home, u6_men, u6_turn, u6_thrower, u6_cube, u6_owner, u6_firms, u6_kindsTold, u6_places, u6_crowds, u6_pipsLeft, u6_notHome⟩ := u6
    replace Y : rY G A s (wFS G h h_spare h_told u3_2_1 ++ wBD G h_spare h_spare_firms h_spare_kindsTold h_spare_places h_spare_crowds h_spare_pipsLeft h_spare_notHome u6_points u6_home u6_men u6_turn u6_thrower u6_cube u6_owner u6_firms u6_kindsTold u6_places u6_crowds u6_pipsLeft u6_notHome) H locs := Y
    replace hM := mS hM huu6
    show W p l e q_X3_worthBehind_0 s m args below meth c H locs 0 0 Q (F0 m 77 ls [])
    refine r_iload (pc' := 79) X hl 0 rfl 40 rfl rfl ?_
    exact RT (u3_1, u3_2_1, (u6_points, u6_home, u6_men, u6_turn, u6_thrower, u6_cube, u6_owner, u6_firms, u6_kindsTold, u6_places, u6_crowds, u6_pipsLeft, u6_notHome)) _ _ _ _ _ hM (Or.inl ⟨rfl, rfl, _, rfl⟩) (X.d (k := 41) rfl) Y

def M_X3_greatestWorth_0 (S0 : FS) (S1 : BD) (i1 : Int32) (i2 : Int32) (i3 : Int32) : Option (Int32 × FS × BD) :=
  ((lp (σ := Int32 × Int32 × Int32 × Int32 × BD) (β := Int32 × Int32 × Int32 × BD) (fun rec1 st1 => (if (bd_men st1.2.2.2.2) ≤ st1.2.2.1 then (some (st1.1, st1.2.1, st1.2.2.2.1, st1.2.2.2.2)) else (if inb st1.2.2.1 8 = true then (if ((bd_firms st1.2.2.2.2) (st1.2.2.1).toNatClampNeg) = i1 then ((M_X2_canGo st1.2.2.2.2 st1.2.2.1 i2).bind (fun u7 => (if u7 = 0 then (rec1 (st1.1, st1.2.1, (st1.2.2.1 + (1 : Int32)), st1.2.2.2.1, st1.2.2.2.2)) else ((M_X3_worthBehind_0 st1.2.2.2.1 st1.2.2.2.2 st1.2.2.1 i2 i3).bind (fun u9 => (jn (σ := Unit) (fun v10 => (rec1 (st1.2.2.1, u9.1, (st1.2.2.1 + (1 : Int32)), u9.2.1, u9.2.2))) (fun J10 => (if st1.1 = (-1000000 : Int32) then (J10 ()) else (if u9.1 ≤ st1.2.1 then (rec1 (st1.1, st1.2.1, (st1.2.2.1 + (1 : Int32)), u9.2.1, u9.2.2)) else (J10 ())))))))))) else (rec1 (st1.1, st1.2.1, (st1.2.2.1 + (1 : Int32)), st1.2.2.2.1, st1.2.2.2.2))) else none))) 1000000 ((-1000000 : Int32), (0 : Int32), (0 : Int32), S0, S1)).bind (fun b1 => (if b1.1 = (-1000000 : Int32) then ((M_X3_worthTo_0 b1.2.2.1 b1.2.2.2 i1 i3).bind (fun u3 => (some (u3.1, b1.1, u3.2.2)))) else (some (b1.2.1, b1.1, b1.2.2.2)))))
def q_X3_greatestWorth_0 : Room := { frames := 6, cells := 0, slots := 0, locals := 179 }
set_option maxHeartbeats 4000000 in
set_option maxRecDepth 100000 in
theorem c_X3_greatestWorth_0 (l : Launch) (G : gT) (h h_spare h_told h_spare_firms h_spare_kindsTold h_spare_places h_spare_crowds h_spare_pipsLeft h_spare_notHome : Nat) (S0 : Int32) (S1_points : Int32) (S1_home : Int32) (S1_men : Int32) (S1_turn : Int32) (S1_thrower : Int32) (S1_cube : Int32) (S1_owner : Int32) (S1_firms : Nat → Int32) (S1_kindsTold : Nat → Int32) (S1_places : Nat → Int32) (S1_crowds : Nat → Int32) (S1_pipsLeft : Nat → Int32) (S1_notHome : Nat → Int32) (i1 : Int32) (i2 : Int32) (i3 : Int32) : CT l G yX3_greatestWorth cX3_greatestWorth 8 (some .int) q_X3_greatestWorth_0 [.ref h, .int i1, .int i2, .int i3] (wFS G h h_spare h_told S0 ++ wBD G h_spare h_spare_firms h_spare_kindsTold h_spare_places h_spare_crowds h_spare_pipsLeft h_spare_notHome S1_points S1_home S1_men S1_turn S1_thrower S1_cube S1_owner S1_firms S1_kindsTold S1_places S1_crowds S1_pipsLeft S1_notHome) (M_X3_greatestWorth_0 S0 (S1_points, S1_home, S1_men, S1_turn, S1_thrower, S1_cube, S1_owner, S1_firms, S1_kindsTold, S1_places, S1_crowds, S1_pipsLeft, S1_notHome) i1 i2 i3) (fun u => some (.int u.1)) (fun u => wFS G h h_spare h_told u.2.1 ++ wBD G h_spare h_spare_firms h_spare_kindsTold h_spare_places h_spare_crowds h_spare_pipsLeft h_spare_notHome u.2.2.1 u.2.2.2.1 u.2.2.2.2.1 u.2.2.2.2.2.1 u.2.2.2.2.2.2.1 u.2.2.2.2.2.2.2.1 u.2.2.2.2.2.2.2.2.1 u.2.2.2.2.2.2.2.2.2.1 u.2.2.2.2.2.2.2.2.2.2.1 u.2.2.2.2.2.2.2.2.2.2.2.1 u.2.2.2.2.2.2.2.2.2.2.2.2.1 u.2.2.2.2.2.2.2.2.2.2.2.2.2.1 u.2.2.2.2.2.2.2.2.2.2.2.2.2.2) := by
  refine CT.of (P := PX3_greatestWorth) (by decide) dPX3_greatestWorth (Nat.le_of_ble_eq_true rfl) ?_
  intro p e s m args below meth c A Q ls hne X RT Y hl
  have hl : lv_has ls 8 [(0, .ref h), (1, .int i1), (2, .int i2), (3, .int i3)] := hl
  generalize hM : M_X3_greatestWorth_0 S0 (S1_points, S1_home, S1_men, S1_turn, S1_thrower, S1_cube, S1_owner, S1_firms, S1_kindsTold, S1_places, S1_crowds, S1_pipsLeft, S1_notHome) i1 i2 i3 = MM at hne RT
  unfold M_X3_greatestWorth_0 at hM
  refine r_ldc (pc' := 2) X mw154 0 rfl rfl ?_
  refine r_istore (pc' := 4) (L' := [(4, .int (-1000000 : Int32)), (0, .ref h), (1, .int i1), (2, .int i2), (3, .int i3)]) X hl 1 rfl rfl (by decide) rfl (fun ls hl => ?_)
  refine r_iconst (pc' := 5) X (0 : Int32) 2 rfl rfl rfl ?_
  refine r_istore (pc' := 7) (L' := [(5, .int (0 : Int32)), (4, .int (-1000000 : Int32)), (0, .ref h), (1, .int i1), (2, .int i2), (3, .int i3)]) X hl 3 rfl rfl (by decide) rfl (fun ls hl => ?_)
  refine r_iconst (pc' := 8) X (0 : Int32) 4 rfl rfl rfl ?_
  refine r_istore (pc' := 10) (L' := [(6, .int (0 : Int32)), (5, .int (0 : Int32)), (4, .int (-1000000 : Int32)), (0, .ref h), (1, .int i1), (2, .int i2), (3, .int i3)]) X hl 5 rfl rfl (by decide) rfl (fun ls hl => ?_)
  obtain ⟨LL1, hL1, hne1, hX1⟩ := mL hM hne
  have KX1 : ∀ (b1_1 : Int32) (b1_2_1 : Int32) (b1_2_2_1 : Int32) (b1_2_2_2_points : Int32) (b1_2_2_2_home : Int32) (b1_2_2_2_men : Int32) (b1_2_2_2_turn : Int32) (b1_2_2_2_thrower : Int32) (b1_2_2_2_cube : Int32) (b1_2_2_2_owner : Int32) (b1_2_2_2_firms : Nat → Int32) (b1_2_2_2_kindsTold : Nat → Int32) (b1_2_2_2_places : Nat → Int32) (b1_2_2_2_crowds : Nat → Int32) (b1_2_2_2_pipsLeft : Nat → Int32) (b1_2_2_2_notHome : Nat → Int32) (H : Heap) (locs : List Loc) (ls : Array Slot), some (b1_1, b1_2_1, b1_2_2_1, (b1_2_2_2_points, b1_2_2_2_home, b1_2_2_2_men, b1_2_2_2_turn, b1_2_2_2_thrower, b1_2_2_2_cube, b1_2_2_2_owner, b1_2_2_2_firms, b1_2_2_2_kindsTold, b1_2_2_2_places, b1_2_2_2_crowds, b1_2_2_2_pipsLeft, b1_2_2_2_notHome)) = LL1 → rY G A s (wFS G h h_spare h_told b1_2_2_1 ++ wBD G h_spare h_spare_firms h_spare_kindsTold h_spare_places h_spare_crowds h_spare_pipsLeft h_spare_notHome b1_2_2_2_points b1_2_2_2_home b1_2_2_2_men b1_2_2_2_turn b1_2_2_2_thrower b1_2_2_2_cube b1_2_2_2_owner b1_2_2_2_firms b1_2_2_2_kindsTold b1_2_2_2_places b1_2_2_2_crowds b1_2_2_2_pipsLeft b1_2_2_2_notHome) H locs → lv_has ls 8 [(0, .ref h), (1, .int i1), (3, .int i3), (4, .int b1_1), (5, .int b1_2_1)] → W p l e q_X3_greatestWorth_0 s m args below meth c H locs 0 0 Q (F0 m 87 ls []) := by
    intro b1_1 b1_2_1 b1_2_2_1 b1_2_2_2_points b1_2_2_2_home b1_2_2_2_men b1_2_2_2_turn b1_2_2_2_thrower b1_2_2_2_cube b1_2_2_2_owner b1_2_2_2_firms b1_2_2_2_kindsTold b1_2_2_2_places b1_2_2_2_crowds b1_2_2_2_pipsLeft b1_2_2_2_notHome H locs ls hM Y hl
    replace hM := hX1 _ hM
    refine r_iload (pc' := 89) X hl 3 rfl 42 rfl rfl ?_
    refine r_ldc (pc' := 91) X mw154 43 rfl rfl ?_
    refine r_icmp_ne (pc' := 94) X 102 44 rfl rfl (by decide) (fun c2 => ?_) (fun c2 => ?_)
    · replace hM := mE hM c2
      refine r_aload_n (pc' := 103) X hl 0 rfl rfl 50 rfl rfl ?_
      refine r_iload (pc' := 105) X hl 3 rfl 51 rfl rfl ?_
      refine r_put (pc' := 108) (ws' := wFS G h h_spare h_told b1_1 ++ wBD G h_spare h_spare_firms h_spare_kindsTold h_spare_places h_spare_crowds h_spare_pipsLeft h_spare_notHome b1_2_2_2_points b1_2_2_2_home b1_2_2_2_men b1_2_2_2_turn b1_2_2_2_thrower b1_2_2_2_cube b1_2_2_2_owner b1_2_2_2_firms b1_2_2_2_kindsTold b1_2_2_2_places b1_2_2_2_crowds b1_2_2_2_pipsLeft b1_2_2_2_notHome) X Y 52 rfl rfl fRX3_23 0 rfl rfl rfl (Nat.le_of_ble_eq_true rfl) rfl (fun H locs Y => ?_)
      refine r_iload (pc' := 110) X hl 4 rfl 53 rfl rfl ?_
      exact RT (b1_2_1, b1_1, (b1_2_2_2_points, b1_2_2_2_home, b1_2_2_2_men, b1_2_2_2_turn, b1_2_2_2_thrower, b1_2_2_2_cube, b1_2_2_2_owner, b1_2_2_2_firms, b1_2_2_2_kindsTold, b1_2_2_2_places, b1_2_2_2_crowds, b1_2_2_2_pipsLeft, b1_2_2_2_notHome)) _ _ _ _ _ hM (Or.inl ⟨rfl, rfl, _, rfl⟩) (X.d (k := 54) rfl) Y
    · replace hM := mI hM c2
      refine r_aload_n (pc' := 95) X hl 0 rfl rfl 45 rfl rfl ?_
      refine r_iload_n (pc' := 96) X hl 1 rfl rfl 46 rfl rfl ?_
      refine r_iload_n (pc' := 97) X hl 2 rfl rfl 47 rfl rfl ?_
      refine r_callV (pc' := 100) (As := [.int i1, .int i3]) (rest := []) (wr := ([] : va_W)) X Y 48 rfl rfl mRX3_45 (c_X3_worthTo_0 l G h h_spare h_told h_spare_firms h_spare_kindsTold h_spare_places h_spare_crowds h_spare_pipsLeft h_spare_notHome b1_2_2_1 b1_2_2_2_points b1_2_2_2_home b1_2_2_2_men b1_2_2_2_turn b1_2_2_2_thrower b1_2_2_2_cube b1_2_2_2_owner b1_2_2_2_firms b1_2_2_2_kindsTold b1_2_2_2_places b1_2_2_2_crowds b1_2_2_2_pipsLeft b1_2_2_2_notHome i1 i3) (mB hM hne) 0 rfl rfl [0, 1, 2, 3, 4, 5, 6, 7] [] [0, 1, 2, 3, 4, 5, 6, 7] rfl rfl ⟨rfl, rfl, rfl⟩ rfl (w2 := fun u3 => wFS G h h_spare h_told u3.2.1 ++ wBD G h_spare h_spare_firms h_spare_kindsTold h_spare_places h_spare_crowds h_spare_pipsLeft h_spare_notHome u3.2.2.1 u3.2.2.2.1 u3.2.2.2.2.1 u3.2.2.2.2.2.1 u3.2.2.2.2.2.2.1 u3.2.2.2.2.2.2.2.1 u3.2.2.2.2.2.2.2.2.1 u3.2.2.2.2.2.2.2.2.2.1 u3.2.2.2.2.2.2.2.2.2.2.1 u3.2.2.2.2.2.2.2.2.2.2.2.1 u3.2.2.2.2.2.2.2.2.2.2.2.2.1 u3.2.2.2.2.2.2.2.2.2.2.2.2.2.1 u3.2.2.2.2.2.2.2.2.2.2.2.2.2.2) (fun _ => rfl) rfl (Nat.le_of_ble_eq_true rfl) ⟨rfl, rfl⟩ ⟨Nat.le_of_ble_eq_true rfl, Nat.le_of_ble_eq_true rfl⟩ ⟨Nat.zero_le _, Nat.zero_le _⟩ hl.1 (st' := fun u3 => [.int u3.1]) (fun _ => rfl) (fun u3 H locs huu3 Y => ?_)
      obtain ⟨u3_1, u3_2_1, ⟨u3_2_2_points, u3_2_2_home, u3_2_2_men, u3_2_2_turn, u3_2_2_thrower, u3_2_2_cube, u3_2_2_owner, u3_2_2_firms, u3_2_2_kindsTold, u3_2_2_places, u3_2_2_crowds, u3_2_2_pipsLeft, u3_2_2_notHome⟩⟩ := u3
      replace Y : rY G A s (wFS G h h_spare h_told u3_2_1 ++ wBD G h_spare h_spare_firms h_spare_kindsTold h_spare_places h_spare_crowds h_spare_pipsLeft h_spare_notHome u3_2_2_points u3_2_2_home u3_2_2_men u3_2_2_turn u3_2_2_thrower u3_2_2_cube u3_2_2_owner u3_2_2_firms u3_2_2_kindsTold u3_2_2_places u3_2_2_crowds u3_2_2_pipsLeft u3_2_2_notHome) H locs := Y
      replace hM := mS hM huu3
      show W p l e q_X3_greatestWorth_0 s m args below meth c H locs 0 0 Q (F0 m 100 ls [.int u3_1])
      refine r_istore (pc' := 102) (L' := [(5, .int u3_1), (0, .ref h), (1, .int i1), (3, .int i3), (4, .int b1_1)]) X hl 49 rfl rfl (by decide) rfl (fun ls hl => ?_)
      refine r_aload_n (pc' := 103) X hl 1 rfl rfl 50 rfl rfl ?_
      refine r_iload (pc' := 105) X hl 4 rfl 51 rfl rfl ?_
      refine r_put (pc' := 108) (ws' := wFS G h h_spare h_told b1_1 ++ wBD G h_spare h_spare_firms h_spare_kindsTold h_spare_places h_spare_crowds h_spare_pipsLeft h_spare_notHome u3_2_2_points u3_2_2_home u3_2_2_men u3_2_2_turn u3_2_2_thrower u3_2_2_cube u3_2_2_owner u3_2_2_firms u3_2_2_kindsTold u3_2_2_places u3_2_2_crowds u3_2_2_pipsLeft u3_2_2_notHome) X Y 52 rfl rfl fRX3_23 0 rfl rfl rfl (Nat.le_of_ble_eq_true rfl) rfl (fun H locs Y => ?_)
      refine r_iload (pc' := 110) X hl 0 rfl 53 rfl rfl ?_
      exact RT (u3_1, b1_1, (u3_2_2_points, u3_2_2_home, u3_2_2_men, u3_2_2_turn, u3_2_2_thrower, u3_2_2_cube, u3_2_2_owner, u3_2_2_firms, u3_2_2_kindsTold, u3_2_2_places, u3_2_2_crowds, u3_2_2_pipsLeft, u3_2_2_notHome)) _ _ _ _ _ hM (Or.inl ⟨rfl, rfl, _, rfl⟩) (X.d (k := 54) rfl) Y
  refine lp_rule (I := fun (st1 : Int32 × Int32 × Int32 × Int32 × BD) => ∀ (H : Heap) (locs : List Loc) (ls : Array Slot), rY G A s (wFS G h h_spare h_told st1.2.2.2.1 ++ wBD G h_spare h_spare_firms h_spare_kindsTold h_spare_places h_spare_crowds h_spare_pipsLeft h_spare_notHome st1.2.2.2.2.1 st1.2.2.2.2.2.1 st1.2.2.2.2.2.2.1 st1.2.2.2.2.2.2.2.1 st1.2.2.2.2.2.2.2.2.1 st1.2.2.2.2.2.2.2.2.2.1 st1.2.2.2.2.2.2.2.2.2.2.1 st1.2.2.2.2.2.2.2.2.2.2.2.1 st1.2.2.2.2.2.2.2.2.2.2.2.2.1 st1.2.2.2.2.2.2.2.2.2.2.2.2.2.1 st1.2.2.2.2.2.2.2.2.2.2.2.2.2.2.1 st1.2.2.2.2.2.2.2.2.2.2.2.2.2.2.2.1 st1.2.2.2.2.2.2.2.2.2.2.2.2.2.2.2.2) H locs → lv_has ls 8 [(0, .ref h), (1, .int i1), (2, .int i2), (3, .int i3), (4, .int st1.1), (5, .int st1.2.1), (6, .int st1.2.2.1)] → W p l e q_X3_greatestWorth_0 s m args below meth c H locs 0 0 Q (F0 m 10 ls [])) hne1 (fun rec1 st1 IH1 hM => ?_) _ _ hL1 _ _ _ Y (lv_sub hl [3, 4, 5, 6, 2, 1, 0] rfl)
  intro H locs ls Y hl
  obtain ⟨st1_1, st1_2_1, st1_2_2_1, st1_2_2_2_1, ⟨st1_2_2_2_2_points, st1_2_2_2_2_home, st1_2_2_2_2_men, st1_2_2_2_2_turn, st1_2_2_2_2_thrower, st1_2_2_2_2_cube, st1_2_2_2_2_owner, st1_2_2_2_2_firms, st1_2_2_2_2_kindsTold, st1_2_2_2_2_places, st1_2_2_2_2_crowds, st1_2_2_2_2_pipsLeft, st1_2_2_2_2_notHome⟩⟩ := st1
  replace Y : rY G A s (wFS G h h_spare h_told st1_2_2_2_1 ++ wBD G h_spare h_spare_firms h_spare_kindsTold h_spare_places h_spare_crowds h_spare_pipsLeft h_spare_notHome st1_2_2_2_2_points st1_2_2_2_2_home st1_2_2_2_2_men st1_2_2_2_2_turn st1_2_2_2_2_thrower st1_2_2_2_2_cube st1_2_2_2_2_owner st1_2_2_2_2_firms st1_2_2_2_2_kindsTold st1_2_2_2_2_places st1_2_2_2_2_crowds st1_2_2_2_2_pipsLeft st1_2_2_2_2_notHome) H locs := Y
  replace hl : lv_has ls 8 [(0, .ref h), (1, .int i1), (2, .int i2), (3, .int i3), (4, .int st1_1), (5, .int st1_2_1), (6, .int st1_2_2_1)] := hl
  refine r_iload (pc' := 12) X hl 6 rfl 6 rfl rfl ?_
  refine r_aload_n (pc' := 13) X hl 0 rfl rfl 7 rfl rfl ?_
  refine r_get (pc' := 16) (v := .ref h_spare) X Y 8 rfl rfl fRX3_12 0 rfl rfl ?_
  refine r_getN (pc' := 19) (v := .int st1_2_2_2_2_men) X Y 9 rfl rfl fRX3_31 1 rfl rfl ?_
  refine r_icmp_ge (pc' := 22) X 87 10 rfl rfl (by decide) (fun c4 => ?_) (fun c4 => ?_)
  · replace hM := mI hM c4
    exact KX1 st1_1 st1_2_1 st1_2_2_2_1 st1_2_2_2_2_points st1_2_2_2_2_home st1_2_2_2_2_men st1_2_2_2_2_turn st1_2_2_2_2_thrower st1_2_2_2_2_cube st1_2_2_2_2_owner st1_2_2_2_2_firms st1_2_2_2_2_kindsTold st1_2_2_2_2_places st1_2_2_2_2_crowds st1_2_2_2_2_pipsLeft st1_2_2_2_2_notHome _ _ _ hM Y (lv_sub hl [0, 1, 3, 4, 5] rfl)
  · replace hM := mE hM c4
    refine r_aload_n (pc' := 23) X hl 0 rfl rfl 11 rfl rfl ?_
    refine r_get (pc' := 26) (v := .ref h_spare) X Y 12 rfl rfl fRX3_12 0 rfl rfl ?_
    refine r_getN (pc' := 29) (v := .ref h_spare_firms) X Y 13 rfl rfl fRX3_34 1 rfl rfl ?_
    refine r_iload (pc' := 31) X hl 6 rfl 14 rfl rfl ?_
    obtain ⟨g5, hM⟩ := mG hM hne1
    refine r_iald (pc' := 32) X Y 15 rfl rfl 2 rfl (vin g5) ?_
    refine r_iload_n (pc' := 33) X hl 1 rfl rfl 16 rfl rfl ?_
    refine r_icmp_ne (pc' := 36) X 81 17 rfl rfl (by decide) (fun c6 => ?_) (fun c6 => ?_)
    · replace hM := mE hM c6
      refine r_iinc (pc' := 84) (L' := [(6, .int (st1_2_2_1 + (1 : Int32))), (0, .ref h), (1, .int i1), (2, .int i2), (3, .int i3), (4, .int st1_1), (5, .int st1_2_1)]) X (st1_2_2_1 + (1 : Int32)) hl 6 rfl rfl 40 rfl rfl (by decide) rfl (fun ls hl => ?_)
      refine r_goto X 10 41 rfl (by decide) ?_
      exact IH1 _ hM _ _ _ Y (lv_sub hl [1, 2, 3, 4, 5, 6, 0] rfl)
    · replace hM := mI hM c6
      refine r_aload_n (pc' := 37) X hl 0 rfl rfl 18 rfl rfl ?_
      refine r_get (pc' := 40) (v := .ref h_spare) X Y 19 rfl rfl fRX3_12 0 rfl rfl ?_
      refine r_iload (pc' := 42) X hl 6 rfl 20 rfl rfl ?_
      refine r_iload_n (pc' := 43) X hl 2 rfl rfl 21 rfl rfl ?_
      refine r_callV0 (pc' := 46) (As := [.int st1_2_2_1, .int i2]) (rest := []) X Y 22 rfl rfl mRX3_37 (c_X2_canGo l G h_spare h_spare_firms h_spare_kindsTold h_spare_places h_spare_crowds h_spare_pipsLeft h_spare_notHome st1_2_2_2_2_points st1_2_2_2_2_home st1_2_2_2_2_men st1_2_2_2_2_turn st1_2_2_2_2_thrower st1_2_2_2_2_cube st1_2_2_2_2_owner st1_2_2_2_2_firms st1_2_2_2_2_kindsTold st1_2_2_2_2_places st1_2_2_2_2_crowds st1_2_2_2_2_pipsLeft st1_2_2_2_2_notHome st1_2_2_1 i2) (mB hM hne1) 1 rfl rfl [1, 2, 3, 4, 5, 6, 7] rfl rfl rfl (Nat.le_of_ble_eq_true rfl) ⟨rfl, rfl⟩ ⟨Nat.le_of_ble_eq_true rfl, Nat.le_of_ble_eq_true rfl⟩ ⟨Nat.zero_le _, Nat.zero_le _⟩ hl.1 (st' := fun u7 => [.int u7]) (fun _ => rfl) (fun u7 H locs huu7 Y => ?_)
      replace hM := mS hM huu7
      refine r_if_eq (pc' := 49) X 81 23 rfl rfl (by decide) (fun c8 => ?_) (fun c8 => ?_)
      · replace hM := mI hM c8
        refine r_iinc (pc' := 84) (L' := [(6, .int (st1_2_2_1 + (1 : Int32))), (0, .ref h), (1, .int i1), (2, .int i2), (3, .int i3), (4, .int st1_1), (5, .int st1_2_1)]) X (st1_2_2_1 + (1 : Int32)) hl 6 rfl rfl 40 rfl rfl (by decide) rfl (fun ls hl => ?_)
        refine r_goto X 10 41 rfl (by decide) ?_
        exact IH1 _ hM _ _ _ Y (lv_sub hl [1, 2, 3, 4, 5, 6, 0] rfl)
      · replace hM := mE hM c8
        refine r_aload_n (pc' := 50) X hl 0 rfl rfl 24 rfl rfl ?_
        refine r_iload (pc' := 52) X hl 6 rfl 25 rfl rfl ?_
        refine r_iload_n (pc' := 53) X hl 2 rfl rfl 26 rfl rfl ?_
        refine r_iload_n (pc' := 54) X hl 3 rfl rfl 27 rfl rfl ?_
        refine r_callV (pc' := 57) (As := [.int st1_2_2_1, .int i2, .int i3]) (rest := []) (wr := ([] : va_W)) X Y 28 rfl rfl mRX3_41 (c_X3_worthBehind_0 l G h h_spare h_told h_spare_firms h_spare_kindsTold h_spare_places h_spare_crowds h_spare_pipsLeft h_spare_notHome st1_2_2_2_1 st1_2_2_2_2_points st1_2_2_2_2_home st1_2_2_2_2_men st1_2_2_2_2_turn st1_2_2_2_2_thrower st1_2_2_2_2_cube st1_2_2_2_2_owner st1_2_2_2_2_firms st1_2_2_2_2_kindsTold st1_2_2_2_2_places st1_2_2_2_2_crowds st1_2_2_2_2_pipsLeft st1_2_2_2_2_notHome st1_2_2_1 i2 i3) (mB hM hne1) 0 rfl rfl [0, 1, 2, 3, 4, 5, 6, 7] [] [0, 1, 2, 3, 4, 5, 6, 7] rfl rfl ⟨rfl, rfl, rfl⟩ rfl (w2 := fun u9 => wFS G h h_spare h_told u9.2.1 ++ wBD G h_spare h_spare_firms h_spare_kindsTold h_spare_places h_spare_crowds h_spare_pipsLeft h_spare_notHome u9.2.2.1 u9.2.2.2.1 u9.2.2.2.2.1 u9.2.2.2.2.2.1 u9.2.2.2.2.2.2.1 u9.2.2.2.2.2.2.2.1 u9.2.2.2.2.2.2.2.2.1 u9.2.2.2.2.2.2.2.2.2.1 u9.2.2.2.2.2.2.2.2.2.2.1 u9.2.2.2.2.2.2.2.2.2.2.2.1 u9.2.2.2.2.2.2.2.2.2.2.2.2.1 u9.2.2.2.2.2.2.2.2.2.2.2.2.2.1 u9.2.2.2.2.2.2.2.2.2.2.2.2.2.2) (fun _ => rfl) rfl (Nat.le_of_ble_eq_true rfl) ⟨rfl, rfl⟩ ⟨Nat.le_of_ble_eq_true rfl, Nat.le_of_ble_eq_true rfl⟩ ⟨Nat.zero_le _, Nat.zero_le _⟩ hl.1 (st' := fun u9 => [.int u9.1]) (fun _ => rfl) (fun u9 H locs huu9 Y => ?_)
        obtain ⟨u9_1, u9_2_1, ⟨u9_2_2_points, u9_2_2_home, u9_2_2_men, u9_2_2_turn, u9_2_2_thrower, u9_2_2_cube, u9_2_2_owner, u9_2_2_firms, u9_2_2_kindsTold, u9_2_2_places, u9_2_2_crowds, u9_2_2_pipsLeft, u9_2_2_notHome⟩⟩ := u9
        replace Y : rY G A s (wFS G h h_spare h_told u9_2_1 ++ wBD G h_spare h_spare_firms h_spare_kindsTold h_spare_places h_spare_crowds h_spare_pipsLeft h_spare_notHome u9_2_2_points u9_2_2_home u9_2_2_men u9_2_2_turn u9_2_2_thrower u9_2_2_cube u9_2_2_owner u9_2_2_firms u9_2_2_kindsTold u9_2_2_places u9_2_2_crowds u9_2_2_pipsLeft u9_2_2_notHome) H locs := Y
        replace hM := mS hM huu9
        show W p l e q_X3_greatestWorth_0 s m args below meth c H locs 0 0 Q (F0 m 57 ls [.int u9_1])
        refine r_istore (pc' := 59) (L' := [(7, .int u9_1), (0, .ref h), (1, .int i1), (2, .int i2), (3, .int i3), (4, .int st1_1), (5, .int st1_2_1), (6, .int st1_2_2_1)]) X hl 29 rfl rfl (by decide) rfl (fun ls hl => ?_)
        refine r_iload (pc' := 61) X hl 5 rfl 30 rfl rfl ?_
        refine r_ldc (pc' := 63) X mw154 31 rfl rfl ?_
        obtain ⟨J10, hJ10, hM⟩ := mJ hM
        have KJ10 : ∀  (H : Heap) (locs : List Loc) (ls : Array Slot), J10 () = LL1 → rY G A s (wFS G h h_spare h_told u9_2_1 ++ wBD G h_spare h_spare_firms h_spare_kindsTold h_spare_places h_spare_crowds h_spare_pipsLeft h_spare_notHome u9_2_2_points u9_2_2_home u9_2_2_men u9_2_2_turn u9_2_2_thrower u9_2_2_cube u9_2_2_owner u9_2_2_firms u9_2_2_kindsTold u9_2_2_places u9_2_2_crowds u9_2_2_pipsLeft u9_2_2_notHome) H locs → lv_has ls 8 [(0, .ref h), (1, .int i1), (2, .int i2), (3, .int i3), (6, .int st1_2_2_1), (7, .int u9_1)] → W p l e q_X3_greatestWorth_0 s m args below meth c H locs 0 0 Q (F0 m 73 ls []) := by
          intro  H locs ls hM Y hl
          replace hM := (hJ10 _).symm.trans hM
          refine r_iload (pc' := 75) X hl 4 rfl 36 rfl rfl ?_
          refine r_istore (pc' := 77) (L' := [(4, .int st1_2_2_1), (0, .ref h), (1, .int i1), (2, .int i2), (3, .int i3), (6, .int st1_2_2_1), (7, .int u9_1)]) X hl 37 rfl rfl (by decide) rfl (fun ls hl => ?_)
          refine r_iload (pc' := 79) X hl 6 rfl 38 rfl rfl ?_
          refine r_istore (pc' := 81) (L' := [(5, .int u9_1), (4, .int st1_2_2_1), (0, .ref h), (1, .int i1), (2, .int i2), (3, .int i3), (6, .int st1_2_2_1), (7, .int u9_1)]) X hl 39 rfl rfl (by decide) rfl (fun ls hl => ?_)
          refine r_iinc (pc' := 84) (L' := [(6, .int (st1_2_2_1 + (1 : Int32))), (5, .int u9_1), (4, .int st1_2_2_1), (0, .ref h), (1, .int i1), (2, .int i2), (3, .int i3), (7, .int u9_1)]) X (st1_2_2_1 + (1 : Int32)) hl 6 rfl rfl 40 rfl rfl (by decide) rfl (fun ls hl => ?_)
          refine r_goto X 10 41 rfl (by decide) ?_
          exact IH1 _ hM _ _ _ Y (lv_sub hl [3, 4, 5, 6, 2, 1, 0] rfl)
        refine r_icmp_eq (pc' := 66) X 73 32 rfl rfl (by decide) (fun c11 => ?_) (fun c11 => ?_)
        · replace hM := mI hM c11
          exact KJ10  _ _ _ hM Y (lv_sub hl [1, 2, 3, 4, 7, 0] rfl)
        · replace hM := mE hM c11
          refine r_iload (pc' := 68) X hl 0 rfl 33 rfl rfl ?_
          refine r_iload (pc' := 70) X hl 6 rfl 34 rfl rfl ?_
          refine r_icmp_le (pc' := 73) X 81 35 rfl rfl (by decide) (fun c12 => ?_) (fun c12 => ?_)
          · replace hM := mI hM c12
            refine r_iinc (pc' := 84) (L' := [(6, .int (st1_2_2_1 + (1 : Int32))), (7, .int u9_1), (0, .ref h), (1, .int i1), (2, .int i2), (3, .int i3), (4, .int st1_1), (5, .int st1_2_1)]) X (st1_2_2_1 + (1 : Int32)) hl 7 rfl rfl 40 rfl rfl (by decide) rfl (fun ls hl => ?_)
            refine r_goto X 10 41 rfl (by decide) ?_
            exact IH1 _ hM _ _ _ Y (lv_sub hl [2, 3, 4, 5, 6, 7, 0] rfl)
          · replace hM := mE hM c12
            exact KJ10  _ _ _ hM Y (lv_sub hl [1, 2, 3, 4, 7, 0] rfl)

def M_X3_worthTo_1 (S0 : FS) (S1 : BD) (i1 : Int32) (i2 : Int32) : Option (Int32 × FS × BD) :=
  (if 0 < i2 then ((lp (σ := Int32 × Int32 × Int32 × BD) (β := Int32 × Int32 × BD) (fun rec2 st2 => (if (6 : Int32) < st2.2.1 then (some (st2.1, st2.2.2.1, st2.2.2.2)) else ((M_X3_greatestWorth_0 st2.2.2.1 st2.2.2.2 (((1 : Int32) - i1)) st2.2.1 ((i2 - (1 : Int32)))).bind (fun u4 => (rec2 ((st2.1 + u4.1), (st2.2.1 + (1 : Int32)), u4.2.1, u4.2.2)))))) 1000000 ((0 : Int32), (1 : Int32), S0, S1)).bind (fun b2 => (some ((-b2.1), b2.2.1, b2.2.2)))) else ((M_X2_lead S1 i1).bind (fun u5 => (some (u5, S0, S1)))))
def q_X3_worthTo_1 : Room := { frames := 7, cells := 0, slots := 0, locals := 206 }
set_option maxHeartbeats 4000000 in
set_option maxRecDepth 100000 in
theorem c_X3_worthTo_1 (l : Launch) (G : gT) (h h_spare h_told h_spare_firms h_spare_kindsTold h_spare_places h_spare_crowds h_spare_pipsLeft h_spare_notHome : Nat) (S0 : Int32) (S1_points : Int32) (S1_home : Int32) (S1_men : Int32) (S1_turn : Int32) (S1_thrower : Int32) (S1_cube : Int32) (S1_owner : Int32) (S1_firms : Nat → Int32) (S1_kindsTold : Nat → Int32) (S1_places : Nat → Int32) (S1_crowds : Nat → Int32) (S1_pipsLeft : Nat → Int32) (S1_notHome : Nat → Int32) (i1 : Int32) (i2 : Int32) : CT l G yX3_worthTo cX3_worthTo 5 (some .int) q_X3_worthTo_1 [.ref h, .int i1, .int i2] (wFS G h h_spare h_told S0 ++ wBD G h_spare h_spare_firms h_spare_kindsTold h_spare_places h_spare_crowds h_spare_pipsLeft h_spare_notHome S1_points S1_home S1_men S1_turn S1_thrower S1_cube S1_owner S1_firms S1_kindsTold S1_places S1_crowds S1_pipsLeft S1_notHome) (M_X3_worthTo_1 S0 (S1_points, S1_home, S1_men, S1_turn, S1_thrower, S1_cube, S1_owner, S1_firms, S1_kindsTold, S1_places, S1_crowds, S1_pipsLeft, S1_notHome) i1 i2) (fun u => some (.int u.1)) (fun u => wFS G h h_spare h_told u.2.1 ++ wBD G h_spare h_spare_firms h_spare_kindsTold h_spare_places h_spare_crowds h_spare_pipsLeft h_spare_notHome u.2.2.1 u.2.2.2.1 u.2.2.2.2.1 u.2.2.2.2.2.1 u.2.2.2.2.2.2.1 u.2.2.2.2.2.2.2.1 u.2.2.2.2.2.2.2.2.1 u.2.2.2.2.2.2.2.2.2.1 u.2.2.2.2.2.2.2.2.2.2.1 u.2.2.2.2.2.2.2.2.2.2.2.1 u.2.2.2.2.2.2.2.2.2.2.2.2.1 u.2.2.2.2.2.2.2.2.2.2.2.2.2.1 u.2.2.2.2.2.2.2.2.2.2.2.2.2.2) := by
  refine CT.of (P := PX3_worthTo) (by decide) dPX3_worthTo (Nat.le_of_ble_eq_true rfl) ?_
  intro p e s m args below meth c A Q ls hne X RT Y hl
  have hl : lv_has ls 5 [(0, .ref h), (1, .int i1), (2, .int i2)] := hl
  generalize hM : M_X3_worthTo_1 S0 (S1_points, S1_home, S1_men, S1_turn, S1_thrower, S1_cube, S1_owner, S1_firms, S1_kindsTold, S1_places, S1_crowds, S1_pipsLeft, S1_notHome) i1 i2 = MM at hne RT
  unfold M_X3_worthTo_1 at hM
  refine r_iload_n (pc' := 1) X hl 2 rfl rfl 0 rfl rfl ?_
  refine r_if_gt (pc' := 4) X 13 1 rfl rfl (by decide) (fun c1 => ?_) (fun c1 => ?_)
  · replace hM := mI hM c1
    refine r_iconst (pc' := 14) X (0 : Int32) 7 rfl rfl rfl ?_
    refine r_istore_n (pc' := 15) (L' := [(3, .int (0 : Int32)), (0, .ref h), (1, .int i1), (2, .int i2)]) X hl rfl 8 rfl rfl (by decide) rfl (fun ls hl => ?_)
    refine r_iconst (pc' := 16) X (1 : Int32) 9 rfl rfl rfl ?_
    refine r_istore (pc' := 18) (L' := [(4, .int (1 : Int32)), (3, .int (0 : Int32)), (0, .ref h), (1, .int i1), (2, .int i2)]) X hl 10 rfl rfl (by decide) rfl (fun ls hl => ?_)
    obtain ⟨LL2, hL2, hne2, hX2⟩ := mL hM hne
    have KX2 : ∀ (b2_1 : Int32) (b2_2_1 : Int32) (b2_2_2_points : Int32) (b2_2_2_home : Int32) (b2_2_2_men : Int32) (b2_2_2_turn : Int32) (b2_2_2_thrower : Int32) (b2_2_2_cube : Int32) (b2_2_2_owner : Int32) (b2_2_2_firms : Nat → Int32) (b2_2_2_kindsTold : Nat → Int32) (b2_2_2_places : Nat → Int32) (b2_2_2_crowds : Nat → Int32) (b2_2_2_pipsLeft : Nat → Int32) (b2_2_2_notHome : Nat → Int32) (H : Heap) (locs : List Loc) (ls : Array Slot), some (b2_1, b2_2_1, (b2_2_2_points, b2_2_2_home, b2_2_2_men, b2_2_2_turn, b2_2_2_thrower, b2_2_2_cube, b2_2_2_owner, b2_2_2_firms, b2_2_2_kindsTold, b2_2_2_places, b2_2_2_crowds, b2_2_2_pipsLeft, b2_2_2_notHome)) = LL2 → rY G A s (wFS G h h_spare h_told b2_2_1 ++ wBD G h_spare h_spare_firms h_spare_kindsTold h_spare_places h_spare_crowds h_spare_pipsLeft h_spare_notHome b2_2_2_points b2_2_2_home b2_2_2_men b2_2_2_turn b2_2_2_thrower b2_2_2_cube b2_2_2_owner b2_2_2_firms b2_2_2_kindsTold b2_2_2_places b2_2_2_crowds b2_2_2_pipsLeft b2_2_2_notHome) H locs → lv_has ls 5 [(3, .int b2_1)] → W p l e q_X3_worthTo_1 s m args below meth c H locs 0 0 Q (F0 m 46 ls []) := by
      intro b2_1 b2_2_1 b2_2_2_points b2_2_2_home b2_2_2_men b2_2_2_turn b2_2_2_thrower b2_2_2_cube b2_2_2_owner b2_2_2_firms b2_2_2_kindsTold b2_2_2_places b2_2_2_crowds b2_2_2_pipsLeft b2_2_2_notHome H locs ls hM Y hl
      replace hM := hX2 _ hM
      refine r_iload_n (pc' := 47) X hl 0 rfl rfl 28 rfl rfl ?_
      refine r_ineg (pc' := 48) X 29 rfl rfl ?_
      exact RT ((-b2_1), b2_2_1, (b2_2_2_points, b2_2_2_home, b2_2_2_men, b2_2_2_turn, b2_2_2_thrower, b2_2_2_cube, b2_2_2_owner, b2_2_2_firms, b2_2_2_kindsTold, b2_2_2_places, b2_2_2_crowds, b2_2_2_pipsLeft, b2_2_2_notHome)) _ _ _ _ _ hM (Or.inl ⟨rfl, rfl, _, rfl⟩) (X.d (k := 30) rfl) Y
    refine lp_rule (I := fun (st2 : Int32 × Int32 × Int32 × BD) => ∀ (H : Heap) (locs : List Loc) (ls : Array Slot), rY G A s (wFS G h h_spare h_told st2.2.2.1 ++ wBD G h_spare h_spare_firms h_spare_kindsTold h_spare_places h_spare_crowds h_spare_pipsLeft h_spare_notHome st2.2.2.2.1 st2.2.2.2.2.1 st2.2.2.2.2.2.1 st2.2.2.2.2.2.2.1 st2.2.2.2.2.2.2.2.1 st2.2.2.2.2.2.2.2.2.1 st2.2.2.2.2.2.2.2.2.2.1 st2.2.2.2.2.2.2.2.2.2.2.1 st2.2.2.2.2.2.2.2.2.2.2.2.1 st2.2.2.2.2.2.2.2.2.2.2.2.2.1 st2.2.2.2.2.2.2.2.2.2.2.2.2.2.1 st2.2.2.2.2.2.2.2.2.2.2.2.2.2.2.1 st2.2.2.2.2.2.2.2.2.2.2.2.2.2.2.2) H locs → lv_has ls 5 [(0, .ref h), (1, .int i1), (2, .int i2), (3, .int st2.1), (4, .int st2.2.1)] → W p l e q_X3_worthTo_1 s m args below meth c H locs 0 0 Q (F0 m 18 ls [])) hne2 (fun rec2 st2 IH2 hM => ?_) _ _ hL2 _ _ _ Y (lv_sub hl [2, 3, 4, 1, 0] rfl)
    intro H locs ls Y hl
    obtain ⟨st2_1, st2_2_1, st2_2_2_1, ⟨st2_2_2_2_points, st2_2_2_2_home, st2_2_2_2_men, st2_2_2_2_turn, st2_2_2_2_thrower, st2_2_2_2_cube, st2_2_2_2_owner, st2_2_2_2_firms, st2_2_2_2_kindsTold, st2_2_2_2_places, st2_2_2_2_crowds, st2_2_2_2_pipsLeft, st2_2_2_2_notHome⟩⟩ := st2
    replace Y : rY G A s (wFS G h h_spare h_told st2_2_2_1 ++ wBD G h_spare h_spare_firms h_spare_kindsTold h_spare_places h_spare_crowds h_spare_pipsLeft h_spare_notHome st2_2_2_2_points st2_2_2_2_home st2_2_2_2_men st2_2_2_2_turn st2_2_2_2_thrower st2_2_2_2_cube st2_2_2_2_owner st2_2_2_2_firms st2_2_2_2_kindsTold st2_2_2_2_places st2_2_2_2_crowds st2_2_2_2_pipsLeft st2_2_2_2_notHome) H locs := Y
    replace hl : lv_has ls 5 [(0, .ref h), (1, .int i1), (2, .int i2), (3, .int st2_1), (4, .int st2_2_1)] := hl
    refine r_iload (pc' := 20) X hl 4 rfl 11 rfl rfl ?_
    refine r_bipush (pc' := 22) X (6 : Int32) 12 rfl rfl rfl ?_
    refine r_icmp_gt (pc' := 25) X 46 13 rfl rfl (by decide) (fun c3 => ?_) (fun c3 => ?_)
    · replace hM := mI hM c3
      exact KX2 st2_1 st2_2_2_1 st2_2_2_2_points st2_2_2_2_home st2_2_2_2_men st2_2_2_2_turn st2_2_2_2_thrower st2_2_2_2_cube st2_2_2_2_owner st2_2_2_2_firms st2_2_2_2_kindsTold st2_2_2_2_places st2_2_2_2_crowds st2_2_2_2_pipsLeft st2_2_2_2_notHome _ _ _ hM Y (lv_sub hl [3] rfl)
    · replace hM := mE hM c3
      refine r_iload_n (pc' := 26) X hl 3 rfl rfl 14 rfl rfl ?_
      refine r_aload_n (pc' := 27) X hl 0 rfl rfl 15 rfl rfl ?_
      refine r_iconst (pc' := 28) X (1 : Int32) 16 rfl rfl rfl ?_
      refine r_iload_n (pc' := 29) X hl 1 rfl rfl 17 rfl rfl ?_
      refine r_isub (pc' := 30) X 18 rfl rfl ?_
      refine r_iload (pc' := 32) X hl 4 rfl 19 rfl rfl ?_
      refine r_iload_n (pc' := 33) X hl 2 rfl rfl 20 rfl rfl ?_
      refine r_iconst (pc' := 34) X (1 : Int32) 21 rfl rfl rfl ?_
      refine r_isub (pc' := 35) X 22 rfl rfl ?_
      refine r_callV (pc' := 38) (As := [.int ((1 : Int32) - i1), .int st2_2_1, .int (i2 - (1 : Int32))]) (rest := [.int st2_1]) (wr := ([] : va_W)) X Y 23 rfl rfl mRX3_63 (c_X3_greatestWorth_0 l G h h_spare h_told h_spare_firms h_spare_kindsTold h_spare_places h_spare_crowds h_spare_pipsLeft h_spare_notHome st2_2_2_1 st2_2_2_2_points st2_2_2_2_home st2_2_2_2_men st2_2_2_2_turn st2_2_2_2_thrower st2_2_2_2_cube st2_2_2_2_owner st2_2_2_2_firms st2_2_2_2_kindsTold st2_2_2_2_places st2_2_2_2_crowds st2_2_2_2_pipsLeft st2_2_2_2_notHome (((1 : Int32) - i1)) st2_2_1 ((i2 - (1 : Int32)))) (mB hM hne2) 0 rfl rfl [0, 1, 2, 3, 4, 5, 6, 7] [] [0, 1, 2, 3, 4, 5, 6, 7] rfl rfl ⟨rfl, rfl, rfl⟩ rfl (w2 := fun u4 => wFS G h h_spare h_told u4.2.1 ++ wBD G h_spare h_spare_firms h_spare_kindsTold h_spare_places h_spare_crowds h_spare_pipsLeft h_spare_notHome u4.2.2.1 u4.2.2.2.1 u4.2.2.2.2.1 u4.2.2.2.2.2.1 u4.2.2.2.2.2.2.1 u4.2.2.2.2.2.2.2.1 u4.2.2.2.2.2.2.2.2.1 u4.2.2.2.2.2.2.2.2.2.1 u4.2.2.2.2.2.2.2.2.2.2.1 u4.2.2.2.2.2.2.2.2.2.2.2.1 u4.2.2.2.2.2.2.2.2.2.2.2.2.1 u4.2.2.2.2.2.2.2.2.2.2.2.2.2.1 u4.2.2.2.2.2.2.2.2.2.2.2.2.2.2) (fun _ => rfl) rfl (Nat.le_of_ble_eq_true rfl) ⟨rfl, rfl⟩ ⟨Nat.le_of_ble_eq_true rfl, Nat.le_of_ble_eq_true rfl⟩ ⟨Nat.zero_le _, Nat.zero_le _⟩ hl.1 (st' := fun u4 => [.int u4.1, .int st2_1]) (fun _ => rfl) (fun u4 H locs huu4 Y => ?_)
      obtain ⟨u4_1, u4_2_1, ⟨u4_2_2_points, u4_2_2_home, u4_2_2_men, u4_2_2_turn, u4_2_2_thrower, u4_2_2_cube, u4_2_2_owner, u4_2_2_firms, u4_2_2_kindsTold, u4_2_2_places, u4_2_2_crowds, u4_2_2_pipsLeft, u4_2_2_notHome⟩⟩ := u4
      replace Y : rY G A s (wFS G h h_spare h_told u4_2_1 ++ wBD G h_spare h_spare_firms h_spare_kindsTold h_spare_places h_spare_crowds h_spare_pipsLeft h_spare_notHome u4_2_2_points u4_2_2_home u4_2_2_men u4_2_2_turn u4_2_2_thrower u4_2_2_cube u4_2_2_owner u4_2_2_firms u4_2_2_kindsTold u4_2_2_places u4_2_2_crowds u4_2_2_pipsLeft u4_2_2_notHome) H locs := Y
      replace hM := mS hM huu4
      show W p l e q_X3_worthTo_1 s m args below meth c H locs 0 0 Q (F0 m 38 ls [.int u4_1, .int st2_1])
      refine r_iadd (pc' := 39) X 24 rfl rfl ?_
      refine r_istore_n (pc' := 40) (L' := [(3, .int (st2_1 + u4_1)), (0, .ref h), (1, .int i1), (2, .int i2), (4, .int st2_2_1)]) X hl rfl 25 rfl rfl (by decide) rfl (fun ls hl => ?_)
      refine r_iinc (pc' := 43) (L' := [(4, .int (st2_2_1 + (1 : Int32))), (3, .int (st2_1 + u4_1)), (0, .ref h), (1, .int i1), (2, .int i2)]) X (st2_2_1 + (1 : Int32)) hl 4 rfl rfl 26 rfl rfl (by decide) rfl (fun ls hl => ?_)
      refine r_goto X 18 27 rfl (by decide) ?_
      exact IH2 _ hM _ _ _ Y (lv_sub hl [2, 3, 4, 1, 0] rfl)
  · replace hM := mE hM c1
    refine r_aload_n (pc' := 5) X hl 0 rfl rfl 2 rfl rfl ?_
    refine r_get (pc' := 8) (v := .ref h_spare) X Y 3 rfl rfl fRX3_12 0 rfl rfl ?_
    refine r_iload_n (pc' := 9) X hl 1 rfl rfl 4 rfl rfl ?_
    refine r_callV0 (pc' := 12) (As := [.int i1]) (rest := []) X Y 5 rfl rfl mRX3_59 (c_X2_lead l G h_spare h_spare_firms h_spare_kindsTold h_spare_places h_spare_crowds h_spare_pipsLeft h_spare_notHome S1_points S1_home S1_men S1_turn S1_thrower S1_cube S1_owner S1_firms S1_kindsTold S1_places S1_crowds S1_pipsLeft S1_notHome i1) (mB hM hne) 1 rfl rfl [1, 2, 3, 4, 5, 6, 7] rfl rfl rfl (Nat.le_of_ble_eq_true rfl) ⟨rfl, rfl⟩ ⟨Nat.le_of_ble_eq_true rfl, Nat.le_of_ble_eq_true rfl⟩ ⟨Nat.zero_le _, Nat.zero_le _⟩ hl.1 (st' := fun u5 => [.int u5]) (fun _ => rfl) (fun u5 H locs huu5 Y => ?_)
    replace hM := mS hM huu5
    exact RT (u5, S0, (S1_points, S1_home, S1_men, S1_turn, S1_thrower, S1_cube, S1_owner, S1_firms, S1_kindsTold, S1_places, S1_crowds, S1_pipsLeft, S1_notHome)) _ _ _ _ _ hM (Or.inl ⟨rfl, rfl, _, rfl⟩) (X.d (k := 6) rfl) Y

def M_X3_worthBehind_1 (S0 : FS) (S1 : BD) (i1 : Int32) (i2 : Int32) (i3 : Int32) : Option (Int32 × FS × BD) :=
  (if inb i1 8 = true then ((M_X2_go S1 i1 i2).bind (fun u2 => ((M_X3_worthTo_1 S0 u2.2 (((bd_firms u2.2) (i1).toNatClampNeg)) i3).bind (fun u3 => ((M_X2_put u3.2.2 i1 (((bd_places S1) (i1).toNatClampNeg))).bind (fun u4 => (if u2.1 = (-1000000 : Int32) then (some (u3.1, u3.2.1, u4)) else ((M_X2_put u4 u2.1 (((bd_places u2.2) (i1).toNatClampNeg))).bind (fun u6 => (some (u3.1, u3.2.1, u6))))))))))) else none)
def q_X3_worthBehind_1 : Room := { frames := 8, cells := 0, slots := 0, locals := 230 }
set_option maxHeartbeats 4000000 in
set_option maxRecDepth 100000 in
theorem c_X3_worthBehind_1 (l : Launch) (G : gT) (h h_spare h_told h_spare_firms h_spare_kindsTold h_spare_places h_spare_crowds h_spare_pipsLeft h_spare_notHome : Nat) (S0 : Int32) (S1_points : Int32) (S1_home : Int32) (S1_men : Int32) (S1_turn : Int32) (S1_thrower : Int32) (S1_cube : Int32) (S1_owner : Int32) (S1_firms : Nat → Int32) (S1_kindsTold : Nat → Int32) (S1_places : Nat → Int32) (S1_crowds : Nat → Int32) (S1_pipsLeft : Nat → Int32) (S1_notHome : Nat → Int32) (i1 : Int32) (i2 : Int32) (i3 : Int32) : CT l G yX3_worthBehind cX3_worthBehind 8 (some .int) q_X3_worthBehind_1 [.ref h, .int i1, .int i2, .int i3] (wFS G h h_spare h_told S0 ++ wBD G h_spare h_spare_firms h_spare_kindsTold h_spare_places h_spare_crowds h_spare_pipsLeft h_spare_notHome S1_points S1_home S1_men S1_turn S1_thrower S1_cube S1_owner S1_firms S1_kindsTold S1_places S1_crowds S1_pipsLeft S1_notHome) (M_X3_worthBehind_1 S0 (S1_points, S1_home, S1_men, S1_turn, S1_thrower, S1_cube, S1_owner, S1_firms, S1_kindsTold, S1_places, S1_crowds, S1_pipsLeft, S1_notHome) i1 i2 i3) (fun u => some (.int u.1)) (fun u => wFS G h h_spare h_told u.2.1 ++ wBD G h_spare h_spare_firms h_spare_kindsTold h_spare_places h_spare_crowds h_spare_pipsLeft h_spare_notHome u.2.2.1 u.2.2.2.1 u.2.2.2.2.1 u.2.2.2.2.2.1 u.2.2.2.2.2.2.1 u.2.2.2.2.2.2.2.1 u.2.2.2.2.2.2.2.2.1 u.2.2.2.2.2.2.2.2.2.1 u.2.2.2.2.2.2.2.2.2.2.1 u.2.2.2.2.2.2.2.2.2.2.2.1 u.2.2.2.2.2.2.2.2.2.2.2.2.1 u.2.2.2.2.2.2.2.2.2.2.2.2.2.1 u.2.2.2.2.2.2.2.2.2.2.2.2.2.2) := by
  refine CT.of (P := PX3_worthBehind) (by decide) dPX3_worthBehind (Nat.le_of_ble_eq_true rfl) ?_
  intro p e s m args below meth c A Q ls hne X RT Y hl
  have hl : lv_has ls 8 [(0, .ref h), (1, .int i1), (2, .int i2), (3, .int i3)] := hl
  generalize hM : M_X3_worthBehind_1 S0 (S1_points, S1_home, S1_men, S1_turn, S1_thrower, S1_cube, S1_owner, S1_firms, S1_kindsTold, S1_places, S1_crowds, S1_pipsLeft, S1_notHome) i1 i2 i3 = MM at hne RT
  unfold M_X3_worthBehind_1 at hM
  refine r_aload_n (pc' := 1) X hl 0 rfl rfl 0 rfl rfl ?_
  refine r_get (pc' := 4) (v := .ref h_spare) X Y 1 rfl rfl fRX3_12 0 rfl rfl ?_
  refine r_getN (pc' := 7) (v := .ref h_spare_places) X Y 2 rfl rfl fRX3_49 1 rfl rfl ?_
  refine r_iload_n (pc' := 8) X hl 1 rfl rfl 3 rfl rfl ?_
  obtain ⟨g1, hM⟩ := mG hM hne
  refine r_iald (pc' := 9) X Y 4 rfl rfl 4 rfl (vin g1) ?_
  refine r_istore (pc' := 11) (L' := [(4, .int (S1_places (i1).toNatClampNeg)), (0, .ref h), (1, .int i1), (2, .int i2), (3, .int i3)]) X hl 5 rfl rfl (by decide) rfl (fun ls hl => ?_)
  refine r_aload_n (pc' := 12) X hl 1 rfl rfl 6 rfl rfl ?_
  refine r_get (pc' := 15) (v := .ref h_spare) X Y 7 rfl rfl fRX3_12 0 rfl rfl ?_
  refine r_iload_n (pc' := 16) X hl 2 rfl rfl 8 rfl rfl ?_
  refine r_iload_n (pc' := 17) X hl 3 rfl rfl 9 rfl rfl ?_
  refine r_callV (pc' := 20) (As := [.int i1, .int i2]) (rest := []) (wr := (wFS G h h_spare h_told S0 : va_W)) X Y 10 rfl rfl mRX3_52 (c_X2_go l G h_spare h_spare_firms h_spare_kindsTold h_spare_places h_spare_crowds h_spare_pipsLeft h_spare_notHome S1_points S1_home S1_men S1_turn S1_thrower S1_cube S1_owner S1_firms S1_kindsTold S1_places S1_crowds S1_pipsLeft S1_notHome i1 i2) (mB hM hne) 1 rfl rfl [1, 2, 3, 4, 5, 6, 7] [0] [0, 1, 2, 3, 4, 5, 6, 7] rfl rfl ⟨rfl, rfl, rfl⟩ rfl (w2 := fun u2 => wFS G h h_spare h_told S0 ++ wBD G h_spare h_spare_firms h_spare_kindsTold h_spare_places h_spare_crowds h_spare_pipsLeft h_spare_notHome u2.2.1 u2.2.2.1 u2.2.2.2.1 u2.2.2.2.2.1 u2.2.2.2.2.2.1 u2.2.2.2.2.2.2.1 u2.2.2.2.2.2.2.2.1 u2.2.2.2.2.2.2.2.2.1 u2.2.2.2.2.2.2.2.2.2.1 u2.2.2.2.2.2.2.2.2.2.2.1 u2.2.2.2.2.2.2.2.2.2.2.2.1 u2.2.2.2.2.2.2.2.2.2.2.2.2.1 u2.2.2.2.2.2.2.2.2.2.2.2.2.2) (fun _ => rfl) rfl (Nat.le_of_ble_eq_true rfl) ⟨rfl, rfl⟩ ⟨Nat.le_of_ble_eq_true rfl, Nat.le_of_ble_eq_true rfl⟩ ⟨Nat.zero_le _, Nat.zero_le _⟩ hl.1 (st' := fun u2 => [.int u2.1]) (fun _ => rfl) (fun u2 H locs huu2 Y => ?_)
  obtain ⟨u2_1, ⟨u2_2_points, u2_2_home, u2_2_men, u2_2_turn, u2_2_thrower, u2_2_cube, u2_2_owner, u2_2_firms, u2_2_kindsTold, u2_2_places, u2_2_crowds, u2_2_pipsLeft, u2_2_notHome⟩⟩ := u2
  replace Y : rY G A s (wFS G h h_spare h_told S0 ++ wBD G h_spare h_spare_firms h_spare_kindsTold h_spare_places h_spare_crowds h_spare_pipsLeft h_spare_notHome u2_2_points u2_2_home u2_2_men u2_2_turn u2_2_thrower u2_2_cube u2_2_owner u2_2_firms u2_2_kindsTold u2_2_places u2_2_crowds u2_2_pipsLeft u2_2_notHome) H locs := Y
  replace hM := mS hM huu2
  show W p l e q_X3_worthBehind_1 s m args below meth c H locs 0 0 Q (F0 m 20 ls [.int u2_1])
  refine r_istore (pc' := 22) (L' := [(5, .int u2_1), (4, .int (S1_places (i1).toNatClampNeg)), (0, .ref h), (1, .int i1), (2, .int i2), (3, .int i3)]) X hl 11 rfl rfl (by decide) rfl (fun ls hl => ?_)
  refine r_aload_n (pc' := 23) X hl 2 rfl rfl 12 rfl rfl ?_
  refine r_get (pc' := 26) (v := .ref h_spare) X Y 13 rfl rfl fRX3_12 0 rfl rfl ?_
  refine r_getN (pc' := 29) (v := .ref h_spare_places) X Y 14 rfl rfl fRX3_49 1 rfl rfl ?_
  refine r_iload_n (pc' := 30) X hl 3 rfl rfl 15 rfl rfl ?_
  refine r_iald (pc' := 31) X Y 16 rfl rfl 4 rfl (vin g1) ?_
  refine r_istore (pc' := 33) (L' := [(6, .int (u2_2_places (i1).toNatClampNeg)), (5, .int u2_1), (4, .int (S1_places (i1).toNatClampNeg)), (0, .ref h), (1, .int i1), (2, .int i2), (3, .int i3)]) X hl 17 rfl rfl (by decide) rfl (fun ls hl => ?_)
  refine r_aload_n (pc' := 34) X hl 3 rfl rfl 18 rfl rfl ?_
  refine r_aload_n (pc' := 35) X hl 3 rfl rfl 19 rfl rfl ?_
  refine r_get (pc' := 38) (v := .ref h_spare) X Y 20 rfl rfl fRX3_12 0 rfl rfl ?_
  refine r_getN (pc' := 41) (v := .ref h_spare_firms) X Y 21 rfl rfl fRX3_34 1 rfl rfl ?_
  refine r_iload_n (pc' := 42) X hl 4 rfl rfl 22 rfl rfl ?_
  refine r_iald (pc' := 43) X Y 23 rfl rfl 2 rfl (vin g1) ?_
  refine r_iload_n (pc' := 44) X hl 6 rfl rfl 24 rfl rfl ?_
  refine r_callV (pc' := 47) (As := [.int (u2_2_firms (i1).toNatClampNeg), .int i3]) (rest := []) (wr := ([] : va_W)) X Y 25 rfl rfl mRX3_45 (c_X3_worthTo_1 l G h h_spare h_told h_spare_firms h_spare_kindsTold h_spare_places h_spare_crowds h_spare_pipsLeft h_spare_notHome S0 u2_2_points u2_2_home u2_2_men u2_2_turn u2_2_thrower u2_2_cube u2_2_owner u2_2_firms u2_2_kindsTold u2_2_places u2_2_crowds u2_2_pipsLeft u2_2_notHome ((u2_2_firms (i1).toNatClampNeg)) i3) (mB hM hne) 0 rfl rfl [0, 1, 2, 3, 4, 5, 6, 7] [] [0, 1, 2, 3, 4, 5, 6, 7] rfl rfl ⟨rfl, rfl, rfl⟩ rfl (w2 := fun u3 => wFS G h h_spare h_told u3.2.1 ++ wBD G h_spare h_spare_firms h_spare_kindsTold h_spare_places h_spare_crowds h_spare_pipsLeft h_spare_notHome u3.2.2.1 u3.2.2.2.1 u3.2.2.2.2.1 u3.2.2.2.2.2.1 u3.2.2.2.2.2.2.1 u3.2.2.2.2.2.2.2.1 u3.2.2.2.2.2.2.2.2.1 u3.2.2.2.2.2.2.2.2.2.1 u3.2.2.2.2.2.2.2.2.2.2.1 u3.2.2.2.2.2.2.2.2.2.2.2.1 u3.2.2.2.2.2.2.2.2.2.2.2.2.1 u3.2.2.2.2.2.2.2.2.2.2.2.2.2.1 u3.2.2.2.2.2.2.2.2.2.2.2.2.2.2) (fun _ => rfl) rfl (Nat.le_of_ble_eq_true rfl) ⟨rfl, rfl⟩ ⟨Nat.le_of_ble_eq_true rfl, Nat.le_of_ble_eq_true rfl⟩ ⟨Nat.zero_le _, Nat.zero_le _⟩ hl.1 (st' := fun u3 => [.int u3.1]) (fun _ => rfl) (fun u3 H locs huu3 Y => ?_)
  obtain ⟨u3_1, u3_2_1, ⟨u3_2_2_points, u3_2_2_home, u3_2_2_men, u3_2_2_turn, u3_2_2_thrower, u3_2_2_cube, u3_2_2_owner, u3_2_2_firms, u3_2_2_kindsTold, u3_2_2_places, u3_2_2_crowds, u3_2_2_pipsLeft, u3_2_2_notHome⟩⟩ := u3
  replace Y : rY G A s (wFS G h h_spare h_told u3_2_1 ++ wBD G h_spare h_spare_firms h_spare_kindsTold h_spare_places h_spare_crowds h_spare_pipsLeft h_spare_notHome u3_2_2_points u3_2_2_home u3_2_2_men u3_2_2_turn u3_2_2_thrower u3_2_2_cube u3_2_2_owner u3_2_2_firms u3_2_2_kindsTold u3_2_2_places u3_2_2_crowds u3_2_2_pipsLeft u3_2_2_notHome) H locs := Y
  replace hM := mS hM huu3
  show W p l e q_X3_worthBehind_1 s m args below meth c H locs 0 0 Q (F0 m 47 ls [.int u3_1])
  refine r_istore (pc' := 49) (L' := [(7, .int u3_1), (6, .int (u2_2_places (i1).toNatClampNeg)), (5, .int u2_1), (4, .int (S1_places (i1).toNatClampNeg)), (0, .ref h), (1, .int i1), (2, .int i2), (3, .int i3)]) X hl 26 rfl rfl (by decide) rfl (fun ls hl => ?_)
  refine r_aload_n (pc' := 50) X hl 4 rfl rfl 27 rfl rfl ?_
  refine r_get (pc' := 53) (v := .ref h_spare) X Y 28 rfl rfl fRX3_12 0 rfl rfl ?_
  refine r_iload_n (pc' := 54) X hl 5 rfl rfl 29 rfl rfl ?_
  refine r_iload (pc' := 56) X hl 3 rfl 30 rfl rfl ?_
  refine r_callV (pc' := 59) (As := [.int i1, .int (S1_places (i1).toNatClampNeg)]) (rest := []) (wr := (wFS G h h_spare h_told u3_2_1 : va_W)) X Y 31 rfl rfl mRX3_55 (c_X2_put l G h_spare h_spare_firms h_spare_kindsTold h_spare_places h_spare_crowds h_spare_pipsLeft h_spare_notHome u3_2_2_points u3_2_2_home u3_2_2_men u3_2_2_turn u3_2_2_thrower u3_2_2_cube u3_2_2_owner u3_2_2_firms u3_2_2_kindsTold u3_2_2_places u3_2_2_crowds u3_2_2_pipsLeft u3_2_2_notHome i1 ((S1_places (i1).toNatClampNeg))) (mB hM hne) 1 rfl rfl [1, 2, 3, 4, 5, 6, 7] [0] [0, 1, 2, 3, 4, 5, 6, 7] rfl rfl ⟨rfl, rfl, rfl⟩ rfl (w2 := fun u4 => wFS G h h_spare h_told u3_2_1 ++ wBD G h_spare h_spare_firms h_spare_kindsTold h_spare_places h_spare_crowds h_spare_pipsLeft h_spare_notHome u4.1 u4.2.1 u4.2.2.1 u4.2.2.2.1 u4.2.2.2.2.1 u4.2.2.2.2.2.1 u4.2.2.2.2.2.2.1 u4.2.2.2.2.2.2.2.1 u4.2.2.2.2.2.2.2.2.1 u4.2.2.2.2.2.2.2.2.2.1 u4.2.2.2.2.2.2.2.2.2.2.1 u4.2.2.2.2.2.2.2.2.2.2.2.1 u4.2.2.2.2.2.2.2.2.2.2.2.2) (fun _ => rfl) rfl (Nat.le_of_ble_eq_true rfl) ⟨rfl, rfl⟩ ⟨Nat.le_of_ble_eq_true rfl, Nat.le_of_ble_eq_true rfl⟩ ⟨Nat.zero_le _, Nat.zero_le _⟩ hl.1 (st' := fun u4 => []) (fun _ => rfl) (fun u4 H locs huu4 Y => ?_)
  obtain ⟨u4_points, u4_home, u4_men, u4_turn, u4_thrower, u4_cube, u4_owner, u4_firms, u4_kindsTold, u4_places, u4_crowds, u4_pipsLeft, u4_notHome⟩ := u4
  replace Y : rY G A s (wFS G h h_spare h_told u3_2_1 ++ wBD G h_spare h_spare_firms h_spare_kindsTold h_spare_places h_spare_crowds h_spare_pipsLeft h_spare_notHome u4_points u4_home u4_men u4_turn u4_thrower u4_cube u4_owner u4_firms u4_kindsTold u4_places u4_crowds u4_pipsLeft u4_notHome) H locs := Y
  replace hM := mS hM huu4
  show W p l e q_X3_worthBehind_1 s m args below meth c H locs 0 0 Q (F0 m 59 ls [])
  refine r_iload (pc' := 61) X hl 2 rfl 32 rfl rfl ?_
  refine r_ldc (pc' := 63) X mw154 33 rfl rfl ?_
  refine r_icmp_eq (pc' := 66) X 77 34 rfl rfl (by decide) (fun c5 => ?_) (fun c5 => ?_)
  · replace hM := mI hM c5
    refine r_iload (pc' := 79) X hl 0 rfl 40 rfl rfl ?_
    exact RT (u3_1, u3_2_1, (u4_points, u4_home, u4_men, u4_turn, u4_thrower, u4_cube, u4_owner, u4_firms, u4_kindsTold, u4_places, u4_crowds, u4_pipsLeft, u4_notHome)) _ _ _ _ _ hM (Or.inl ⟨rfl, rfl, _, rfl⟩) (X.d (k := 41) rfl) Y
  · replace hM := mE hM c5
    refine r_aload_n (pc' := 67) X hl 4 rfl rfl 35 rfl rfl ?_
    refine r_get (pc' := 70) (v := .ref h_spare) X Y 36 rfl rfl fRX3_12 0 rfl rfl ?_
    refine r_iload (pc' := 72) X hl 2 rfl 37 rfl rfl ?_
    refine r_iload (pc' := 74) X hl 1 rfl 38 rfl rfl ?_
    refine r_callV (pc' := 77) (As := [.int u2_1, .int (u2_2_places (i1).toNatClampNeg)]) (rest := []) (wr := (wFS G h h_spare h_told u3_2_1 : va_W)) X Y 39 rfl rfl mRX3_55 (c_X2_put l G h_spare h_spare_firms h_spare_kindsTold h_spare_places h_spare_crowds h_spare_pipsLeft h_spare_notHome u4_points u4_home u4_men u4_turn u4_thrower u4_cube u4_owner u4_firms u4_kindsTold u4_places u4_crowds u4_pipsLeft u4_notHome u2_1 ((u2_2_places (i1).toNatClampNeg))) (mB hM hne) 1 rfl rfl [1, 2, 3, 4, 5, 6, 7] [0] [0, 1, 2, 3, 4, 5, 6, 7] rfl rfl ⟨rfl, rfl, rfl⟩ rfl (w2 := fun u6 => wFS G h h_spare h_told u3_2_1 ++ wBD G h_spare h_spare_firms h_spare_kindsTold h_spare_places h_spare_crowds h_spare_pipsLeft h_spare_notHome u6.1 u6.2.1 u6.2.2.1 u6.2.2.2.1 u6.2.2.2.2.1 u6.2.2.2.2.2.1 u6.2.2.2.2.2.2.1 u6.2.2.2.2.2.2.2.1 u6.2.2.2.2.2.2.2.2.1 u6.2.2.2.2.2.2.2.2.2.1 u6.2.2.2.2.2.2.2.2.2.2.1 u6.2.2.2.2.2.2.2.2.2.2.2.1 u6.2.2.2.2.2.2.2.2.2.2.2.2) (fun _ => rfl) rfl (Nat.le_of_ble_eq_true rfl) ⟨rfl, rfl⟩ ⟨Nat.le_of_ble_eq_true rfl, Nat.le_of_ble_eq_true rfl⟩ ⟨Nat.zero_le _, Nat.zero_le _⟩ hl.1 (st' := fun u6 => []) (fun _ => rfl) (fun u6 H locs huu6 Y => ?_)
    obtain ⟨u6_points, u6_home, u6_men, u6_turn, u6_thrower, u6_cube, u6_owner, u6_firms, u6_kindsTold, u6_places, u6_crowds, u6_pipsLeft, u6_notHome⟩ := u6
    replace Y : rY G A s (wFS G h h_spare h_told u3_2_1 ++ wBD G h_spare h_spare_firms h_spare_kindsTold h_spare_places h_spare_crowds h_spare_pipsLeft h_spare_notHome u6_points u6_home u6_men u6_turn u6_thrower u6_cube u6_owner u6_firms u6_kindsTold u6_places u6_crowds u6_pipsLeft u6_notHome) H locs := Y
    replace hM := mS hM huu6
    show W p l e q_X3_worthBehind_1 s m args below meth c H locs 0 0 Q (F0 m 77 ls [])
    refine r_iload (pc' := 79) X hl 0 rfl 40 rfl rfl ?_
    exact RT (u3_1, u3_2_1, (u6_points, u6_home, u6_men, u6_turn, u6_thrower, u6_cube, u6_owner, u6_firms, u6_kindsTold, u6_places, u6_crowds, u6_pipsLeft, u6_notHome)) _ _ _ _ _ hM (Or.inl ⟨rfl, rfl, _, rfl⟩) (X.d (k := 41) rfl) Y

def M_X3_greatestWorth_1 (S0 : FS) (S1 : BD) (i1 : Int32) (i2 : Int32) (i3 : Int32) : Option (Int32 × FS × BD) :=
  ((lp (σ := Int32 × Int32 × Int32 × Int32 × BD) (β := Int32 × Int32 × Int32 × BD) (fun rec1 st1 => (if (bd_men st1.2.2.2.2) ≤ st1.2.2.1 then (some (st1.1, st1.2.1, st1.2.2.2.1, st1.2.2.2.2)) else (if inb st1.2.2.1 8 = true then (if ((bd_firms st1.2.2.2.2) (st1.2.2.1).toNatClampNeg) = i1 then ((M_X2_canGo st1.2.2.2.2 st1.2.2.1 i2).bind (fun u7 => (if u7 = 0 then (rec1 (st1.1, st1.2.1, (st1.2.2.1 + (1 : Int32)), st1.2.2.2.1, st1.2.2.2.2)) else ((M_X3_worthBehind_1 st1.2.2.2.1 st1.2.2.2.2 st1.2.2.1 i2 i3).bind (fun u9 => (jn (σ := Unit) (fun v10 => (rec1 (st1.2.2.1, u9.1, (st1.2.2.1 + (1 : Int32)), u9.2.1, u9.2.2))) (fun J10 => (if st1.1 = (-1000000 : Int32) then (J10 ()) else (if u9.1 ≤ st1.2.1 then (rec1 (st1.1, st1.2.1, (st1.2.2.1 + (1 : Int32)), u9.2.1, u9.2.2)) else (J10 ())))))))))) else (rec1 (st1.1, st1.2.1, (st1.2.2.1 + (1 : Int32)), st1.2.2.2.1, st1.2.2.2.2))) else none))) 1000000 ((-1000000 : Int32), (0 : Int32), (0 : Int32), S0, S1)).bind (fun b1 => (if b1.1 = (-1000000 : Int32) then ((M_X3_worthTo_1 b1.2.2.1 b1.2.2.2 i1 i3).bind (fun u3 => (some (u3.1, b1.1, u3.2.2)))) else (some (b1.2.1, b1.1, b1.2.2.2)))))
def q_X3_greatestWorth_1 : Room := { frames := 9, cells := 0, slots := 0, locals := 257 }
set_option maxHeartbeats 4000000 in
set_option maxRecDepth 100000 in
theorem c_X3_greatestWorth_1 (l : Launch) (G : gT) (h h_spare h_told h_spare_firms h_spare_kindsTold h_spare_places h_spare_crowds h_spare_pipsLeft h_spare_notHome : Nat) (S0 : Int32) (S1_points : Int32) (S1_home : Int32) (S1_men : Int32) (S1_turn : Int32) (S1_thrower : Int32) (S1_cube : Int32) (S1_owner : Int32) (S1_firms : Nat → Int32) (S1_kindsTold : Nat → Int32) (S1_places : Nat → Int32) (S1_crowds : Nat → Int32) (S1_pipsLeft : Nat → Int32) (S1_notHome : Nat → Int32) (i1 : Int32) (i2 : Int32) (i3 : Int32) : CT l G yX3_greatestWorth cX3_greatestWorth 8 (some .int) q_X3_greatestWorth_1 [.ref h, .int i1, .int i2, .int i3] (wFS G h h_spare h_told S0 ++ wBD G h_spare h_spare_firms h_spare_kindsTold h_spare_places h_spare_crowds h_spare_pipsLeft h_spare_notHome S1_points S1_home S1_men S1_turn S1_thrower S1_cube S1_owner S1_firms S1_kindsTold S1_places S1_crowds S1_pipsLeft S1_notHome) (M_X3_greatestWorth_1 S0 (S1_points, S1_home, S1_men, S1_turn, S1_thrower, S1_cube, S1_owner, S1_firms, S1_kindsTold, S1_places, S1_crowds, S1_pipsLeft, S1_notHome) i1 i2 i3) (fun u => some (.int u.1)) (fun u => wFS G h h_spare h_told u.2.1 ++ wBD G h_spare h_spare_firms h_spare_kindsTold h_spare_places h_spare_crowds h_spare_pipsLeft h_spare_notHome u.2.2.1 u.2.2.2.1 u.2.2.2.2.1 u.2.2.2.2.2.1 u.2.2.2.2.2.2.1 u.2.2.2.2.2.2.2.1 u.2.2.2.2.2.2.2.2.1 u.2.2.2.2.2.2.2.2.2.1 u.2.2.2.2.2.2.2.2.2.2.1 u.2.2.2.2.2.2.2.2.2.2.2.1 u.2.2.2.2.2.2.2.2.2.2.2.2.1 u.2.2.2.2.2.2.2.2.2.2.2.2.2.1 u.2.2.2.2.2.2.2.2.2.2.2.2.2.2) := by
  refine CT.of (P := PX3_greatestWorth) (by decide) dPX3_greatestWorth (Nat.le_of_ble_eq_true rfl) ?_
  intro p e s m args below meth c A Q ls hne X RT Y hl
  have hl : lv_has ls 8 [(0, .ref h), (1, .int i1), (2, .int i2), (3, .int i3)] := hl
  generalize hM : M_X3_greatestWorth_1 S0 (S1_points, S1_home, S1_men, S1_turn, S1_thrower, S1_cube, S1_owner, S1_firms, S1_kindsTold, S1_places, S1_crowds, S1_pipsLeft, S1_notHome) i1 i2 i3 = MM at hne RT
  unfold M_X3_greatestWorth_1 at hM
  refine r_ldc (pc' := 2) X mw154 0 rfl rfl ?_
  refine r_istore (pc' := 4) (L' := [(4, .int (-1000000 : Int32)), (0, .ref h), (1, .int i1), (2, .int i2), (3, .int i3)]) X hl 1 rfl rfl (by decide) rfl (fun ls hl => ?_)
  refine r_iconst (pc' := 5) X (0 : Int32) 2 rfl rfl rfl ?_
  refine r_istore (pc' := 7) (L' := [(5, .int (0 : Int32)), (4, .int (-1000000 : Int32)), (0, .ref h), (1, .int i1), (2, .int i2), (3, .int i3)]) X hl 3 rfl rfl (by decide) rfl (fun ls hl => ?_)
  refine r_iconst (pc' := 8) X (0 : Int32) 4 rfl rfl rfl ?_
  refine r_istore (pc' := 10) (L' := [(6, .int (0 : Int32)), (5, .int (0 : Int32)), (4, .int (-1000000 : Int32)), (0, .ref h), (1, .int i1), (2, .int i2), (3, .int i3)]) X hl 5 rfl rfl (by decide) rfl (fun ls hl => ?_)
  obtain ⟨LL1, hL1, hne1, hX1⟩ := mL hM hne
  have KX1 : ∀ (b1_1 : Int32) (b1_2_1 : Int32) (b1_2_2_1 : Int32) (b1_2_2_2_points : Int32) (b1_2_2_2_home : Int32) (b1_2_2_2_men : Int32) (b1_2_2_2_turn : Int32) (b1_2_2_2_thrower : Int32) (b1_2_2_2_cube : Int32) (b1_2_2_2_owner : Int32) (b1_2_2_2_firms : Nat → Int32) (b1_2_2_2_kindsTold : Nat → Int32) (b1_2_2_2_places : Nat → Int32) (b1_2_2_2_crowds : Nat → Int32) (b1_2_2_2_pipsLeft : Nat → Int32) (b1_2_2_2_notHome : Nat → Int32) (H : Heap) (locs : List Loc) (ls : Array Slot), some (b1_1, b1_2_1, b1_2_2_1, (b1_2_2_2_points, b1_2_2_2_home, b1_2_2_2_men, b1_2_2_2_turn, b1_2_2_2_thrower, b1_2_2_2_cube, b1_2_2_2_owner, b1_2_2_2_firms, b1_2_2_2_kindsTold, b1_2_2_2_places, b1_2_2_2_crowds, b1_2_2_2_pipsLeft, b1_2_2_2_notHome)) = LL1 → rY G A s (wFS G h h_spare h_told b1_2_2_1 ++ wBD G h_spare h_spare_firms h_spare_kindsTold h_spare_places h_spare_crowds h_spare_pipsLeft h_spare_notHome b1_2_2_2_points b1_2_2_2_home b1_2_2_2_men b1_2_2_2_turn b1_2_2_2_thrower b1_2_2_2_cube b1_2_2_2_owner b1_2_2_2_firms b1_2_2_2_kindsTold b1_2_2_2_places b1_2_2_2_crowds b1_2_2_2_pipsLeft b1_2_2_2_notHome) H locs → lv_has ls 8 [(0, .ref h), (1, .int i1), (3, .int i3), (4, .int b1_1), (5, .int b1_2_1)] → W p l e q_X3_greatestWorth_1 s m args below meth c H locs 0 0 Q (F0 m 87 ls []) := by
    intro b1_1 b1_2_1 b1_2_2_1 b1_2_2_2_points b1_2_2_2_home b1_2_2_2_men b1_2_2_2_turn b1_2_2_2_thrower b1_2_2_2_cube b1_2_2_2_owner b1_2_2_2_firms b1_2_2_2_kindsTold b1_2_2_2_places b1_2_2_2_crowds b1_2_2_2_pipsLeft b1_2_2_2_notHome H locs ls hM Y hl
    replace hM := hX1 _ hM
    refine r_iload (pc' := 89) X hl 3 rfl 42 rfl rfl ?_
    refine r_ldc (pc' := 91) X mw154 43 rfl rfl ?_
    refine r_icmp_ne (pc' := 94) X 102 44 rfl rfl (by decide) (fun c2 => ?_) (fun c2 => ?_)
    · replace hM := mE hM c2
      refine r_aload_n (pc' := 103) X hl 0 rfl rfl 50 rfl rfl ?_
      refine r_iload (pc' := 105) X hl 3 rfl 51 rfl rfl ?_
      refine r_put (pc' := 108) (ws' := wFS G h h_spare h_told b1_1 ++ wBD G h_spare h_spare_firms h_spare_kindsTold h_spare_places h_spare_crowds h_spare_pipsLeft h_spare_notHome b1_2_2_2_points b1_2_2_2_home b1_2_2_2_men b1_2_2_2_turn b1_2_2_2_thrower b1_2_2_2_cube b1_2_2_2_owner b1_2_2_2_firms b1_2_2_2_kindsTold b1_2_2_2_places b1_2_2_2_crowds b1_2_2_2_pipsLeft b1_2_2_2_notHome) X Y 52 rfl rfl fRX3_23 0 rfl rfl rfl (Nat.le_of_ble_eq_true rfl) rfl (fun H locs Y => ?_)
      refine r_iload (pc' := 110) X hl 4 rfl 53 rfl rfl ?_
      exact RT (b1_2_1, b1_1, (b1_2_2_2_points, b1_2_2_2_home, b1_2_2_2_men, b1_2_2_2_turn, b1_2_2_2_thrower, b1_2_2_2_cube, b1_2_2_2_owner, b1_2_2_2_firms, b1_2_2_2_kindsTold, b1_2_2_2_places, b1_2_2_2_crowds, b1_2_2_2_pipsLeft, b1_2_2_2_notHome)) _ _ _ _ _ hM (Or.inl ⟨rfl, rfl, _, rfl⟩) (X.d (k := 54) rfl) Y
    · replace hM := mI hM c2
      refine r_aload_n (pc' := 95) X hl 0 rfl rfl 45 rfl rfl ?_
      refine r_iload_n (pc' := 96) X hl 1 rfl rfl 46 rfl rfl ?_
      refine r_iload_n (pc' := 97) X hl 2 rfl rfl 47 rfl rfl ?_
      refine r_callV (pc' := 100) (As := [.int i1, .int i3]) (rest := []) (wr := ([] : va_W)) X Y 48 rfl rfl mRX3_45 (c_X3_worthTo_1 l G h h_spare h_told h_spare_firms h_spare_kindsTold h_spare_places h_spare_crowds h_spare_pipsLeft h_spare_notHome b1_2_2_1 b1_2_2_2_points b1_2_2_2_home b1_2_2_2_men b1_2_2_2_turn b1_2_2_2_thrower b1_2_2_2_cube b1_2_2_2_owner b1_2_2_2_firms b1_2_2_2_kindsTold b1_2_2_2_places b1_2_2_2_crowds b1_2_2_2_pipsLeft b1_2_2_2_notHome i1 i3) (mB hM hne) 0 rfl rfl [0, 1, 2, 3, 4, 5, 6, 7] [] [0, 1, 2, 3, 4, 5, 6, 7] rfl rfl ⟨rfl, rfl, rfl⟩ rfl (w2 := fun u3 => wFS G h h_spare h_told u3.2.1 ++ wBD G h_spare h_spare_firms h_spare_kindsTold h_spare_places h_spare_crowds h_spare_pipsLeft h_spare_notHome u3.2.2.1 u3.2.2.2.1 u3.2.2.2.2.1 u3.2.2.2.2.2.1 u3.2.2.2.2.2.2.1 u3.2.2.2.2.2.2.2.1 u3.2.2.2.2.2.2.2.2.1 u3.2.2.2.2.2.2.2.2.2.1 u3.2.2.2.2.2.2.2.2.2.2.1 u3.2.2.2.2.2.2.2.2.2.2.2.1 u3.2.2.2.2.2.2.2.2.2.2.2.2.1 u3.2.2.2.2.2.2.2.2.2.2.2.2.2.1 u3.2.2.2.2.2.2.2.2.2.2.2.2.2.2) (fun _ => rfl) rfl (Nat.le_of_ble_eq_true rfl) ⟨rfl, rfl⟩ ⟨Nat.le_of_ble_eq_true rfl, Nat.le_of_ble_eq_true rfl⟩ ⟨Nat.zero_le _, Nat.zero_le _⟩ hl.1 (st' := fun u3 => [.int u3.1]) (fun _ => rfl) (fun u3 H locs huu3 Y => ?_)
      obtain ⟨u3_1, u3_2_1, ⟨u3_2_2_points, u3_2_2_home, u3_2_2_men, u3_2_2_turn, u3_2_2_thrower, u3_2_2_cube, u3_2_2_owner, u3_2_2_firms, u3_2_2_kindsTold, u3_2_2_places, u3_2_2_crowds, u3_2_2_pipsLeft, u3_2_2_notHome⟩⟩ := u3
      replace Y : rY G A s (wFS G h h_spare h_told u3_2_1 ++ wBD G h_spare h_spare_firms h_spare_kindsTold h_spare_places h_spare_crowds h_spare_pipsLeft h_spare_notHome u3_2_2_points u3_2_2_home u3_2_2_men u3_2_2_turn u3_2_2_thrower u3_2_2_cube u3_2_2_owner u3_2_2_firms u3_2_2_kindsTold u3_2_2_places u3_2_2_crowds u3_2_2_pipsLeft u3_2_2_notHome) H locs := Y
      replace hM := mS hM huu3
      show W p l e q_X3_greatestWorth_1 s m args below meth c H locs 0 0 Q (F0 m 100 ls [.int u3_1])
      refine r_istore (pc' := 102) (L' := [(5, .int u3_1), (0, .ref h), (1, .int i1), (3, .int i3), (4, .int b1_1)]) X hl 49 rfl rfl (by decide) rfl (fun ls hl => ?_)
      refine r_aload_n (pc' := 103) X hl 1 rfl rfl 50 rfl rfl ?_
      refine r_iload (pc' := 105) X hl 4 rfl 51 rfl rfl ?_
      refine r_put (pc' := 108) (ws' := wFS G h h_spare h_told b1_1 ++ wBD G h_spare h_spare_firms h_spare_kindsTold h_spare_places h_spare_crowds h_spare_pipsLeft h_spare_notHome u3_2_2_points u3_2_2_home u3_2_2_men u3_2_2_turn u3_2_2_thrower u3_2_2_cube u3_2_2_owner u3_2_2_firms u3_2_2_kindsTold u3_2_2_places u3_2_2_crowds u3_2_2_pipsLeft u3_2_2_notHome) X Y 52 rfl rfl fRX3_23 0 rfl rfl rfl (Nat.le_of_ble_eq_true rfl) rfl (fun H locs Y => ?_)
      refine r_iload (pc' := 110) X hl 0 rfl 53 rfl rfl ?_
      exact RT (u3_1, b1_1, (u3_2_2_points, u3_2_2_home, u3_2_2_men, u3_2_2_turn, u3_2_2_thrower, u3_2_2_cube, u3_2_2_owner, u3_2_2_firms, u3_2_2_kindsTold, u3_2_2_places, u3_2_2_crowds, u3_2_2_pipsLeft, u3_2_2_notHome)) _ _ _ _ _ hM (Or.inl ⟨rfl, rfl, _, rfl⟩) (X.d (k := 54) rfl) Y
  refine lp_rule (I := fun (st1 : Int32 × Int32 × Int32 × Int32 × BD) => ∀ (H : Heap) (locs : List Loc) (ls : Array Slot), rY G A s (wFS G h h_spare h_told st1.2.2.2.1 ++ wBD G h_spare h_spare_firms h_spare_kindsTold h_spare_places h_spare_crowds h_spare_pipsLeft h_spare_notHome st1.2.2.2.2.1 st1.2.2.2.2.2.1 st1.2.2.2.2.2.2.1 st1.2.2.2.2.2.2.2.1 st1.2.2.2.2.2.2.2.2.1 st1.2.2.2.2.2.2.2.2.2.1 st1.2.2.2.2.2.2.2.2.2.2.1 st1.2.2.2.2.2.2.2.2.2.2.2.1 st1.2.2.2.2.2.2.2.2.2.2.2.2.1 st1.2.2.2.2.2.2.2.2.2.2.2.2.2.1 st1.2.2.2.2.2.2.2.2.2.2.2.2.2.2.1 st1.2.2.2.2.2.2.2.2.2.2.2.2.2.2.2.1 st1.2.2.2.2.2.2.2.2.2.2.2.2.2.2.2.2) H locs → lv_has ls 8 [(0, .ref h), (1, .int i1), (2, .int i2), (3, .int i3), (4, .int st1.1), (5, .int st1.2.1), (6, .int st1.2.2.1)] → W p l e q_X3_greatestWorth_1 s m args below meth c H locs 0 0 Q (F0 m 10 ls [])) hne1 (fun rec1 st1 IH1 hM => ?_) _ _ hL1 _ _ _ Y (lv_sub hl [3, 4, 5, 6, 2, 1, 0] rfl)
  intro H locs ls Y hl
  obtain ⟨st1_1, st1_2_1, st1_2_2_1, st1_2_2_2_1, ⟨st1_2_2_2_2_points, st1_2_2_2_2_home, st1_2_2_2_2_men, st1_2_2_2_2_turn, st1_2_2_2_2_thrower, st1_2_2_2_2_cube, st1_2_2_2_2_owner, st1_2_2_2_2_firms, st1_2_2_2_2_kindsTold, st1_2_2_2_2_places, st1_2_2_2_2_crowds, st1_2_2_2_2_pipsLeft, st1_2_2_2_2_notHome⟩⟩ := st1
  replace Y : rY G A s (wFS G h h_spare h_told st1_2_2_2_1 ++ wBD G h_spare h_spare_firms h_spare_kindsTold h_spare_places h_spare_crowds h_spare_pipsLeft h_spare_notHome st1_2_2_2_2_points st1_2_2_2_2_home st1_2_2_2_2_men st1_2_2_2_2_turn st1_2_2_2_2_thrower st1_2_2_2_2_cube st1_2_2_2_2_owner st1_2_2_2_2_firms st1_2_2_2_2_kindsTold st1_2_2_2_2_places st1_2_2_2_2_crowds st1_2_2_2_2_pipsLeft st1_2_2_2_2_notHome) H locs := Y
  replace hl : lv_has ls 8 [(0, .ref h), (1, .int i1), (2, .int i2), (3, .int i3), (4, .int st1_1), (5, .int st1_2_1), (6, .int st1_2_2_1)] := hl
  refine r_iload (pc' := 12) X hl 6 rfl 6 rfl rfl ?_
  refine r_aload_n (pc' := 13) X hl 0 rfl rfl 7 rfl rfl ?_
  refine r_get (pc' := 16) (v := .ref h_spare) X Y 8 rfl rfl fRX3_12 0 rfl rfl ?_
  refine r_getN (pc' := 19) (v := .int st1_2_2_2_2_men) X Y 9 rfl rfl fRX3_31 1 rfl rfl ?_
  refine r_icmp_ge (pc' := 22) X 87 10 rfl rfl (by decide) (fun c4 => ?_) (fun c4 => ?_)
  · replace hM := mI hM c4
    exact KX1 st1_1 st1_2_1 st1_2_2_2_1 st1_2_2_2_2_points st1_2_2_2_2_home st1_2_2_2_2_men st1_2_2_2_2_turn st1_2_2_2_2_thrower st1_2_2_2_2_cube st1_2_2_2_2_owner st1_2_2_2_2_firms st1_2_2_2_2_kindsTold st1_2_2_2_2_places st1_2_2_2_2_crowds st1_2_2_2_2_pipsLeft st1_2_2_2_2_notHome _ _ _ hM Y (lv_sub hl [0, 1, 3, 4, 5] rfl)
  · replace hM := mE hM c4
    refine r_aload_n (pc' := 23) X hl 0 rfl rfl 11 rfl rfl ?_
    refine r_get (pc' := 26) (v := .ref h_spare) X Y 12 rfl rfl fRX3_12 0 rfl rfl ?_
    refine r_getN (pc' := 29) (v := .ref h_spare_firms) X Y 13 rfl rfl fRX3_34 1 rfl rfl ?_
    refine r_iload (pc' := 31) X hl 6 rfl 14 rfl rfl ?_
    obtain ⟨g5, hM⟩ := mG hM hne1
    refine r_iald (pc' := 32) X Y 15 rfl rfl 2 rfl (vin g5) ?_
    refine r_iload_n (pc' := 33) X hl 1 rfl rfl 16 rfl rfl ?_
    refine r_icmp_ne (pc' := 36) X 81 17 rfl rfl (by decide) (fun c6 => ?_) (fun c6 => ?_)
    · replace hM := mE hM c6
      refine r_iinc (pc' := 84) (L' := [(6, .int (st1_2_2_1 + (1 : Int32))), (0, .ref h), (1, .int i1), (2, .int i2), (3, .int i3), (4, .int st1_1), (5, .int st1_2_1)]) X (st1_2_2_1 + (1 : Int32)) hl 6 rfl rfl 40 rfl rfl (by decide) rfl (fun ls hl => ?_)
      refine r_goto X 10 41 rfl (by decide) ?_
      exact IH1 _ hM _ _ _ Y (lv_sub hl [1, 2, 3, 4, 5, 6, 0] rfl)
    · replace hM := mI hM c6
      refine r_aload_n (pc' := 37) X hl 0 rfl rfl 18 rfl rfl ?_
      refine r_get (pc' := 40) (v := .ref h_spare) X Y 19 rfl rfl fRX3_12 0 rfl rfl ?_
      refine r_iload (pc' := 42) X hl 6 rfl 20 rfl rfl ?_
      refine r_iload_n (pc' := 43) X hl 2 rfl rfl 21 rfl rfl ?_
      refine r_callV0 (pc' := 46) (As := [.int st1_2_2_1, .int i2]) (rest := []) X Y 22 rfl rfl mRX3_37 (c_X2_canGo l G h_spare h_spare_firms h_spare_kindsTold h_spare_places h_spare_crowds h_spare_pipsLeft h_spare_notHome st1_2_2_2_2_points st1_2_2_2_2_home st1_2_2_2_2_men st1_2_2_2_2_turn st1_2_2_2_2_thrower st1_2_2_2_2_cube st1_2_2_2_2_owner st1_2_2_2_2_firms st1_2_2_2_2_kindsTold st1_2_2_2_2_places st1_2_2_2_2_crowds st1_2_2_2_2_pipsLeft st1_2_2_2_2_notHome st1_2_2_1 i2) (mB hM hne1) 1 rfl rfl [1, 2, 3, 4, 5, 6, 7] rfl rfl rfl (Nat.le_of_ble_eq_true rfl) ⟨rfl, rfl⟩ ⟨Nat.le_of_ble_eq_true rfl, Nat.le_of_ble_eq_true rfl⟩ ⟨Nat.zero_le _, Nat.zero_le _⟩ hl.1 (st' := fun u7 => [.int u7]) (fun _ => rfl) (fun u7 H locs huu7 Y => ?_)
      replace hM := mS hM huu7
      refine r_if_eq (pc' := 49) X 81 23 rfl rfl (by decide) (fun c8 => ?_) (fun c8 => ?_)
      · replace hM := mI hM c8
        refine r_iinc (pc' := 84) (L' := [(6, .int (st1_2_2_1 + (1 : Int32))), (0, .ref h), (1, .int i1), (2, .int i2), (3, .int i3), (4, .int st1_1), (5, .int st1_2_1)]) X (st1_2_2_1 + (1 : Int32)) hl 6 rfl rfl 40 rfl rfl (by decide) rfl (fun ls hl => ?_)
        refine r_goto X 10 41 rfl (by decide) ?_
        exact IH1 _ hM _ _ _ Y (lv_sub hl [1, 2, 3, 4, 5, 6, 0] rfl)
      · replace hM := mE hM c8
        refine r_aload_n (pc' := 50) X hl 0 rfl rfl 24 rfl rfl ?_
        refine r_iload (pc' := 52) X hl 6 rfl 25 rfl rfl ?_
        refine r_iload_n (pc' := 53) X hl 2 rfl rfl 26 rfl rfl ?_
        refine r_iload_n (pc' := 54) X hl 3 rfl rfl 27 rfl rfl ?_
        refine r_callV (pc' := 57) (As := [.int st1_2_2_1, .int i2, .int i3]) (rest := []) (wr := ([] : va_W)) X Y 28 rfl rfl mRX3_41 (c_X3_worthBehind_1 l G h h_spare h_told h_spare_firms h_spare_kindsTold h_spare_places h_spare_crowds h_spare_pipsLeft h_spare_notHome st1_2_2_2_1 st1_2_2_2_2_points st1_2_2_2_2_home st1_2_2_2_2_men st1_2_2_2_2_turn st1_2_2_2_2_thrower st1_2_2_2_2_cube st1_2_2_2_2_owner st1_2_2_2_2_firms st1_2_2_2_2_kindsTold st1_2_2_2_2_places st1_2_2_2_2_crowds st1_2_2_2_2_pipsLeft st1_2_2_2_2_notHome st1_2_2_1 i2 i3) (mB hM hne1) 0 rfl rfl [0, 1, 2, 3, 4, 5, 6, 7] [] [0, 1, 2, 3, 4, 5, 6, 7] rfl rfl ⟨rfl, rfl, rfl⟩ rfl (w2 := fun u9 => wFS G h h_spare h_told u9.2.1 ++ wBD G h_spare h_spare_firms h_spare_kindsTold h_spare_places h_spare_crowds h_spare_pipsLeft h_spare_notHome u9.2.2.1 u9.2.2.2.1 u9.2.2.2.2.1 u9.2.2.2.2.2.1 u9.2.2.2.2.2.2.1 u9.2.2.2.2.2.2.2.1 u9.2.2.2.2.2.2.2.2.1 u9.2.2.2.2.2.2.2.2.2.1 u9.2.2.2.2.2.2.2.2.2.2.1 u9.2.2.2.2.2.2.2.2.2.2.2.1 u9.2.2.2.2.2.2.2.2.2.2.2.2.1 u9.2.2.2.2.2.2.2.2.2.2.2.2.2.1 u9.2.2.2.2.2.2.2.2.2.2.2.2.2.2) (fun _ => rfl) rfl (Nat.le_of_ble_eq_true rfl) ⟨rfl, rfl⟩ ⟨Nat.le_of_ble_eq_true rfl, Nat.le_of_ble_eq_true rfl⟩ ⟨Nat.zero_le _, Nat.zero_le _⟩ hl.1 (st' := fun u9 => [.int u9.1]) (fun _ => rfl) (fun u9 H locs huu9 Y => ?_)
        obtain ⟨u9_1, u9_2_1, ⟨u9_2_2_points, u9_2_2_home, u9_2_2_men, u9_2_2_turn, u9_2_2_thrower, u9_2_2_cube, u9_2_2_owner, u9_2_2_firms, u9_2_2_kindsTold, u9_2_2_places, u9_2_2_crowds, u9_2_2_pipsLeft, u9_2_2_notHome⟩⟩ := u9
        replace Y : rY G A s (wFS G h h_spare h_told u9_2_1 ++ wBD G h_spare h_spare_firms h_spare_kindsTold h_spare_places h_spare_crowds h_spare_pipsLeft h_spare_notHome u9_2_2_points u9_2_2_home u9_2_2_men u9_2_2_turn u9_2_2_thrower u9_2_2_cube u9_2_2_owner u9_2_2_firms u9_2_2_kindsTold u9_2_2_places u9_2_2_crowds u9_2_2_pipsLeft u9_2_2_notHome) H locs := Y
        replace hM := mS hM huu9
        show W p l e q_X3_greatestWorth_1 s m args below meth c H locs 0 0 Q (F0 m 57 ls [.int u9_1])
        refine r_istore (pc' := 59) (L' := [(7, .int u9_1), (0, .ref h), (1, .int i1), (2, .int i2), (3, .int i3), (4, .int st1_1), (5, .int st1_2_1), (6, .int st1_2_2_1)]) X hl 29 rfl rfl (by decide) rfl (fun ls hl => ?_)
        refine r_iload (pc' := 61) X hl 5 rfl 30 rfl rfl ?_
        refine r_ldc (pc' := 63) X mw154 31 rfl rfl ?_
        obtain ⟨J10, hJ10, hM⟩ := mJ hM
        have KJ10 : ∀  (H : Heap) (locs : List Loc) (ls : Array Slot), J10 () = LL1 → rY G A s (wFS G h h_spare h_told u9_2_1 ++ wBD G h_spare h_spare_firms h_spare_kindsTold h_spare_places h_spare_crowds h_spare_pipsLeft h_spare_notHome u9_2_2_points u9_2_2_home u9_2_2_men u9_2_2_turn u9_2_2_thrower u9_2_2_cube u9_2_2_owner u9_2_2_firms u9_2_2_kindsTold u9_2_2_places u9_2_2_crowds u9_2_2_pipsLeft u9_2_2_notHome) H locs → lv_has ls 8 [(0, .ref h), (1, .int i1), (2, .int i2), (3, .int i3), (6, .int st1_2_2_1), (7, .int u9_1)] → W p l e q_X3_greatestWorth_1 s m args below meth c H locs 0 0 Q (F0 m 73 ls []) := by
          intro  H locs ls hM Y hl
          replace hM := (hJ10 _).symm.trans hM
          refine r_iload (pc' := 75) X hl 4 rfl 36 rfl rfl ?_
          refine r_istore (pc' := 77) (L' := [(4, .int st1_2_2_1), (0, .ref h), (1, .int i1), (2, .int i2), (3, .int i3), (6, .int st1_2_2_1), (7, .int u9_1)]) X hl 37 rfl rfl (by decide) rfl (fun ls hl => ?_)
          refine r_iload (pc' := 79) X hl 6 rfl 38 rfl rfl ?_
          refine r_istore (pc' := 81) (L' := [(5, .int u9_1), (4, .int st1_2_2_1), (0, .ref h), (1, .int i1), (2, .int i2), (3, .int i3), (6, .int st1_2_2_1), (7, .int u9_1)]) X hl 39 rfl rfl (by decide) rfl (fun ls hl => ?_)
          refine r_iinc (pc' := 84) (L' := [(6, .int (st1_2_2_1 + (1 : Int32))), (5, .int u9_1), (4, .int st1_2_2_1), (0, .ref h), (1, .int i1), (2, .int i2), (3, .int i3), (7, .int u9_1)]) X (st1_2_2_1 + (1 : Int32)) hl 6 rfl rfl 40 rfl rfl (by decide) rfl (fun ls hl => ?_)
          refine r_goto X 10 41 rfl (by decide) ?_
          exact IH1 _ hM _ _ _ Y (lv_sub hl [3, 4, 5, 6, 2, 1, 0] rfl)
        refine r_icmp_eq (pc' := 66) X 73 32 rfl rfl (by decide) (fun c11 => ?_) (fun c11 => ?_)
        · replace hM := mI hM c11
          exact KJ10  _ _ _ hM Y (lv_sub hl [1, 2, 3, 4, 7, 0] rfl)
        · replace hM := mE hM c11
          refine r_iload (pc' := 68) X hl 0 rfl 33 rfl rfl ?_
          refine r_iload (pc' := 70) X hl 6 rfl 34 rfl rfl ?_
          refine r_icmp_le (pc' := 73) X 81 35 rfl rfl (by decide) (fun c12 => ?_) (fun c12 => ?_)
          · replace hM := mI hM c12
            refine r_iinc (pc' := 84) (L' := [(6, .int (st1_2_2_1 + (1 : Int32))), (7, .int u9_1), (0, .ref h), (1, .int i1), (2, .int i2), (3, .int i3), (4, .int st1_1), (5, .int st1_2_1)]) X (st1_2_2_1 + (1 : Int32)) hl 7 rfl rfl 40 rfl rfl (by decide) rfl (fun ls hl => ?_)
            refine r_goto X 10 41 rfl (by decide) ?_
            exact IH1 _ hM _ _ _ Y (lv_sub hl [2, 3, 4, 5, 6, 7, 0] rfl)
          · replace hM := mE hM c12
            exact KJ10  _ _ _ hM Y (lv_sub hl [1, 2, 3, 4, 7, 0] rfl)

def M_X3_worthTo_2 (S0 : FS) (S1 : BD) (i1 : Int32) (i2 : Int32) : Option (Int32 × FS × BD) :=
  (if 0 < i2 then ((lp (σ := Int32 × Int32 × Int32 × BD) (β := Int32 × Int32 × BD) (fun rec2 st2 => (if (6 : Int32) < st2.2.1 then (some (st2.1, st2.2.2.1, st2.2.2.2)) else ((M_X3_greatestWorth_1 st2.2.2.1 st2.2.2.2 (((1 : Int32) - i1)) st2.2.1 ((i2 - (1 : Int32)))).bind (fun u4 => (rec2 ((st2.1 + u4.1), (st2.2.1 + (1 : Int32)), u4.2.1, u4.2.2)))))) 1000000 ((0 : Int32), (1 : Int32), S0, S1)).bind (fun b2 => (some ((-b2.1), b2.2.1, b2.2.2)))) else ((M_X2_lead S1 i1).bind (fun u5 => (some (u5, S0, S1)))))
def q_X3_worthTo_2 : Room := { frames := 10, cells := 0, slots := 0, locals := 284 }
set_option maxHeartbeats 4000000 in
set_option maxRecDepth 100000 in
theorem c_X3_worthTo_2 (l : Launch) (G : gT) (h h_spare h_told h_spare_firms h_spare_kindsTold h_spare_places h_spare_crowds h_spare_pipsLeft h_spare_notHome : Nat) (S0 : Int32) (S1_points : Int32) (S1_home : Int32) (S1_men : Int32) (S1_turn : Int32) (S1_thrower : Int32) (S1_cube : Int32) (S1_owner : Int32) (S1_firms : Nat → Int32) (S1_kindsTold : Nat → Int32) (S1_places : Nat → Int32) (S1_crowds : Nat → Int32) (S1_pipsLeft : Nat → Int32) (S1_notHome : Nat → Int32) (i1 : Int32) (i2 : Int32) : CT l G yX3_worthTo cX3_worthTo 5 (some .int) q_X3_worthTo_2 [.ref h, .int i1, .int i2] (wFS G h h_spare h_told S0 ++ wBD G h_spare h_spare_firms h_spare_kindsTold h_spare_places h_spare_crowds h_spare_pipsLeft h_spare_notHome S1_points S1_home S1_men S1_turn S1_thrower S1_cube S1_owner S1_firms S1_kindsTold S1_places S1_crowds S1_pipsLeft S1_notHome) (M_X3_worthTo_2 S0 (S1_points, S1_home, S1_men, S1_turn, S1_thrower, S1_cube, S1_owner, S1_firms, S1_kindsTold, S1_places, S1_crowds, S1_pipsLeft, S1_notHome) i1 i2) (fun u => some (.int u.1)) (fun u => wFS G h h_spare h_told u.2.1 ++ wBD G h_spare h_spare_firms h_spare_kindsTold h_spare_places h_spare_crowds h_spare_pipsLeft h_spare_notHome u.2.2.1 u.2.2.2.1 u.2.2.2.2.1 u.2.2.2.2.2.1 u.2.2.2.2.2.2.1 u.2.2.2.2.2.2.2.1 u.2.2.2.2.2.2.2.2.1 u.2.2.2.2.2.2.2.2.2.1 u.2.2.2.2.2.2.2.2.2.2.1 u.2.2.2.2.2.2.2.2.2.2.2.1 u.2.2.2.2.2.2.2.2.2.2.2.2.1 u.2.2.2.2.2.2.2.2.2.2.2.2.2.1 u.2.2.2.2.2.2.2.2.2.2.2.2.2.2) := by
  refine CT.of (P := PX3_worthTo) (by decide) dPX3_worthTo (Nat.le_of_ble_eq_true rfl) ?_
  intro p e s m args below meth c A Q ls hne X RT Y hl
  have hl : lv_has ls 5 [(0, .ref h), (1, .int i1), (2, .int i2)] := hl
  generalize hM : M_X3_worthTo_2 S0 (S1_points, S1_home, S1_men, S1_turn, S1_thrower, S1_cube, S1_owner, S1_firms, S1_kindsTold, S1_places, S1_crowds, S1_pipsLeft, S1_notHome) i1 i2 = MM at hne RT
  unfold M_X3_worthTo_2 at hM
  refine r_iload_n (pc' := 1) X hl 2 rfl rfl 0 rfl rfl ?_
  refine r_if_gt (pc' := 4) X 13 1 rfl rfl (by decide) (fun c1 => ?_) (fun c1 => ?_)
  · replace hM := mI hM c1
    refine r_iconst (pc' := 14) X (0 : Int32) 7 rfl rfl rfl ?_
    refine r_istore_n (pc' := 15) (L' := [(3, .int (0 : Int32)), (0, .ref h), (1, .int i1), (2, .int i2)]) X hl rfl 8 rfl rfl (by decide) rfl (fun ls hl => ?_)
    refine r_iconst (pc' := 16) X (1 : Int32) 9 rfl rfl rfl ?_
    refine r_istore (pc' := 18) (L' := [(4, .int (1 : Int32)), (3, .int (0 : Int32)), (0, .ref h), (1, .int i1), (2, .int i2)]) X hl 10 rfl rfl (by decide) rfl (fun ls hl => ?_)
    obtain ⟨LL2, hL2, hne2, hX2⟩ := mL hM hne
    have KX2 : ∀ (b2_1 : Int32) (b2_2_1 : Int32) (b2_2_2_points : Int32) (b2_2_2_home : Int32) (b2_2_2_men : Int32) (b2_2_2_turn : Int32) (b2_2_2_thrower : Int32) (b2_2_2_cube : Int32) (b2_2_2_owner : Int32) (b2_2_2_firms : Nat → Int32) (b2_2_2_kindsTold : Nat → Int32) (b2_2_2_places : Nat → Int32) (b2_2_2_crowds : Nat → Int32) (b2_2_2_pipsLeft : Nat → Int32) (b2_2_2_notHome : Nat → Int32) (H : Heap) (locs : List Loc) (ls : Array Slot), some (b2_1, b2_2_1, (b2_2_2_points, b2_2_2_home, b2_2_2_men, b2_2_2_turn, b2_2_2_thrower, b2_2_2_cube, b2_2_2_owner, b2_2_2_firms, b2_2_2_kindsTold, b2_2_2_places, b2_2_2_crowds, b2_2_2_pipsLeft, b2_2_2_notHome)) = LL2 → rY G A s (wFS G h h_spare h_told b2_2_1 ++ wBD G h_spare h_spare_firms h_spare_kindsTold h_spare_places h_spare_crowds h_spare_pipsLeft h_spare_notHome b2_2_2_points b2_2_2_home b2_2_2_men b2_2_2_turn b2_2_2_thrower b2_2_2_cube b2_2_2_owner b2_2_2_firms b2_2_2_kindsTold b2_2_2_places b2_2_2_crowds b2_2_2_pipsLeft b2_2_2_notHome) H locs → lv_has ls 5 [(3, .int b2_1)] → W p l e q_X3_worthTo_2 s m args below meth c H locs 0 0 Q (F0 m 46 ls []) := by
      intro b2_1 b2_2_1 b2_2_2_points b2_2_2_home b2_2_2_men b2_2_2_turn b2_2_2_thrower b2_2_2_cube b2_2_2_owner b2_2_2_firms b2_2_2_kindsTold b2_2_2_places b2_2_2_crowds b2_2_2_pipsLeft b2_2_2_notHome H locs ls hM Y hl
      replace hM := hX2 _ hM
      refine r_iload_n (pc' := 47) X hl 0 rfl rfl 28 rfl rfl ?_
      refine r_ineg (pc' := 48) X 29 rfl rfl ?_
      exact RT ((-b2_1), b2_2_1, (b2_2_2_points, b2_2_2_home, b2_2_2_men, b2_2_2_turn, b2_2_2_thrower, b2_2_2_cube, b2_2_2_owner, b2_2_2_firms, b2_2_2_kindsTold, b2_2_2_places, b2_2_2_crowds, b2_2_2_pipsLeft, b2_2_2_notHome)) _ _ _ _ _ hM (Or.inl ⟨rfl, rfl, _, rfl⟩) (X.d (k := 30) rfl) Y
    refine lp_rule (I := fun (st2 : Int32 × Int32 × Int32 × BD) => ∀ (H : Heap) (locs : List Loc) (ls : Array Slot), rY G A s (wFS G h h_spare h_told st2.2.2.1 ++ wBD G h_spare h_spare_firms h_spare_kindsTold h_spare_places h_spare_crowds h_spare_pipsLeft h_spare_notHome st2.2.2.2.1 st2.2.2.2.2.1 st2.2.2.2.2.2.1 st2.2.2.2.2.2.2.1 st2.2.2.2.2.2.2.2.1 st2.2.2.2.2.2.2.2.2.1 st2.2.2.2.2.2.2.2.2.2.1 st2.2.2.2.2.2.2.2.2.2.2.1 st2.2.2.2.2.2.2.2.2.2.2.2.1 st2.2.2.2.2.2.2.2.2.2.2.2.2.1 st2.2.2.2.2.2.2.2.2.2.2.2.2.2.1 st2.2.2.2.2.2.2.2.2.2.2.2.2.2.2.1 st2.2.2.2.2.2.2.2.2.2.2.2.2.2.2.2) H locs → lv_has ls 5 [(0, .ref h), (1, .int i1), (2, .int i2), (3, .int st2.1), (4, .int st2.2.1)] → W p l e q_X3_worthTo_2 s m args below meth c H locs 0 0 Q (F0 m 18 ls [])) hne2 (fun rec2 st2 IH2 hM => ?_) _ _ hL2 _ _ _ Y (lv_sub hl [2, 3, 4, 1, 0] rfl)
    intro H locs ls Y hl
    obtain ⟨st2_1, st2_2_1, st2_2_2_1, ⟨st2_2_2_2_points, st2_2_2_2_home, st2_2_2_2_men, st2_2_2_2_turn, st2_2_2_2_thrower, st2_2_2_2_cube, st2_2_2_2_owner, st2_2_2_2_firms, st2_2_2_2_kindsTold, st2_2_2_2_places, st2_2_2_2_crowds, st2_2_2_2_pipsLeft, st2_2_2_2_notHome⟩⟩ := st2
    replace Y : rY G A s (wFS G h h_spare h_told st2_2_2_1 ++ wBD G h_spare h_spare_firms h_spare_kindsTold h_spare_places h_spare_crowds h_spare_pipsLeft h_spare_notHome st2_2_2_2_points st2_2_2_2_home st2_2_2_2_men st2_2_2_2_turn st2_2_2_2_thrower st2_2_2_2_cube st2_2_2_2_owner st2_2_2_2_firms st2_2_2_2_kindsTold st2_2_2_2_places st2_2_2_2_crowds st2_2_2_2_pipsLeft st2_2_2_2_notHome) H locs := Y
    replace hl : lv_has ls 5 [(0, .ref h), (1, .int i1), (2, .int i2), (3, .int st2_1), (4, .int st2_2_1)] := hl
    refine r_iload (pc' := 20) X hl 4 rfl 11 rfl rfl ?_
    refine r_bipush (pc' := 22) X (6 : Int32) 12 rfl rfl rfl ?_
    refine r_icmp_gt (pc' := 25) X 46 13 rfl rfl (by decide) (fun c3 => ?_) (fun c3 => ?_)
    · replace hM := mI hM c3
      exact KX2 st2_1 st2_2_2_1 st2_2_2_2_points st2_2_2_2_home st2_2_2_2_men st2_2_2_2_turn st2_2_2_2_thrower st2_2_2_2_cube st2_2_2_2_owner st2_2_2_2_firms st2_2_2_2_kindsTold st2_2_2_2_places st2_2_2_2_crowds st2_2_2_2_pipsLeft st2_2_2_2_notHome _ _ _ hM Y (lv_sub hl [3] rfl)
    · replace hM := mE hM c3
      refine r_iload_n (pc' := 26) X hl 3 rfl rfl 14 rfl rfl ?_
      refine r_aload_n (pc' := 27) X hl 0 rfl rfl 15 rfl rfl ?_
      refine r_iconst (pc' := 28) X (1 : Int32) 16 rfl rfl rfl ?_
      refine r_iload_n (pc' := 29) X hl 1 rfl rfl 17 rfl rfl ?_
      refine r_isub (pc' := 30) X 18 rfl rfl ?_
      refine r_iload (pc' := 32) X hl 4 rfl 19 rfl rfl ?_
      refine r_iload_n (pc' := 33) X hl 2 rfl rfl 20 rfl rfl ?_
      refine r_iconst (pc' := 34) X (1 : Int32) 21 rfl rfl rfl ?_
      refine r_isub (pc' := 35) X 22 rfl rfl ?_
      refine r_callV (pc' := 38) (As := [.int ((1 : Int32) - i1), .int st2_2_1, .int (i2 - (1 : Int32))]) (rest := [.int st2_1]) (wr := ([] : va_W)) X Y 23 rfl rfl mRX3_63 (c_X3_greatestWorth_1 l G h h_spare h_told h_spare_firms h_spare_kindsTold h_spare_places h_spare_crowds h_spare_pipsLeft h_spare_notHome st2_2_2_1 st2_2_2_2_points st2_2_2_2_home st2_2_2_2_men st2_2_2_2_turn st2_2_2_2_thrower st2_2_2_2_cube st2_2_2_2_owner st2_2_2_2_firms st2_2_2_2_kindsTold st2_2_2_2_places st2_2_2_2_crowds st2_2_2_2_pipsLeft st2_2_2_2_notHome (((1 : Int32) - i1)) st2_2_1 ((i2 - (1 : Int32)))) (mB hM hne2) 0 rfl rfl [0, 1, 2, 3, 4, 5, 6, 7] [] [0, 1, 2, 3, 4, 5, 6, 7] rfl rfl ⟨rfl, rfl, rfl⟩ rfl (w2 := fun u4 => wFS G h h_spare h_told u4.2.1 ++ wBD G h_spare h_spare_firms h_spare_kindsTold h_spare_places h_spare_crowds h_spare_pipsLeft h_spare_notHome u4.2.2.1 u4.2.2.2.1 u4.2.2.2.2.1 u4.2.2.2.2.2.1 u4.2.2.2.2.2.2.1 u4.2.2.2.2.2.2.2.1 u4.2.2.2.2.2.2.2.2.1 u4.2.2.2.2.2.2.2.2.2.1 u4.2.2.2.2.2.2.2.2.2.2.1 u4.2.2.2.2.2.2.2.2.2.2.2.1 u4.2.2.2.2.2.2.2.2.2.2.2.2.1 u4.2.2.2.2.2.2.2.2.2.2.2.2.2.1 u4.2.2.2.2.2.2.2.2.2.2.2.2.2.2) (fun _ => rfl) rfl (Nat.le_of_ble_eq_true rfl) ⟨rfl, rfl⟩ ⟨Nat.le_of_ble_eq_true rfl, Nat.le_of_ble_eq_true rfl⟩ ⟨Nat.zero_le _, Nat.zero_le _⟩ hl.1 (st' := fun u4 => [.int u4.1, .int st2_1]) (fun _ => rfl) (fun u4 H locs huu4 Y => ?_)
      obtain ⟨u4_1, u4_2_1, ⟨u4_2_2_points, u4_2_2_home, u4_2_2_men, u4_2_2_turn, u4_2_2_thrower, u4_2_2_cube, u4_2_2_owner, u4_2_2_firms, u4_2_2_kindsTold, u4_2_2_places, u4_2_2_crowds, u4_2_2_pipsLeft, u4_2_2_notHome⟩⟩ := u4
      replace Y : rY G A s (wFS G h h_spare h_told u4_2_1 ++ wBD G h_spare h_spare_firms h_spare_kindsTold h_spare_places h_spare_crowds h_spare_pipsLeft h_spare_notHome u4_2_2_points u4_2_2_home u4_2_2_men u4_2_2_turn u4_2_2_thrower u4_2_2_cube u4_2_2_owner u4_2_2_firms u4_2_2_kindsTold u4_2_2_places u4_2_2_crowds u4_2_2_pipsLeft u4_2_2_notHome) H locs := Y
      replace hM := mS hM huu4
      show W p l e q_X3_worthTo_2 s m args below meth c H locs 0 0 Q (F0 m 38 ls [.int u4_1, .int st2_1])
      refine r_iadd (pc' := 39) X 24 rfl rfl ?_
      refine r_istore_n (pc' := 40) (L' := [(3, .int (st2_1 + u4_1)), (0, .ref h), (1, .int i1), (2, .int i2), (4, .int st2_2_1)]) X hl rfl 25 rfl rfl (by decide) rfl (fun ls hl => ?_)
      refine r_iinc (pc' := 43) (L' := [(4, .int (st2_2_1 + (1 : Int32))), (3, .int (st2_1 + u4_1)), (0, .ref h), (1, .int i1), (2, .int i2)]) X (st2_2_1 + (1 : Int32)) hl 4 rfl rfl 26 rfl rfl (by decide) rfl (fun ls hl => ?_)
      refine r_goto X 18 27 rfl (by decide) ?_
      exact IH2 _ hM _ _ _ Y (lv_sub hl [2, 3, 4, 1, 0] rfl)
  · replace hM := mE hM c1
    refine r_aload_n (pc' := 5) X hl 0 rfl rfl 2 rfl rfl ?_
    refine r_get (pc' := 8) (v := .ref h_spare) X Y 3 rfl rfl fRX3_12 0 rfl rfl ?_
    refine r_iload_n (pc' := 9) X hl 1 rfl rfl 4 rfl rfl ?_
    refine r_callV0 (pc' := 12) (As := [.int i1]) (rest := []) X Y 5 rfl rfl mRX3_59 (c_X2_lead l G h_spare h_spare_firms h_spare_kindsTold h_spare_places h_spare_crowds h_spare_pipsLeft h_spare_notHome S1_points S1_home S1_men S1_turn S1_thrower S1_cube S1_owner S1_firms S1_kindsTold S1_places S1_crowds S1_pipsLeft S1_notHome i1) (mB hM hne) 1 rfl rfl [1, 2, 3, 4, 5, 6, 7] rfl rfl rfl (Nat.le_of_ble_eq_true rfl) ⟨rfl, rfl⟩ ⟨Nat.le_of_ble_eq_true rfl, Nat.le_of_ble_eq_true rfl⟩ ⟨Nat.zero_le _, Nat.zero_le _⟩ hl.1 (st' := fun u5 => [.int u5]) (fun _ => rfl) (fun u5 H locs huu5 Y => ?_)
    replace hM := mS hM huu5
    exact RT (u5, S0, (S1_points, S1_home, S1_men, S1_turn, S1_thrower, S1_cube, S1_owner, S1_firms, S1_kindsTold, S1_places, S1_crowds, S1_pipsLeft, S1_notHome)) _ _ _ _ _ hM (Or.inl ⟨rfl, rfl, _, rfl⟩) (X.d (k := 6) rfl) Y

def M_X3_worthBehind_2 (S0 : FS) (S1 : BD) (i1 : Int32) (i2 : Int32) (i3 : Int32) : Option (Int32 × FS × BD) :=
  (if inb i1 8 = true then ((M_X2_go S1 i1 i2).bind (fun u2 => ((M_X3_worthTo_2 S0 u2.2 (((bd_firms u2.2) (i1).toNatClampNeg)) i3).bind (fun u3 => ((M_X2_put u3.2.2 i1 (((bd_places S1) (i1).toNatClampNeg))).bind (fun u4 => (if u2.1 = (-1000000 : Int32) then (some (u3.1, u3.2.1, u4)) else ((M_X2_put u4 u2.1 (((bd_places u2.2) (i1).toNatClampNeg))).bind (fun u6 => (some (u3.1, u3.2.1, u6))))))))))) else none)
def q_X3_worthBehind_2 : Room := { frames := 11, cells := 0, slots := 0, locals := 308 }
set_option maxHeartbeats 4000000 in
set_option maxRecDepth 100000 in
theorem c_X3_worthBehind_2 (l : Launch) (G : gT) (h h_spare h_told h_spare_firms h_spare_kindsTold h_spare_places h_spare_crowds h_spare_pipsLeft h_spare_notHome : Nat) (S0 : Int32) (S1_points : Int32) (S1_home : Int32) (S1_men : Int32) (S1_turn : Int32) (S1_thrower : Int32) (S1_cube : Int32) (S1_owner : Int32) (S1_firms : Nat → Int32) (S1_kindsTold : Nat → Int32) (S1_places : Nat → Int32) (S1_crowds : Nat → Int32) (S1_pipsLeft : Nat → Int32) (S1_notHome : Nat → Int32) (i1 : Int32) (i2 : Int32) (i3 : Int32) : CT l G yX3_worthBehind cX3_worthBehind 8 (some .int) q_X3_worthBehind_2 [.ref h, .int i1, .int i2, .int i3] (wFS G h h_spare h_told S0 ++ wBD G h_spare h_spare_firms h_spare_kindsTold h_spare_places h_spare_crowds h_spare_pipsLeft h_spare_notHome S1_points S1_home S1_men S1_turn S1_thrower S1_cube S1_owner S1_firms S1_kindsTold S1_places S1_crowds S1_pipsLeft S1_notHome) (M_X3_worthBehind_2 S0 (S1_points, S1_home, S1_men, S1_turn, S1_thrower, S1_cube, S1_owner, S1_firms, S1_kindsTold, S1_places, S1_crowds, S1_pipsLeft, S1_notHome) i1 i2 i3) (fun u => some (.int u.1)) (fun u => wFS G h h_spare h_told u.2.1 ++ wBD G h_spare h_spare_firms h_spare_kindsTold h_spare_places h_spare_crowds h_spare_pipsLeft h_spare_notHome u.2.2.1 u.2.2.2.1 u.2.2.2.2.1 u.2.2.2.2.2.1 u.2.2.2.2.2.2.1 u.2.2.2.2.2.2.2.1 u.2.2.2.2.2.2.2.2.1 u.2.2.2.2.2.2.2.2.2.1 u.2.2.2.2.2.2.2.2.2.2.1 u.2.2.2.2.2.2.2.2.2.2.2.1 u.2.2.2.2.2.2.2.2.2.2.2.2.1 u.2.2.2.2.2.2.2.2.2.2.2.2.2.1 u.2.2.2.2.2.2.2.2.2.2.2.2.2.2) := by
  refine CT.of (P := PX3_worthBehind) (by decide) dPX3_worthBehind (Nat.le_of_ble_eq_true rfl) ?_
  intro p e s m args below meth c A Q ls hne X RT Y hl
  have hl : lv_has ls 8 [(0, .ref h), (1, .int i1), (2, .int i2), (3, .int i3)] := hl
  generalize hM : M_X3_worthBehind_2 S0 (S1_points, S1_home, S1_men, S1_turn, S1_thrower, S1_cube, S1_owner, S1_firms, S1_kindsTold, S1_places, S1_crowds, S1_pipsLeft, S1_notHome) i1 i2 i3 = MM at hne RT
  unfold M_X3_worthBehind_2 at hM
  refine r_aload_n (pc' := 1) X hl 0 rfl rfl 0 rfl rfl ?_
  refine r_get (pc' := 4) (v := .ref h_spare) X Y 1 rfl rfl fRX3_12 0 rfl rfl ?_
  refine r_getN (pc' := 7) (v := .ref h_spare_places) X Y 2 rfl rfl fRX3_49 1 rfl rfl ?_
  refine r_iload_n (pc' := 8) X hl 1 rfl rfl 3 rfl rfl ?_
  obtain ⟨g1, hM⟩ := mG hM hne
  refine r_iald (pc' := 9) X Y 4 rfl rfl 4 rfl (vin g1) ?_
  refine r_istore (pc' := 11) (L' := [(4, .int (S1_places (i1).toNatClampNeg)), (0, .ref h), (1, .int i1), (2, .int i2), (3, .int i3)]) X hl 5 rfl rfl (by decide) rfl (fun ls hl => ?_)
  refine r_aload_n (pc' := 12) X hl 1 rfl rfl 6 rfl rfl ?_
  refine r_get (pc' := 15) (v := .ref h_spare) X Y 7 rfl rfl fRX3_12 0 rfl rfl ?_
  refine r_iload_n (pc' := 16) X hl 2 rfl rfl 8 rfl rfl ?_
  refine r_iload_n (pc' := 17) X hl 3 rfl rfl 9 rfl rfl ?_
  refine r_callV (pc' := 20) (As := [.int i1, .int i2]) (rest := []) (wr := (wFS G h h_spare h_told S0 : va_W)) X Y 10 rfl rfl mRX3_52 (c_X2_go l G h_spare h_spare_firms h_spare_kindsTold h_spare_places h_spare_crowds h_spare_pipsLeft h_spare_notHome S1_points S1_home S1_men S1_turn S1_thrower S1_cube S1_owner S1_firms S1_kindsTold S1_places S1_crowds S1_pipsLeft S1_notHome i1 i2) (mB hM hne) 1 rfl rfl [1, 2, 3, 4, 5, 6, 7] [0] [0, 1, 2, 3, 4, 5, 6, 7] rfl rfl ⟨rfl, rfl, rfl⟩ rfl (w2 := fun u2 => wFS G h h_spare h_told S0 ++ wBD G h_spare h_spare_firms h_spare_kindsTold h_spare_places h_spare_crowds h_spare_pipsLeft h_spare_notHome u2.2.1 u2.2.2.1 u2.2.2.2.1 u2.2.2.2.2.1 u2.2.2.2.2.2.1 u2.2.2.2.2.2.2.1 u2.2.2.2.2.2.2.2.1 u2.2.2.2.2.2.2.2.2.1 u2.2.2.2.2.2.2.2.2.2.1 u2.2.2.2.2.2.2.2.2.2.2.1 u2.2.2.2.2.2.2.2.2.2.2.2.1 u2.2.2.2.2.2.2.2.2.2.2.2.2.1 u2.2.2.2.2.2.2.2.2.2.2.2.2.2) (fun _ => rfl) rfl (Nat.le_of_ble_eq_true rfl) ⟨rfl, rfl⟩ ⟨Nat.le_of_ble_eq_true rfl, Nat.le_of_ble_eq_true rfl⟩ ⟨Nat.zero_le _, Nat.zero_le _⟩ hl.1 (st' := fun u2 => [.int u2.1]) (fun _ => rfl) (fun u2 H locs huu2 Y => ?_)
  obtain ⟨u2_1, ⟨u2_2_points, u2_2_home, u2_2_men, u2_2_turn, u2_2_thrower, u2_2_cube, u2_2_owner, u2_2_firms, u2_2_kindsTold, u2_2_places, u2_2_crowds, u2_2_pipsLeft, u2_2_notHome⟩⟩ := u2
  replace Y : rY G A s (wFS G h h_spare h_told S0 ++ wBD G h_spare h_spare_firms h_spare_kindsTold h_spare_places h_spare_crowds h_spare_pipsLeft h_spare_notHome u2_2_points u2_2_home u2_2_men u2_2_turn u2_2_thrower u2_2_cube u2_2_owner u2_2_firms u2_2_kindsTold u2_2_places u2_2_crowds u2_2_pipsLeft u2_2_notHome) H locs := Y
  replace hM := mS hM huu2
  show W p l e q_X3_worthBehind_2 s m args below meth c H locs 0 0 Q (F0 m 20 ls [.int u2_1])
  refine r_istore (pc' := 22) (L' := [(5, .int u2_1), (4, .int (S1_places (i1).toNatClampNeg)), (0, .ref h), (1, .int i1), (2, .int i2), (3, .int i3)]) X hl 11 rfl rfl (by decide) rfl (fun ls hl => ?_)
  refine r_aload_n (pc' := 23) X hl 2 rfl rfl 12 rfl rfl ?_
  refine r_get (pc' := 26) (v := .ref h_spare) X Y 13 rfl rfl fRX3_12 0 rfl rfl ?_
  refine r_getN (pc' := 29) (v := .ref h_spare_places) X Y 14 rfl rfl fRX3_49 1 rfl rfl ?_
  refine r_iload_n (pc' := 30) X hl 3 rfl rfl 15 rfl rfl ?_
  refine r_iald (pc' := 31) X Y 16 rfl rfl 4 rfl (vin g1) ?_
  refine r_istore (pc' := 33) (L' := [(6, .int (u2_2_places (i1).toNatClampNeg)), (5, .int u2_1), (4, .int (S1_places (i1).toNatClampNeg)), (0, .ref h), (1, .int i1), (2, .int i2), (3, .int i3)]) X hl 17 rfl rfl (by decide) rfl (fun ls hl => ?_)
  refine r_aload_n (pc' := 34) X hl 3 rfl rfl 18 rfl rfl ?_
  refine r_aload_n (pc' := 35) X hl 3 rfl rfl 19 rfl rfl ?_
  refine r_get (pc' := 38) (v := .ref h_spare) X Y 20 rfl rfl fRX3_12 0 rfl rfl ?_
  refine r_getN (pc' := 41) (v := .ref h_spare_firms) X Y 21 rfl rfl fRX3_34 1 rfl rfl ?_
  refine r_iload_n (pc' := 42) X hl 4 rfl rfl 22 rfl rfl ?_
  refine r_iald (pc' := 43) X Y 23 rfl rfl 2 rfl (vin g1) ?_
  refine r_iload_n (pc' := 44) X hl 6 rfl rfl 24 rfl rfl ?_
  refine r_callV (pc' := 47) (As := [.int (u2_2_firms (i1).toNatClampNeg), .int i3]) (rest := []) (wr := ([] : va_W)) X Y 25 rfl rfl mRX3_45 (c_X3_worthTo_2 l G h h_spare h_told h_spare_firms h_spare_kindsTold h_spare_places h_spare_crowds h_spare_pipsLeft h_spare_notHome S0 u2_2_points u2_2_home u2_2_men u2_2_turn u2_2_thrower u2_2_cube u2_2_owner u2_2_firms u2_2_kindsTold u2_2_places u2_2_crowds u2_2_pipsLeft u2_2_notHome ((u2_2_firms (i1).toNatClampNeg)) i3) (mB hM hne) 0 rfl rfl [0, 1, 2, 3, 4, 5, 6, 7] [] [0, 1, 2, 3, 4, 5, 6, 7] rfl rfl ⟨rfl, rfl, rfl⟩ rfl (w2 := fun u3 => wFS G h h_spare h_told u3.2.1 ++ wBD G h_spare h_spare_firms h_spare_kindsTold h_spare_places h_spare_crowds h_spare_pipsLeft h_spare_notHome u3.2.2.1 u3.2.2.2.1 u3.2.2.2.2.1 u3.2.2.2.2.2.1 u3.2.2.2.2.2.2.1 u3.2.2.2.2.2.2.2.1 u3.2.2.2.2.2.2.2.2.1 u3.2.2.2.2.2.2.2.2.2.1 u3.2.2.2.2.2.2.2.2.2.2.1 u3.2.2.2.2.2.2.2.2.2.2.2.1 u3.2.2.2.2.2.2.2.2.2.2.2.2.1 u3.2.2.2.2.2.2.2.2.2.2.2.2.2.1 u3.2.2.2.2.2.2.2.2.2.2.2.2.2.2) (fun _ => rfl) rfl (Nat.le_of_ble_eq_true rfl) ⟨rfl, rfl⟩ ⟨Nat.le_of_ble_eq_true rfl, Nat.le_of_ble_eq_true rfl⟩ ⟨Nat.zero_le _, Nat.zero_le _⟩ hl.1 (st' := fun u3 => [.int u3.1]) (fun _ => rfl) (fun u3 H locs huu3 Y => ?_)
  obtain ⟨u3_1, u3_2_1, ⟨u3_2_2_points, u3_2_2_home, u3_2_2_men, u3_2_2_turn, u3_2_2_thrower, u3_2_2_cube, u3_2_2_owner, u3_2_2_firms, u3_2_2_kindsTold, u3_2_2_places, u3_2_2_crowds, u3_2_2_pipsLeft, u3_2_2_notHome⟩⟩ := u3
  replace Y : rY G A s (wFS G h h_spare h_told u3_2_1 ++ wBD G h_spare h_spare_firms h_spare_kindsTold h_spare_places h_spare_crowds h_spare_pipsLeft h_spare_notHome u3_2_2_points u3_2_2_home u3_2_2_men u3_2_2_turn u3_2_2_thrower u3_2_2_cube u3_2_2_owner u3_2_2_firms u3_2_2_kindsTold u3_2_2_places u3_2_2_crowds u3_2_2_pipsLeft u3_2_2_notHome) H locs := Y
  replace hM := mS hM huu3
  show W p l e q_X3_worthBehind_2 s m args below meth c H locs 0 0 Q (F0 m 47 ls [.int u3_1])
  refine r_istore (pc' := 49) (L' := [(7, .int u3_1), (6, .int (u2_2_places (i1).toNatClampNeg)), (5, .int u2_1), (4, .int (S1_places (i1).toNatClampNeg)), (0, .ref h), (1, .int i1), (2, .int i2), (3, .int i3)]) X hl 26 rfl rfl (by decide) rfl (fun ls hl => ?_)
  refine r_aload_n (pc' := 50) X hl 4 rfl rfl 27 rfl rfl ?_
  refine r_get (pc' := 53) (v := .ref h_spare) X Y 28 rfl rfl fRX3_12 0 rfl rfl ?_
  refine r_iload_n (pc' := 54) X hl 5 rfl rfl 29 rfl rfl ?_
  refine r_iload (pc' := 56) X hl 3 rfl 30 rfl rfl ?_
  refine r_callV (pc' := 59) (As := [.int i1, .int (S1_places (i1).toNatClampNeg)]) (rest := []) (wr := (wFS G h h_spare h_told u3_2_1 : va_W)) X Y 31 rfl rfl mRX3_55 (c_X2_put l G h_spare h_spare_firms h_spare_kindsTold h_spare_places h_spare_crowds h_spare_pipsLeft h_spare_notHome u3_2_2_points u3_2_2_home u3_2_2_men u3_2_2_turn u3_2_2_thrower u3_2_2_cube u3_2_2_owner u3_2_2_firms u3_2_2_kindsTold u3_2_2_places u3_2_2_crowds u3_2_2_pipsLeft u3_2_2_notHome i1 ((S1_places (i1).toNatClampNeg))) (mB hM hne) 1 rfl rfl [1, 2, 3, 4, 5, 6, 7] [0] [0, 1, 2, 3, 4, 5, 6, 7] rfl rfl ⟨rfl, rfl, rfl⟩ rfl (w2 := fun u4 => wFS G h h_spare h_told u3_2_1 ++ wBD G h_spare h_spare_firms h_spare_kindsTold h_spare_places h_spare_crowds h_spare_pipsLeft h_spare_notHome u4.1 u4.2.1 u4.2.2.1 u4.2.2.2.1 u4.2.2.2.2.1 u4.2.2.2.2.2.1 u4.2.2.2.2.2.2.1 u4.2.2.2.2.2.2.2.1 u4.2.2.2.2.2.2.2.2.1 u4.2.2.2.2.2.2.2.2.2.1 u4.2.2.2.2.2.2.2.2.2.2.1 u4.2.2.2.2.2.2.2.2.2.2.2.1 u4.2.2.2.2.2.2.2.2.2.2.2.2) (fun _ => rfl) rfl (Nat.le_of_ble_eq_true rfl) ⟨rfl, rfl⟩ ⟨Nat.le_of_ble_eq_true rfl, Nat.le_of_ble_eq_true rfl⟩ ⟨Nat.zero_le _, Nat.zero_le _⟩ hl.1 (st' := fun u4 => []) (fun _ => rfl) (fun u4 H locs huu4 Y => ?_)
  obtain ⟨u4_points, u4_home, u4_men, u4_turn, u4_thrower, u4_cube, u4_owner, u4_firms, u4_kindsTold, u4_places, u4_crowds, u4_pipsLeft, u4_notHome⟩ := u4
  replace Y : rY G A s (wFS G h h_spare h_told u3_2_1 ++ wBD G h_spare h_spare_firms h_spare_kindsTold h_spare_places h_spare_crowds h_spare_pipsLeft h_spare_notHome u4_points u4_home u4_men u4_turn u4_thrower u4_cube u4_owner u4_firms u4_kindsTold u4_places u4_crowds u4_pipsLeft u4_notHome) H locs := Y
  replace hM := mS hM huu4
  show W p l e q_X3_worthBehind_2 s m args below meth c H locs 0 0 Q (F0 m 59 ls [])
  refine r_iload (pc' := 61) X hl 2 rfl 32 rfl rfl ?_
  refine r_ldc (pc' := 63) X mw154 33 rfl rfl ?_
  refine r_icmp_eq (pc' := 66) X 77 34 rfl rfl (by decide) (fun c5 => ?_) (fun c5 => ?_)
  · replace hM := mI hM c5
    refine r_iload (pc' := 79) X hl 0 rfl 40 rfl rfl ?_
    exact RT (u3_1, u3_2_1, (u4_points, u4_home, u4_men, u4_turn, u4_thrower, u4_cube, u4_owner, u4_firms, u4_kindsTold, u4_places, u4_crowds, u4_pipsLeft, u4_notHome)) _ _ _ _ _ hM (Or.inl ⟨rfl, rfl, _, rfl⟩) (X.d (k := 41) rfl) Y
  · replace hM := mE hM c5
    refine r_aload_n (pc' := 67) X hl 4 rfl rfl 35 rfl rfl ?_
    refine r_get (pc' := 70) (v := .ref h_spare) X Y 36 rfl rfl fRX3_12 0 rfl rfl ?_
    refine r_iload (pc' := 72) X hl 2 rfl 37 rfl rfl ?_
    refine r_iload (pc' := 74) X hl 1 rfl 38 rfl rfl ?_
    refine r_callV (pc' := 77) (As := [.int u2_1, .int (u2_2_places (i1).toNatClampNeg)]) (rest := []) (wr := (wFS G h h_spare h_told u3_2_1 : va_W)) X Y 39 rfl rfl mRX3_55 (c_X2_put l G h_spare h_spare_firms h_spare_kindsTold h_spare_places h_spare_crowds h_spare_pipsLeft h_spare_notHome u4_points u4_home u4_men u4_turn u4_thrower u4_cube u4_owner u4_firms u4_kindsTold u4_places u4_crowds u4_pipsLeft u4_notHome u2_1 ((u2_2_places (i1).toNatClampNeg))) (mB hM hne) 1 rfl rfl [1, 2, 3, 4, 5, 6, 7] [0] [0, 1, 2, 3, 4, 5, 6, 7] rfl rfl ⟨rfl, rfl, rfl⟩ rfl (w2 := fun u6 => wFS G h h_spare h_told u3_2_1 ++ wBD G h_spare h_spare_firms h_spare_kindsTold h_spare_places h_spare_crowds h_spare_pipsLeft h_spare_notHome u6.1 u6.2.1 u6.2.2.1 u6.2.2.2.1 u6.2.2.2.2.1 u6.2.2.2.2.2.1 u6.2.2.2.2.2.2.1 u6.2.2.2.2.2.2.2.1 u6.2.2.2.2.2.2.2.2.1 u6.2.2.2.2.2.2.2.2.2.1 u6.2.2.2.2.2.2.2.2.2.2.1 u6.2.2.2.2.2.2.2.2.2.2.2.1 u6.2.2.2.2.2.2.2.2.2.2.2.2) (fun _ => rfl) rfl (Nat.le_of_ble_eq_true rfl) ⟨rfl, rfl⟩ ⟨Nat.le_of_ble_eq_true rfl, Nat.le_of_ble_eq_true rfl⟩ ⟨Nat.zero_le _, Nat.zero_le _⟩ hl.1 (st' := fun u6 => []) (fun _ => rfl) (fun u6 H locs huu6 Y => ?_)
    obtain ⟨u6_points, u6_home, u6_men, u6_turn, u6_thrower, u6_cube, u6_owner, u6_firms, u6_kindsTold, u6_places, u6_crowds, u6_pipsLeft, u6_notHome⟩ := u6
    replace Y : rY G A s (wFS G h h_spare h_told u3_2_1 ++ wBD G h_spare h_spare_firms h_spare_kindsTold h_spare_places h_spare_crowds h_spare_pipsLeft h_spare_notHome u6_points u6_home u6_men u6_turn u6_thrower u6_cube u6_owner u6_firms u6_kindsTold u6_places u6_crowds u6_pipsLeft u6_notHome) H locs := Y
    replace hM := mS hM huu6
    show W p l e q_X3_worthBehind_2 s m args below meth c H locs 0 0 Q (F0 m 77 ls [])
    refine r_iload (pc' := 79) X hl 0 rfl 40 rfl rfl ?_
    exact RT (u3_1, u3_2_1, (u6_points, u6_home, u6_men, u6_turn, u6_thrower, u6_cube, u6_owner, u6_firms, u6_kindsTold, u6_places, u6_crowds, u6_pipsLeft, u6_notHome)) _ _ _ _ _ hM (Or.inl ⟨rfl, rfl, _, rfl⟩) (X.d (k := 41) rfl) Y

def M_X3_greatestWorth_2 (S0 : FS) (S1 : BD) (i1 : Int32) (i2 : Int32) (i3 : Int32) : Option (Int32 × FS × BD) :=
  ((lp (σ := Int32 × Int32 × Int32 × Int32 × BD) (β := Int32 × Int32 × Int32 × BD) (fun rec1 st1 => (if (bd_men st1.2.2.2.2) ≤ st1.2.2.1 then (some (st1.1, st1.2.1, st1.2.2.2.1, st1.2.2.2.2)) else (if inb st1.2.2.1 8 = true then (if ((bd_firms st1.2.2.2.2) (st1.2.2.1).toNatClampNeg) = i1 then ((M_X2_canGo st1.2.2.2.2 st1.2.2.1 i2).bind (fun u7 => (if u7 = 0 then (rec1 (st1.1, st1.2.1, (st1.2.2.1 + (1 : Int32)), st1.2.2.2.1, st1.2.2.2.2)) else ((M_X3_worthBehind_2 st1.2.2.2.1 st1.2.2.2.2 st1.2.2.1 i2 i3).bind (fun u9 => (jn (σ := Unit) (fun v10 => (rec1 (st1.2.2.1, u9.1, (st1.2.2.1 + (1 : Int32)), u9.2.1, u9.2.2))) (fun J10 => (if st1.1 = (-1000000 : Int32) then (J10 ()) else (if u9.1 ≤ st1.2.1 then (rec1 (st1.1, st1.2.1, (st1.2.2.1 + (1 : Int32)), u9.2.1, u9.2.2)) else (J10 ())))))))))) else (rec1 (st1.1, st1.2.1, (st1.2.2.1 + (1 : Int32)), st1.2.2.2.1, st1.2.2.2.2))) else none))) 1000000 ((-1000000 : Int32), (0 : Int32), (0 : Int32), S0, S1)).bind (fun b1 => (if b1.1 = (-1000000 : Int32) then ((M_X3_worthTo_2 b1.2.2.1 b1.2.2.2 i1 i3).bind (fun u3 => (some (u3.1, b1.1, u3.2.2)))) else (some (b1.2.1, b1.1, b1.2.2.2)))))
def q_X3_greatestWorth_2 : Room := { frames := 12, cells := 0, slots := 0, locals := 335 }
set_option maxHeartbeats 4000000 in
set_option maxRecDepth 100000 in
theorem c_X3_greatestWorth_2 (l : Launch) (G : gT) (h h_spare h_told h_spare_firms h_spare_kindsTold h_spare_places h_spare_crowds h_spare_pipsLeft h_spare_notHome : Nat) (S0 : Int32) (S1_points : Int32) (S1_home : Int32) (S1_men : Int32) (S1_turn : Int32) (S1_thrower : Int32) (S1_cube : Int32) (S1_owner : Int32) (S1_firms : Nat → Int32) (S1_kindsTold : Nat → Int32) (S1_places : Nat → Int32) (S1_crowds : Nat → Int32) (S1_pipsLeft : Nat → Int32) (S1_notHome : Nat → Int32) (i1 : Int32) (i2 : Int32) (i3 : Int32) : CT l G yX3_greatestWorth cX3_greatestWorth 8 (some .int) q_X3_greatestWorth_2 [.ref h, .int i1, .int i2, .int i3] (wFS G h h_spare h_told S0 ++ wBD G h_spare h_spare_firms h_spare_kindsTold h_spare_places h_spare_crowds h_spare_pipsLeft h_spare_notHome S1_points S1_home S1_men S1_turn S1_thrower S1_cube S1_owner S1_firms S1_kindsTold S1_places S1_crowds S1_pipsLeft S1_notHome) (M_X3_greatestWorth_2 S0 (S1_points, S1_home, S1_men, S1_turn, S1_thrower, S1_cube, S1_owner, S1_firms, S1_kindsTold, S1_places, S1_crowds, S1_pipsLeft, S1_notHome) i1 i2 i3) (fun u => some (.int u.1)) (fun u => wFS G h h_spare h_told u.2.1 ++ wBD G h_spare h_spare_firms h_spare_kindsTold h_spare_places h_spare_crowds h_spare_pipsLeft h_spare_notHome u.2.2.1 u.2.2.2.1 u.2.2.2.2.1 u.2.2.2.2.2.1 u.2.2.2.2.2.2.1 u.2.2.2.2.2.2.2.1 u.2.2.2.2.2.2.2.2.1 u.2.2.2.2.2.2.2.2.2.1 u.2.2.2.2.2.2.2.2.2.2.1 u.2.2.2.2.2.2.2.2.2.2.2.1 u.2.2.2.2.2.2.2.2.2.2.2.2.1 u.2.2.2.2.2.2.2.2.2.2.2.2.2.1 u.2.2.2.2.2.2.2.2.2.2.2.2.2.2) := by
  refine CT.of (P := PX3_greatestWorth) (by decide) dPX3_greatestWorth (Nat.le_of_ble_eq_true rfl) ?_
  intro p e s m args below meth c A Q ls hne X RT Y hl
  have hl : lv_has ls 8 [(0, .ref h), (1, .int i1), (2, .int i2), (3, .int i3)] := hl
  generalize hM : M_X3_greatestWorth_2 S0 (S1_points, S1_home, S1_men, S1_turn, S1_thrower, S1_cube, S1_owner, S1_firms, S1_kindsTold, S1_places, S1_crowds, S1_pipsLeft, S1_notHome) i1 i2 i3 = MM at hne RT
  unfold M_X3_greatestWorth_2 at hM
  refine r_ldc (pc' := 2) X mw154 0 rfl rfl ?_
  refine r_istore (pc' := 4) (L' := [(4, .int (-1000000 : Int32)), (0, .ref h), (1, .int i1), (2, .int i2), (3, .int i3)]) X hl 1 rfl rfl (by decide) rfl (fun ls hl => ?_)
  refine r_iconst (pc' := 5) X (0 : Int32) 2 rfl rfl rfl ?_
  refine r_istore (pc' := 7) (L' := [(5, .int (0 : Int32)), (4, .int (-1000000 : Int32)), (0, .ref h), (1, .int i1), (2, .int i2), (3, .int i3)]) X hl 3 rfl rfl (by decide) rfl (fun ls hl => ?_)
  refine r_iconst (pc' := 8) X (0 : Int32) 4 rfl rfl rfl ?_
  refine r_istore (pc' := 10) (L' := [(6, .int (0 : Int32)), (5, .int (0 : Int32)), (4, .int (-1000000 : Int32)), (0, .ref h), (1, .int i1), (2, .int i2), (3, .int i3)]) X hl 5 rfl rfl (by decide) rfl (fun ls hl => ?_)
  obtain ⟨LL1, hL1, hne1, hX1⟩ := mL hM hne
  have KX1 : ∀ (b1_1 : Int32) (b1_2_1 : Int32) (b1_2_2_1 : Int32) (b1_2_2_2_points : Int32) (b1_2_2_2_home : Int32) (b1_2_2_2_men : Int32) (b1_2_2_2_turn : Int32) (b1_2_2_2_thrower : Int32) (b1_2_2_2_cube : Int32) (b1_2_2_2_owner : Int32) (b1_2_2_2_firms : Nat → Int32) (b1_2_2_2_kindsTold : Nat → Int32) (b1_2_2_2_places : Nat → Int32) (b1_2_2_2_crowds : Nat → Int32) (b1_2_2_2_pipsLeft : Nat → Int32) (b1_2_2_2_notHome : Nat → Int32) (H : Heap) (locs : List Loc) (ls : Array Slot), some (b1_1, b1_2_1, b1_2_2_1, (b1_2_2_2_points, b1_2_2_2_home, b1_2_2_2_men, b1_2_2_2_turn, b1_2_2_2_thrower, b1_2_2_2_cube, b1_2_2_2_owner, b1_2_2_2_firms, b1_2_2_2_kindsTold, b1_2_2_2_places, b1_2_2_2_crowds, b1_2_2_2_pipsLeft, b1_2_2_2_notHome)) = LL1 → rY G A s (wFS G h h_spare h_told b1_2_2_1 ++ wBD G h_spare h_spare_firms h_spare_kindsTold h_spare_places h_spare_crowds h_spare_pipsLeft h_spare_notHome b1_2_2_2_points b1_2_2_2_home b1_2_2_2_men b1_2_2_2_turn b1_2_2_2_thrower b1_2_2_2_cube b1_2_2_2_owner b1_2_2_2_firms b1_2_2_2_kindsTold b1_2_2_2_places b1_2_2_2_crowds b1_2_2_2_pipsLeft b1_2_2_2_notHome) H locs → lv_has ls 8 [(0, .ref h), (1, .int i1), (3, .int i3), (4, .int b1_1), (5, .int b1_2_1)] → W p l e q_X3_greatestWorth_2 s m args below meth c H locs 0 0 Q (F0 m 87 ls []) := by
    intro b1_1 b1_2_1 b1_2_2_1 b1_2_2_2_points b1_2_2_2_home b1_2_2_2_men b1_2_2_2_turn b1_2_2_2_thrower b1_2_2_2_cube b1_2_2_2_owner b1_2_2_2_firms b1_2_2_2_kindsTold b1_2_2_2_places b1_2_2_2_crowds b1_2_2_2_pipsLeft b1_2_2_2_notHome H locs ls hM Y hl
    replace hM := hX1 _ hM
    refine r_iload (pc' := 89) X hl 3 rfl 42 rfl rfl ?_
    refine r_ldc (pc' := 91) X mw154 43 rfl rfl ?_
    refine r_icmp_ne (pc' := 94) X 102 44 rfl rfl (by decide) (fun c2 => ?_) (fun c2 => ?_)
    · replace hM := mE hM c2
      refine r_aload_n (pc' := 103) X hl 0 rfl rfl 50 rfl rfl ?_
      refine r_iload (pc' := 105) X hl 3 rfl 51 rfl rfl ?_
      refine r_put (pc' := 108) (ws' := wFS G h h_spare h_told b1_1 ++ wBD G h_spare h_spare_firms h_spare_kindsTold h_spare_places h_spare_crowds h_spare_pipsLeft h_spare_notHome b1_2_2_2_points b1_2_2_2_home b1_2_2_2_men b1_2_2_2_turn b1_2_2_2_thrower b1_2_2_2_cube b1_2_2_2_owner b1_2_2_2_firms b1_2_2_2_kindsTold b1_2_2_2_places b1_2_2_2_crowds b1_2_2_2_pipsLeft b1_2_2_2_notHome) X Y 52 rfl rfl fRX3_23 0 rfl rfl rfl (Nat.le_of_ble_eq_true rfl) rfl (fun H locs Y => ?_)
      refine r_iload (pc' := 110) X hl 4 rfl 53 rfl rfl ?_
      exact RT (b1_2_1, b1_1, (b1_2_2_2_points, b1_2_2_2_home, b1_2_2_2_men, b1_2_2_2_turn, b1_2_2_2_thrower, b1_2_2_2_cube, b1_2_2_2_owner, b1_2_2_2_firms, b1_2_2_2_kindsTold, b1_2_2_2_places, b1_2_2_2_crowds, b1_2_2_2_pipsLeft, b1_2_2_2_notHome)) _ _ _ _ _ hM (Or.inl ⟨rfl, rfl, _, rfl⟩) (X.d (k := 54) rfl) Y
    · replace hM := mI hM c2
      refine r_aload_n (pc' := 95) X hl 0 rfl rfl 45 rfl rfl ?_
      refine r_iload_n (pc' := 96) X hl 1 rfl rfl 46 rfl rfl ?_
      refine r_iload_n (pc' := 97) X hl 2 rfl rfl 47 rfl rfl ?_
      refine r_callV (pc' := 100) (As := [.int i1, .int i3]) (rest := []) (wr := ([] : va_W)) X Y 48 rfl rfl mRX3_45 (c_X3_worthTo_2 l G h h_spare h_told h_spare_firms h_spare_kindsTold h_spare_places h_spare_crowds h_spare_pipsLeft h_spare_notHome b1_2_2_1 b1_2_2_2_points b1_2_2_2_home b1_2_2_2_men b1_2_2_2_turn b1_2_2_2_thrower b1_2_2_2_cube b1_2_2_2_owner b1_2_2_2_firms b1_2_2_2_kindsTold b1_2_2_2_places b1_2_2_2_crowds b1_2_2_2_pipsLeft b1_2_2_2_notHome i1 i3) (mB hM hne) 0 rfl rfl [0, 1, 2, 3, 4, 5, 6, 7] [] [0, 1, 2, 3, 4, 5, 6, 7] rfl rfl ⟨rfl, rfl, rfl⟩ rfl (w2 := fun u3 => wFS G h h_spare h_told u3.2.1 ++ wBD G h_spare h_spare_firms h_spare_kindsTold h_spare_places h_spare_crowds h_spare_pipsLeft h_spare_notHome u3.2.2.1 u3.2.2.2.1 u3.2.2.2.2.1 u3.2.2.2.2.2.1 u3.2.2.2.2.2.2.1 u3.2.2.2.2.2.2.2.1 u3.2.2.2.2.2.2.2.2.1 u3.2.2.2.2.2.2.2.2.2.1 u3.2.2.2.2.2.2.2.2.2.2.1 u3.2.2.2.2.2.2.2.2.2.2.2.1 u3.2.2.2.2.2.2.2.2.2.2.2.2.1 u3.2.2.2.2.2.2.2.2.2.2.2.2.2.1 u3.2.2.2.2.2.2.2.2.2.2.2.2.2.2) (fun _ => rfl) rfl (Nat.le_of_ble_eq_true rfl) ⟨rfl, rfl⟩ ⟨Nat.le_of_ble_eq_true rfl, Nat.le_of_ble_eq_true rfl⟩ ⟨Nat.zero_le _, Nat.zero_le _⟩ hl.1 (st' := fun u3 => [.int u3.1]) (fun _ => rfl) (fun u3 H locs huu3 Y => ?_)
      obtain ⟨u3_1, u3_2_1, ⟨u3_2_2_points, u3_2_2_home, u3_2_2_men, u3_2_2_turn, u3_2_2_thrower, u3_2_2_cube, u3_2_2_owner, u3_2_2_firms, u3_2_2_kindsTold, u3_2_2_places, u3_2_2_crowds, u3_2_2_pipsLeft, u3_2_2_notHome⟩⟩ := u3
      replace Y : rY G A s (wFS G h h_spare h_told u3_2_1 ++ wBD G h_spare h_spare_firms h_spare_kindsTold h_spare_places h_spare_crowds h_spare_pipsLeft h_spare_notHome u3_2_2_points u3_2_2_home u3_2_2_men u3_2_2_turn u3_2_2_thrower u3_2_2_cube u3_2_2_owner u3_2_2_firms u3_2_2_kindsTold u3_2_2_places u3_2_2_crowds u3_2_2_pipsLeft u3_2_2_notHome) H locs := Y
      replace hM := mS hM huu3
      show W p l e q_X3_greatestWorth_2 s m args below meth c H locs 0 0 Q (F0 m 100 ls [.int u3_1])
      refine r_istore (pc' := 102) (L' := [(5, .int u3_1), (0, .ref h), (1, .int i1), (3, .int i3), (4, .int b1_1)]) X hl 49 rfl rfl (by decide) rfl (fun ls hl => ?_)
      refine r_aload_n (pc' := 103) X hl 1 rfl rfl 50 rfl rfl ?_
      refine r_iload (pc' := 105) X hl 4 rfl 51 rfl rfl ?_
      refine r_put (pc' := 108) (ws' := wFS G h h_spare h_told b1_1 ++ wBD G h_spare h_spare_firms h_spare_kindsTold h_spare_places h_spare_crowds h_spare_pipsLeft h_spare_notHome u3_2_2_points u3_2_2_home u3_2_2_men u3_2_2_turn u3_2_2_thrower u3_2_2_cube u3_2_2_owner u3_2_2_firms u3_2_2_kindsTold u3_2_2_places u3_2_2_crowds u3_2_2_pipsLeft u3_2_2_notHome) X Y 52 rfl rfl fRX3_23 0 rfl rfl rfl (Nat.le_of_ble_eq_true rfl) rfl (fun H locs Y => ?_)
      refine r_iload (pc' := 110) X hl 0 rfl 53 rfl rfl ?_
      exact RT (u3_1, b1_1, (u3_2_2_points, u3_2_2_home, u3_2_2_men, u3_2_2_turn, u3_2_2_thrower, u3_2_2_cube, u3_2_2_owner, u3_2_2_firms, u3_2_2_kindsTold, u3_2_2_places, u3_2_2_crowds, u3_2_2_pipsLeft, u3_2_2_notHome)) _ _ _ _ _ hM (Or.inl ⟨rfl, rfl, _, rfl⟩) (X.d (k := 54) rfl) Y
  refine lp_rule (I := fun (st1 : Int32 × Int32 × Int32 × Int32 × BD) => ∀ (H : Heap) (locs : List Loc) (ls : Array Slot), rY G A s (wFS G h h_spare h_told st1.2.2.2.1 ++ wBD G h_spare h_spare_firms h_spare_kindsTold h_spare_places h_spare_crowds h_spare_pipsLeft h_spare_notHome st1.2.2.2.2.1 st1.2.2.2.2.2.1 st1.2.2.2.2.2.2.1 st1.2.2.2.2.2.2.2.1 st1.2.2.2.2.2.2.2.2.1 st1.2.2.2.2.2.2.2.2.2.1 st1.2.2.2.2.2.2.2.2.2.2.1 st1.2.2.2.2.2.2.2.2.2.2.2.1 st1.2.2.2.2.2.2.2.2.2.2.2.2.1 st1.2.2.2.2.2.2.2.2.2.2.2.2.2.1 st1.2.2.2.2.2.2.2.2.2.2.2.2.2.2.1 st1.2.2.2.2.2.2.2.2.2.2.2.2.2.2.2.1 st1.2.2.2.2.2.2.2.2.2.2.2.2.2.2.2.2) H locs → lv_has ls 8 [(0, .ref h), (1, .int i1), (2, .int i2), (3, .int i3), (4, .int st1.1), (5, .int st1.2.1), (6, .int st1.2.2.1)] → W p l e q_X3_greatestWorth_2 s m args below meth c H locs 0 0 Q (F0 m 10 ls [])) hne1 (fun rec1 st1 IH1 hM => ?_) _ _ hL1 _ _ _ Y (lv_sub hl [3, 4, 5, 6, 2, 1, 0] rfl)
  intro H locs ls Y hl
  obtain ⟨st1_1, st1_2_1, st1_2_2_1, st1_2_2_2_1, ⟨st1_2_2_2_2_points, st1_2_2_2_2_home, st1_2_2_2_2_men, st1_2_2_2_2_turn, st1_2_2_2_2_thrower, st1_2_2_2_2_cube, st1_2_2_2_2_owner, st1_2_2_2_2_firms, st1_2_2_2_2_kindsTold, st1_2_2_2_2_places, st1_2_2_2_2_crowds, st1_2_2_2_2_pipsLeft, st1_2_2_2_2_notHome⟩⟩ := st1
  replace Y : rY G A s (wFS G h h_spare h_told st1_2_2_2_1 ++ wBD G h_spare h_spare_firms h_spare_kindsTold h_spare_places h_spare_crowds h_spare_pipsLeft h_spare_notHome st1_2_2_2_2_points st1_2_2_2_2_home st1_2_2_2_2_men st1_2_2_2_2_turn st1_2_2_2_2_thrower st1_2_2_2_2_cube st1_2_2_2_2_owner st1_2_2_2_2_firms st1_2_2_2_2_kindsTold st1_2_2_2_2_places st1_2_2_2_2_crowds st1_2_2_2_2_pipsLeft st1_2_2_2_2_notHome) H locs := Y
  replace hl : lv_has ls 8 [(0, .ref h), (1, .int i1), (2, .int i2), (3, .int i3), (4, .int st1_1), (5, .int st1_2_1), (6, .int st1_2_2_1)] := hl
  refine r_iload (pc' := 12) X hl 6 rfl 6 rfl rfl ?_
  refine r_aload_n (pc' := 13) X hl 0 rfl rfl 7 rfl rfl ?_
  refine r_get (pc' := 16) (v := .ref h_spare) X Y 8 rfl rfl fRX3_12 0 rfl rfl ?_
  refine r_getN (pc' := 19) (v := .int st1_2_2_2_2_men) X Y 9 rfl rfl fRX3_31 1 rfl rfl ?_
  refine r_icmp_ge (pc' := 22) X 87 10 rfl rfl (by decide) (fun c4 => ?_) (fun c4 => ?_)
  · replace hM := mI hM c4
    exact KX1 st1_1 st1_2_1 st1_2_2_2_1 st1_2_2_2_2_points st1_2_2_2_2_home st1_2_2_2_2_men st1_2_2_2_2_turn st1_2_2_2_2_thrower st1_2_2_2_2_cube st1_2_2_2_2_owner st1_2_2_2_2_firms st1_2_2_2_2_kindsTold st1_2_2_2_2_places st1_2_2_2_2_crowds st1_2_2_2_2_pipsLeft st1_2_2_2_2_notHome _ _ _ hM Y (lv_sub hl [0, 1, 3, 4, 5] rfl)
  · replace hM := mE hM c4
    refine r_aload_n (pc' := 23) X hl 0 rfl rfl 11 rfl rfl ?_
    refine r_get (pc' := 26) (v := .ref h_spare) X Y 12 rfl rfl fRX3_12 0 rfl rfl ?_
    refine r_getN (pc' := 29) (v := .ref h_spare_firms) X Y 13 rfl rfl fRX3_34 1 rfl rfl ?_
    refine r_iload (pc' := 31) X hl 6 rfl 14 rfl rfl ?_
    obtain ⟨g5, hM⟩ := mG hM hne1
    refine r_iald (pc' := 32) X Y 15 rfl rfl 2 rfl (vin g5) ?_
    refine r_iload_n (pc' := 33) X hl 1 rfl rfl 16 rfl rfl ?_
    refine r_icmp_ne (pc' := 36) X 81 17 rfl rfl (by decide) (fun c6 => ?_) (fun c6 => ?_)
    · replace hM := mE hM c6
      refine r_iinc (pc' := 84) (L' := [(6, .int (st1_2_2_1 + (1 : Int32))), (0, .ref h), (1, .int i1), (2, .int i2), (3, .int i3), (4, .int st1_1), (5, .int st1_2_1)]) X (st1_2_2_1 + (1 : Int32)) hl 6 rfl rfl 40 rfl rfl (by decide) rfl (fun ls hl => ?_)
      refine r_goto X 10 41 rfl (by decide) ?_
      exact IH1 _ hM _ _ _ Y (lv_sub hl [1, 2, 3, 4, 5, 6, 0] rfl)
    · replace hM := mI hM c6
      refine r_aload_n (pc' := 37) X hl 0 rfl rfl 18 rfl rfl ?_
      refine r_get (pc' := 40) (v := .ref h_spare) X Y 19 rfl rfl fRX3_12 0 rfl rfl ?_
      refine r_iload (pc' := 42) X hl 6 rfl 20 rfl rfl ?_
      refine r_iload_n (pc' := 43) X hl 2 rfl rfl 21 rfl rfl ?_
      refine r_callV0 (pc' := 46) (As := [.int st1_2_2_1, .int i2]) (rest := []) X Y 22 rfl rfl mRX3_37 (c_X2_canGo l G h_spare h_spare_firms h_spare_kindsTold h_spare_places h_spare_crowds h_spare_pipsLeft h_spare_notHome st1_2_2_2_2_points st1_2_2_2_2_home st1_2_2_2_2_men st1_2_2_2_2_turn st1_2_2_2_2_thrower st1_2_2_2_2_cube st1_2_2_2_2_owner st1_2_2_2_2_firms st1_2_2_2_2_kindsTold st1_2_2_2_2_places st1_2_2_2_2_crowds st1_2_2_2_2_pipsLeft st1_2_2_2_2_notHome st1_2_2_1 i2) (mB hM hne1) 1 rfl rfl [1, 2, 3, 4, 5, 6, 7] rfl rfl rfl (Nat.le_of_ble_eq_true rfl) ⟨rfl, rfl⟩ ⟨Nat.le_of_ble_eq_true rfl, Nat.le_of_ble_eq_true rfl⟩ ⟨Nat.zero_le _, Nat.zero_le _⟩ hl.1 (st' := fun u7 => [.int u7]) (fun _ => rfl) (fun u7 H locs huu7 Y => ?_)
      replace hM := mS hM huu7
      refine r_if_eq (pc' := 49) X 81 23 rfl rfl (by decide) (fun c8 => ?_) (fun c8 => ?_)
      · replace hM := mI hM c8
        refine r_iinc (pc' := 84) (L' := [(6, .int (st1_2_2_1 + (1 : Int32))), (0, .ref h), (1, .int i1), (2, .int i2), (3, .int i3), (4, .int st1_1), (5, .int st1_2_1)]) X (st1_2_2_1 + (1 : Int32)) hl 6 rfl rfl 40 rfl rfl (by decide) rfl (fun ls hl => ?_)
        refine r_goto X 10 41 rfl (by decide) ?_
        exact IH1 _ hM _ _ _ Y (lv_sub hl [1, 2, 3, 4, 5, 6, 0] rfl)
      · replace hM := mE hM c8
        refine r_aload_n (pc' := 50) X hl 0 rfl rfl 24 rfl rfl ?_
        refine r_iload (pc' := 52) X hl 6 rfl 25 rfl rfl ?_
        refine r_iload_n (pc' := 53) X hl 2 rfl rfl 26 rfl rfl ?_
        refine r_iload_n (pc' := 54) X hl 3 rfl rfl 27 rfl rfl ?_
        refine r_callV (pc' := 57) (As := [.int st1_2_2_1, .int i2, .int i3]) (rest := []) (wr := ([] : va_W)) X Y 28 rfl rfl mRX3_41 (c_X3_worthBehind_2 l G h h_spare h_told h_spare_firms h_spare_kindsTold h_spare_places h_spare_crowds h_spare_pipsLeft h_spare_notHome st1_2_2_2_1 st1_2_2_2_2_points st1_2_2_2_2_home st1_2_2_2_2_men st1_2_2_2_2_turn st1_2_2_2_2_thrower st1_2_2_2_2_cube st1_2_2_2_2_owner st1_2_2_2_2_firms st1_2_2_2_2_kindsTold st1_2_2_2_2_places st1_2_2_2_2_crowds st1_2_2_2_2_pipsLeft st1_2_2_2_2_notHome st1_2_2_1 i2 i3) (mB hM hne1) 0 rfl rfl [0, 1, 2, 3, 4, 5, 6, 7] [] [0, 1, 2, 3, 4, 5, 6, 7] rfl rfl ⟨rfl, rfl, rfl⟩ rfl (w2 := fun u9 => wFS G h h_spare h_told u9.2.1 ++ wBD G h_spare h_spare_firms h_spare_kindsTold h_spare_places h_spare_crowds h_spare_pipsLeft h_spare_notHome u9.2.2.1 u9.2.2.2.1 u9.2.2.2.2.1 u9.2.2.2.2.2.1 u9.2.2.2.2.2.2.1 u9.2.2.2.2.2.2.2.1 u9.2.2.2.2.2.2.2.2.1 u9.2.2.2.2.2.2.2.2.2.1 u9.2.2.2.2.2.2.2.2.2.2.1 u9.2.2.2.2.2.2.2.2.2.2.2.1 u9.2.2.2.2.2.2.2.2.2.2.2.2.1 u9.2.2.2.2.2.2.2.2.2.2.2.2.2.1 u9.2.2.2.2.2.2.2.2.2.2.2.2.2.2) (fun _ => rfl) rfl (Nat.le_of_ble_eq_true rfl) ⟨rfl, rfl⟩ ⟨Nat.le_of_ble_eq_true rfl, Nat.le_of_ble_eq_true rfl⟩ ⟨Nat.zero_le _, Nat.zero_le _⟩ hl.1 (st' := fun u9 => [.int u9.1]) (fun _ => rfl) (fun u9 H locs huu9 Y => ?_)
        obtain ⟨u9_1, u9_2_1, ⟨u9_2_2_points, u9_2_2_home, u9_2_2_men, u9_2_2_turn, u9_2_2_thrower, u9_2_2_cube, u9_2_2_owner, u9_2_2_firms, u9_2_2_kindsTold, u9_2_2_places, u9_2_2_crowds, u9_2_2_pipsLeft, u9_2_2_notHome⟩⟩ := u9
        replace Y : rY G A s (wFS G h h_spare h_told u9_2_1 ++ wBD G h_spare h_spare_firms h_spare_kindsTold h_spare_places h_spare_crowds h_spare_pipsLeft h_spare_notHome u9_2_2_points u9_2_2_home u9_2_2_men u9_2_2_turn u9_2_2_thrower u9_2_2_cube u9_2_2_owner u9_2_2_firms u9_2_2_kindsTold u9_2_2_places u9_2_2_crowds u9_2_2_pipsLeft u9_2_2_notHome) H locs := Y
        replace hM := mS hM huu9
        show W p l e q_X3_greatestWorth_2 s m args below meth c H locs 0 0 Q (F0 m 57 ls [.int u9_1])
        refine r_istore (pc' := 59) (L' := [(7, .int u9_1), (0, .ref h), (1, .int i1), (2, .int i2), (3, .int i3), (4, .int st1_1), (5, .int st1_2_1), (6, .int st1_2_2_1)]) X hl 29 rfl rfl (by decide) rfl (fun ls hl => ?_)
        refine r_iload (pc' := 61) X hl 5 rfl 30 rfl rfl ?_
        refine r_ldc (pc' := 63) X mw154 31 rfl rfl ?_
        obtain ⟨J10, hJ10, hM⟩ := mJ hM
        have KJ10 : ∀  (H : Heap) (locs : List Loc) (ls : Array Slot), J10 () = LL1 → rY G A s (wFS G h h_spare h_told u9_2_1 ++ wBD G h_spare h_spare_firms h_spare_kindsTold h_spare_places h_spare_crowds h_spare_pipsLeft h_spare_notHome u9_2_2_points u9_2_2_home u9_2_2_men u9_2_2_turn u9_2_2_thrower u9_2_2_cube u9_2_2_owner u9_2_2_firms u9_2_2_kindsTold u9_2_2_places u9_2_2_crowds u9_2_2_pipsLeft u9_2_2_notHome) H locs → lv_has ls 8 [(0, .ref h), (1, .int i1), (2, .int i2), (3, .int i3), (6, .int st1_2_2_1), (7, .int u9_1)] → W p l e q_X3_greatestWorth_2 s m args below meth c H locs 0 0 Q (F0 m 73 ls []) := by
          intro  H locs ls hM Y hl
          replace hM := (hJ10 _).symm.trans hM
          refine r_iload (pc' := 75) X hl 4 rfl 36 rfl rfl ?_
          refine r_istore (pc' := 77) (L' := [(4, .int st1_2_2_1), (0, .ref h), (1, .int i1), (2, .int i2), (3, .int i3), (6, .int st1_2_2_1), (7, .int u9_1)]) X hl 37 rfl rfl (by decide) rfl (fun ls hl => ?_)
          refine r_iload (pc' := 79) X hl 6 rfl 38 rfl rfl ?_
          refine r_istore (pc' := 81) (L' := [(5, .int u9_1), (4, .int st1_2_2_1), (0, .ref h), (1, .int i1), (2, .int i2), (3, .int i3), (6, .int st1_2_2_1), (7, .int u9_1)]) X hl 39 rfl rfl (by decide) rfl (fun ls hl => ?_)
          refine r_iinc (pc' := 84) (L' := [(6, .int (st1_2_2_1 + (1 : Int32))), (5, .int u9_1), (4, .int st1_2_2_1), (0, .ref h), (1, .int i1), (2, .int i2), (3, .int i3), (7, .int u9_1)]) X (st1_2_2_1 + (1 : Int32)) hl 6 rfl rfl 40 rfl rfl (by decide) rfl (fun ls hl => ?_)
          refine r_goto X 10 41 rfl (by decide) ?_
          exact IH1 _ hM _ _ _ Y (lv_sub hl [3, 4, 5, 6, 2, 1, 0] rfl)
        refine r_icmp_eq (pc' := 66) X 73 32 rfl rfl (by decide) (fun c11 => ?_) (fun c11 => ?_)
        · replace hM := mI hM c11
          exact KJ10  _ _ _ hM Y (lv_sub hl [1, 2, 3, 4, 7, 0] rfl)
        · replace hM := mE hM c11
          refine r_iload (pc' := 68) X hl 0 rfl 33 rfl rfl ?_
          refine r_iload (pc' := 70) X hl 6 rfl 34 rfl rfl ?_
          refine r_icmp_le (pc' := 73) X 81 35 rfl rfl (by decide) (fun c12 => ?_) (fun c12 => ?_)
          · replace hM := mI hM c12
            refine r_iinc (pc' := 84) (L' := [(6, .int (st1_2_2_1 + (1 : Int32))), (7, .int u9_1), (0, .ref h), (1, .int i1), (2, .int i2), (3, .int i3), (4, .int st1_1), (5, .int st1_2_1)]) X (st1_2_2_1 + (1 : Int32)) hl 7 rfl rfl 40 rfl rfl (by decide) rfl (fun ls hl => ?_)
            refine r_goto X 10 41 rfl (by decide) ?_
            exact IH1 _ hM _ _ _ Y (lv_sub hl [2, 3, 4, 5, 6, 7, 0] rfl)
          · replace hM := mE hM c12
            exact KJ10  _ _ _ hM Y (lv_sub hl [1, 2, 3, 4, 7, 0] rfl)

def M_X3_leaveAlone (S0 : FS) (S1 : BD) (S2 : BD) (i2 : Int32) : Option (BD) :=
  ((M_X2_copyFrom S1 S2).bind (fun u1 => (lp (σ := Int32 × BD) (β := BD) (fun rec2 st2 => (if (bd_men st2.2) ≤ st2.1 then (some st2.2) else (if inb st2.1 8 = true then (if ((bd_firms st2.2) (st2.1).toNatClampNeg) = i2 then (rec2 ((st2.1 + (1 : Int32)), st2.2)) else ((M_X2_off st2.2).bind (fun u6 => ((M_X2_put st2.2 st2.1 u6).bind (fun u7 => (rec2 ((st2.1 + (1 : Int32)), u7))))))) else none))) 1000000 ((0 : Int32), u1))))
def q_X3_leaveAlone : Room := { frames := 4, cells := 0, slots := 0, locals := 128 }
set_option maxHeartbeats 4000000 in
set_option maxRecDepth 100000 in
theorem c_X3_leaveAlone (l : Launch) (G : gT) (h a1 h_spare h_told a1_firms a1_kindsTold a1_places a1_crowds a1_pipsLeft a1_notHome h_spare_firms h_spare_kindsTold h_spare_places h_spare_crowds h_spare_pipsLeft h_spare_notHome : Nat) (S0 : Int32) (S1_points : Int32) (S1_home : Int32) (S1_men : Int32) (S1_turn : Int32) (S1_thrower : Int32) (S1_cube : Int32) (S1_owner : Int32) (S1_firms : Nat → Int32) (S1_kindsTold : Nat → Int32) (S1_places : Nat → Int32) (S1_crowds : Nat → Int32) (S1_pipsLeft : Nat → Int32) (S1_notHome : Nat → Int32) (S2_points : Int32) (S2_home : Int32) (S2_men : Int32) (S2_turn : Int32) (S2_thrower : Int32) (S2_cube : Int32) (S2_owner : Int32) (S2_firms : Nat → Int32) (S2_kindsTold : Nat → Int32) (S2_places : Nat → Int32) (S2_crowds : Nat → Int32) (S2_pipsLeft : Nat → Int32) (S2_notHome : Nat → Int32) (i2 : Int32) : CT l G yX3_leaveAlone cX3_leaveAlone 4 none q_X3_leaveAlone [.ref h, .ref a1, .int i2] (wFS G h h_spare h_told S0 ++ wBD G a1 a1_firms a1_kindsTold a1_places a1_crowds a1_pipsLeft a1_notHome S1_points S1_home S1_men S1_turn S1_thrower S1_cube S1_owner S1_firms S1_kindsTold S1_places S1_crowds S1_pipsLeft S1_notHome ++ wBD G h_spare h_spare_firms h_spare_kindsTold h_spare_places h_spare_crowds h_spare_pipsLeft h_spare_notHome S2_points S2_home S2_men S2_turn S2_thrower S2_cube S2_owner S2_firms S2_kindsTold S2_places S2_crowds S2_pipsLeft S2_notHome) (M_X3_leaveAlone S0 (S1_points, S1_home, S1_men, S1_turn, S1_thrower, S1_cube, S1_owner, S1_firms, S1_kindsTold, S1_places, S1_crowds, S1_pipsLeft, S1_notHome) (S2_points, S2_home, S2_men, S2_turn, S2_thrower, S2_cube, S2_owner, S2_firms, S2_kindsTold, S2_places, S2_crowds, S2_pipsLeft, S2_notHome) i2) (fun u => none) (fun u => wFS G h h_spare h_told S0 ++ wBD G a1 a1_firms a1_kindsTold a1_places a1_crowds a1_pipsLeft a1_notHome S1_points S1_home S1_men S1_turn S1_thrower S1_cube S1_owner S1_firms S1_kindsTold S1_places S1_crowds S1_pipsLeft S1_notHome ++ wBD G h_spare h_spare_firms h_spare_kindsTold h_spare_places h_spare_crowds h_spare_pipsLeft h_spare_notHome u.1 u.2.1 u.2.2.1 u.2.2.2.1 u.2.2.2.2.1 u.2.2.2.2.2.1 u.2.2.2.2.2.2.1 u.2.2.2.2.2.2.2.1 u.2.2.2.2.2.2.2.2.1 u.2.2.2.2.2.2.2.2.2.1 u.2.2.2.2.2.2.2.2.2.2.1 u.2.2.2.2.2.2.2.2.2.2.2.1 u.2.2.2.2.2.2.2.2.2.2.2.2) := by
  refine CT.of (P := PX3_leaveAlone) (by decide) dPX3_leaveAlone (Nat.le_of_ble_eq_true rfl) ?_
  intro p e s m args below meth c A Q ls hne X RT Y hl
  have hl : lv_has ls 4 [(0, .ref h), (1, .ref a1), (2, .int i2)] := hl
  generalize hM : M_X3_leaveAlone S0 (S1_points, S1_home, S1_men, S1_turn, S1_thrower, S1_cube, S1_owner, S1_firms, S1_kindsTold, S1_places, S1_crowds, S1_pipsLeft, S1_notHome) (S2_points, S2_home, S2_men, S2_turn, S2_thrower, S2_cube, S2_owner, S2_firms, S2_kindsTold, S2_places, S2_crowds, S2_pipsLeft, S2_notHome) i2 = MM at hne RT
  unfold M_X3_leaveAlone at hM
  refine r_aload_n (pc' := 1) X hl 0 rfl rfl 0 rfl rfl ?_
  refine r_get (pc' := 4) (v := .ref h_spare) X Y 1 rfl rfl fRX3_12 0 rfl rfl ?_
  refine r_aload_n (pc' := 5) X hl 1 rfl rfl 2 rfl rfl ?_
  refine r_callV (pc' := 8) (As := [.ref a1]) (rest := []) (wr := (wFS G h h_spare h_told S0 : va_W)) X Y 3 rfl rfl mRX3_27 (c_X2_copyFrom l G h_spare a1 a1_firms a1_kindsTold a1_places a1_crowds a1_pipsLeft a1_notHome h_spare_firms h_spare_kindsTold h_spare_places h_spare_crowds h_spare_pipsLeft h_spare_notHome S1_points S1_home S1_men S1_turn S1_thrower S1_cube S1_owner S1_firms S1_kindsTold S1_places S1_crowds S1_pipsLeft S1_notHome S2_points S2_home S2_men S2_turn S2_thrower S2_cube S2_owner S2_firms S2_kindsTold S2_places S2_crowds S2_pipsLeft S2_notHome) (mB hM hne) 8 rfl rfl [1, 2, 3, 4, 5, 6, 7, 8, 9, 10, 11, 12, 13, 14] [0] [0, 1, 2, 3, 4, 5, 6, 7, 8, 9, 10, 11, 12, 13, 14] rfl rfl ⟨rfl, rfl, rfl⟩ rfl (w2 := fun u1 => wFS G h h_spare h_told S0 ++ wBD G a1 a1_firms a1_kindsTold a1_places a1_crowds a1_pipsLeft a1_notHome S1_points S1_home S1_men S1_turn S1_thrower S1_cube S1_owner S1_firms S1_kindsTold S1_places S1_crowds S1_pipsLeft S1_notHome ++ wBD G h_spare h_spare_firms h_spare_kindsTold h_spare_places h_spare_crowds h_spare_pipsLeft h_spare_notHome u1.1 u1.2.1 u1.2.2.1 u1.2.2.2.1 u1.2.2.2.2.1 u1.2.2.2.2.2.1 u1.2.2.2.2.2.2.1 u1.2.2.2.2.2.2.2.1 u1.2.2.2.2.2.2.2.2.1 u1.2.2.2.2.2.2.2.2.2.1 u1.2.2.2.2.2.2.2.2.2.2.1 u1.2.2.2.2.2.2.2.2.2.2.2.1 u1.2.2.2.2.2.2.2.2.2.2.2.2) (fun _ => rfl) rfl (Nat.le_of_ble_eq_true rfl) ⟨rfl, rfl⟩ ⟨Nat.le_of_ble_eq_true rfl, Nat.le_of_ble_eq_true rfl⟩ ⟨Nat.zero_le _, Nat.zero_le _⟩ hl.1 (st' := fun u1 => []) (fun _ => rfl) (fun u1 H locs huu1 Y => ?_)
  obtain ⟨u1_points, u1_home, u1_men, u1_turn, u1_thrower, u1_cube, u1_owner, u1_firms, u1_kindsTold, u1_places, u1_crowds, u1_pipsLeft, u1_notHome⟩ := u1
  replace Y : rY G A s (wFS G h h_spare h_told S0 ++ wBD G a1 a1_firms a1_kindsTold a1_places a1_crowds a1_pipsLeft a1_notHome S1_points S1_home S1_men S1_turn S1_thrower S1_cube S1_owner S1_firms S1_kindsTold S1_places S1_crowds S1_pipsLeft S1_notHome ++ wBD G h_spare h_spare_firms h_spare_kindsTold h_spare_places h_spare_crowds h_spare_pipsLeft h_spare_notHome u1_points u1_home u1_men u1_turn u1_thrower u1_cube u1_owner u1_firms u1_kindsTold u1_places u1_crowds u1_pipsLeft u1_notHome) H locs := Y
  replace hM := mS hM huu1
  show W p l e q_X3_leaveAlone s m args below meth c H locs 0 0 Q (F0 m 8 ls [])
  refine r_iconst (pc' := 9) X (0 : Int32) 4 rfl rfl rfl ?_
  refine r_istore_n (pc' := 10) (L' := [(3, .int (0 : Int32)), (0, .ref h), (1, .ref a1), (2, .int i2)]) X hl rfl 5 rfl rfl (by decide) rfl (fun ls hl => ?_)
  refine lp_rule (I := fun (st2 : Int32 × BD) => ∀ (H : Heap) (locs : List Loc) (ls : Array Slot), rY G A s (wFS G h h_spare h_told S0 ++ wBD G a1 a1_firms a1_kindsTold a1_places a1_crowds a1_pipsLeft a1_notHome S1_points S1_home S1_men S1_turn S1_thrower S1_cube S1_owner S1_firms S1_kindsTold S1_places S1_crowds S1_pipsLeft S1_notHome ++ wBD G h_spare h_spare_firms h_spare_kindsTold h_spare_places h_spare_crowds h_spare_pipsLeft h_spare_notHome st2.2.1 st2.2.2.1 st2.2.2.2.1 st2.2.2.2.2.1 st2.2.2.2.2.2.1 st2.2.2.2.2.2.2.1 st2.2.2.2.2.2.2.2.1 st2.2.2.2.2.2.2.2.2.1 st2.2.2.2.2.2.2.2.2.2.1 st2.2.2.2.2.2.2.2.2.2.2.1 st2.2.2.2.2.2.2.2.2.2.2.2.1 st2.2.2.2.2.2.2.2.2.2.2.2.2.1 st2.2.2.2.2.2.2.2.2.2.2.2.2.2) H locs → lv_has ls 4 [(0, .ref h), (2, .int i2), (3, .int st2.1)] → W p l e q_X3_leaveAlone s m args below meth c H locs 0 0 Q (F0 m 10 ls [])) hne (fun rec2 st2 IH2 hM => ?_) _ _ hM _ _ _ Y (lv_sub hl [1, 3, 0] rfl)
  intro H locs ls Y hl
  obtain ⟨st2_1, ⟨st2_2_points, st2_2_home, st2_2_men, st2_2_turn, st2_2_thrower, st2_2_cube, st2_2_owner, st2_2_firms, st2_2_kindsTold, st2_2_places, st2_2_crowds, st2_2_pipsLeft, st2_2_notHome⟩⟩ := st2
  replace Y : rY G A s (wFS G h h_spare h_told S0 ++ wBD G a1 a1_firms a1_kindsTold a1_places a1_crowds a1_pipsLeft a1_notHome S1_points S1_home S1_men S1_turn S1_thrower S1_cube S1_owner S1_firms S1_kindsTold S1_places S1_crowds S1_pipsLeft S1_notHome ++ wBD G h_spare h_spare_firms h_spare_kindsTold h_spare_places h_spare_crowds h_spare_pipsLeft h_spare_notHome st2_2_points st2_2_home st2_2_men st2_2_turn st2_2_thrower st2_2_cube st2_2_owner st2_2_firms st2_2_kindsTold st2_2_places st2_2_crowds st2_2_pipsLeft st2_2_notHome) H locs := Y
  replace hl : lv_has ls 4 [(0, .ref h), (2, .int i2), (3, .int st2_1)] := hl
  refine r_iload_n (pc' := 11) X hl 2 rfl rfl 6 rfl rfl ?_
  refine r_aload_n (pc' := 12) X hl 0 rfl rfl 7 rfl rfl ?_
  refine r_get (pc' := 15) (v := .ref h_spare) X Y 8 rfl rfl fRX3_12 0 rfl rfl ?_
  refine r_getN (pc' := 18) (v := .int st2_2_men) X Y 9 rfl rfl fRX3_31 8 rfl rfl ?_
  refine r_icmp_ge (pc' := 21) X 55 10 rfl rfl (by decide) (fun c3 => ?_) (fun c3 => ?_)
  · replace hM := mI hM c3
    exact RT (st2_2_points, st2_2_home, st2_2_men, st2_2_turn, st2_2_thrower, st2_2_cube, st2_2_owner, st2_2_firms, st2_2_kindsTold, st2_2_places, st2_2_crowds, st2_2_pipsLeft, st2_2_notHome) _ _ _ _ _ hM (Or.inr (Or.inr (Or.inr (Or.inl ⟨rfl, rfl, rfl⟩)))) (X.d (k := 27) rfl) Y
  · replace hM := mE hM c3
    refine r_aload_n (pc' := 22) X hl 0 rfl rfl 11 rfl rfl ?_
    refine r_get (pc' := 25) (v := .ref h_spare) X Y 12 rfl rfl fRX3_12 0 rfl rfl ?_
    refine r_getN (pc' := 28) (v := .ref h_spare_firms) X Y 13 rfl rfl fRX3_34 8 rfl rfl ?_
    refine r_iload_n (pc' := 29) X hl 2 rfl rfl 14 rfl rfl ?_
    obtain ⟨g4, hM⟩ := mG hM hne
    refine r_iald (pc' := 30) X Y 15 rfl rfl 9 rfl (vin g4) ?_
    refine r_iload_n (pc' := 31) X hl 1 rfl rfl 16 rfl rfl ?_
    refine r_icmp_eq (pc' := 34) X 49 17 rfl rfl (by decide) (fun c5 => ?_) (fun c5 => ?_)
    · replace hM := mI hM c5
      refine r_iinc (pc' := 52) (L' := [(3, .int (st2_1 + (1 : Int32))), (0, .ref h), (2, .int i2)]) X (st2_1 + (1 : Int32)) hl 2 rfl rfl 25 rfl rfl (by decide) rfl (fun ls hl => ?_)
      refine r_goto X 10 26 rfl (by decide) ?_
      exact IH2 _ hM _ _ _ Y (lv_sub hl [1, 2, 0] rfl)
    · replace hM := mE hM c5
      refine r_aload_n (pc' := 35) X hl 0 rfl rfl 18 rfl rfl ?_
      refine r_get (pc' := 38) (v := .ref h_spare) X Y 19 rfl rfl fRX3_12 0 rfl rfl ?_
      refine r_iload_n (pc' := 39) X hl 2 rfl rfl 20 rfl rfl ?_
      refine r_aload_n (pc' := 40) X hl 0 rfl rfl 21 rfl rfl ?_
      refine r_get (pc' := 43) (v := .ref h_spare) X Y 22 rfl rfl fRX3_12 0 rfl rfl ?_
      refine r_callV0 (pc' := 46) (As := []) (rest := [.int st2_1, .ref h_spare]) X Y 23 rfl rfl mRX3_87 (c_X2_off l G h_spare h_spare_firms h_spare_kindsTold h_spare_places h_spare_crowds h_spare_pipsLeft h_spare_notHome st2_2_points st2_2_home st2_2_men st2_2_turn st2_2_thrower st2_2_cube st2_2_owner st2_2_firms st2_2_kindsTold st2_2_places st2_2_crowds st2_2_pipsLeft st2_2_notHome) (mB hM hne) 8 rfl rfl [8, 9, 10, 11, 12, 13, 14] rfl rfl rfl (Nat.le_of_ble_eq_true rfl) ⟨rfl, rfl⟩ ⟨Nat.le_of_ble_eq_true rfl, Nat.le_of_ble_eq_true rfl⟩ ⟨Nat.zero_le _, Nat.zero_le _⟩ hl.1 (st' := fun u6 => [.int u6, .int st2_1, .ref h_spare]) (fun _ => rfl) (fun u6 H locs huu6 Y => ?_)
      replace hM := mS hM huu6
      refine r_callV (pc' := 49) (As := [.int st2_1, .int u6]) (rest := []) (wr := (wFS G h h_spare h_told S0 ++ wBD G a1 a1_firms a1_kindsTold a1_places a1_crowds a1_pipsLeft a1_notHome S1_points S1_home S1_men S1_turn S1_thrower S1_cube S1_owner S1_firms S1_kindsTold S1_places S1_crowds S1_pipsLeft S1_notHome : va_W)) X Y 24 rfl rfl mRX3_55 (c_X2_put l G h_spare h_spare_firms h_spare_kindsTold h_spare_places h_spare_crowds h_spare_pipsLeft h_spare_notHome st2_2_points st2_2_home st2_2_men st2_2_turn st2_2_thrower st2_2_cube st2_2_owner st2_2_firms st2_2_kindsTold st2_2_places st2_2_crowds st2_2_pipsLeft st2_2_notHome st2_1 u6) (mB hM hne) 8 rfl rfl [8, 9, 10, 11, 12, 13, 14] [0, 1, 2, 3, 4, 5, 6, 7] [0, 1, 2, 3, 4, 5, 6, 7, 8, 9, 10, 11, 12, 13, 14] rfl rfl ⟨rfl, rfl, rfl⟩ rfl (w2 := fun u7 => wFS G h h_spare h_told S0 ++ wBD G a1 a1_firms a1_kindsTold a1_places a1_crowds a1_pipsLeft a1_notHome S1_points S1_home S1_men S1_turn S1_thrower S1_cube S1_owner S1_firms S1_kindsTold S1_places S1_crowds S1_pipsLeft S1_notHome ++ wBD G h_spare h_spare_firms h_spare_kindsTold h_spare_places h_spare_crowds h_spare_pipsLeft h_spare_notHome u7.1 u7.2.1 u7.2.2.1 u7.2.2.2.1 u7.2.2.2.2.1 u7.2.2.2.2.2.1 u7.2.2.2.2.2.2.1 u7.2.2.2.2.2.2.2.1 u7.2.2.2.2.2.2.2.2.1 u7.2.2.2.2.2.2.2.2.2.1 u7.2.2.2.2.2.2.2.2.2.2.1 u7.2.2.2.2.2.2.2.2.2.2.2.1 u7.2.2.2.2.2.2.2.2.2.2.2.2) (fun _ => rfl) rfl (Nat.le_of_ble_eq_true rfl) ⟨rfl, rfl⟩ ⟨Nat.le_of_ble_eq_true rfl, Nat.le_of_ble_eq_true rfl⟩ ⟨Nat.zero_le _, Nat.zero_le _⟩ hl.1 (st' := fun u7 => []) (fun _ => rfl) (fun u7 H locs huu7 Y => ?_)
      obtain ⟨u7_points, u7_home, u7_men, u7_turn, u7_thrower, u7_cube, u7_owner, u7_firms, u7_kindsTold, u7_places, u7_crowds, u7_pipsLeft, u7_notHome⟩ := u7
      replace Y : rY G A s (wFS G h h_spare h_told S0 ++ wBD G a1 a1_firms a1_kindsTold a1_places a1_crowds a1_pipsLeft a1_notHome S1_points S1_home S1_men S1_turn S1_thrower S1_cube S1_owner S1_firms S1_kindsTold S1_places S1_crowds S1_pipsLeft S1_notHome ++ wBD G h_spare h_spare_firms h_spare_kindsTold h_spare_places h_spare_crowds h_spare_pipsLeft h_spare_notHome u7_points u7_home u7_men u7_turn u7_thrower u7_cube u7_owner u7_firms u7_kindsTold u7_places u7_crowds u7_pipsLeft u7_notHome) H locs := Y
      replace hM := mS hM huu7
      show W p l e q_X3_leaveAlone s m args below meth c H locs 0 0 Q (F0 m 49 ls [])
      refine r_iinc (pc' := 52) (L' := [(3, .int (st2_1 + (1 : Int32))), (0, .ref h), (2, .int i2)]) X (st2_1 + (1 : Int32)) hl 2 rfl rfl 25 rfl rfl (by decide) rfl (fun ls hl => ?_)
      refine r_goto X 10 26 rfl (by decide) ?_
      exact IH2 _ hM _ _ _ Y (lv_sub hl [1, 2, 0] rfl)

def M_X3_turnsAlone (S0 : FS) (S1 : BD) (S2 : BD) (i2 : Int32) : Option (Int32 × BD) :=
  ((M_X3_leaveAlone S0 S1 S2 i2).bind (fun u1 => (lp (σ := Int32 × BD) (β := Int32 × BD) (fun rec2 st2 => (if (60 : Int32) < st2.1 then (some ((-1000000 : Int32), st2.2)) else ((M_X2_hasWon st2.2 i2).bind (fun u4 => (if u4 = 0 then ((M_X2_chosenByRule st2.2 i2 (6 : Int32)).bind (fun u6 => (if u6 = (-1000000 : Int32) then (rec2 ((st2.1 + (1 : Int32)), st2.2)) else ((M_X2_go st2.2 u6 (6 : Int32)).bind (fun u8 => (rec2 ((st2.1 + (1 : Int32)), u8.2))))))) else (some (st2.1, st2.2))))))) 1000000 ((0 : Int32), u1))))
def q_X3_turnsAlone : Room := { frames := 5, cells := 0, slots := 0, locals := 158 }
set_option maxHeartbeats 4000000 in
set_option maxRecDepth 100000 in
theorem c_X3_turnsAlone (l : Launch) (G : gT) (h a1 h_spare h_told a1_firms a1_kindsTold a1_places a1_crowds a1_pipsLeft a1_notHome h_spare_firms h_spare_kindsTold h_spare_places h_spare_crowds h_spare_pipsLeft h_spare_notHome : Nat) (S0 : Int32) (S1_points : Int32) (S1_home : Int32) (S1_men : Int32) (S1_turn : Int32) (S1_thrower : Int32) (S1_cube : Int32) (S1_owner : Int32) (S1_firms : Nat → Int32) (S1_kindsTold : Nat → Int32) (S1_places : Nat → Int32) (S1_crowds : Nat → Int32) (S1_pipsLeft : Nat → Int32) (S1_notHome : Nat → Int32) (S2_points : Int32) (S2_home : Int32) (S2_men : Int32) (S2_turn : Int32) (S2_thrower : Int32) (S2_cube : Int32) (S2_owner : Int32) (S2_firms : Nat → Int32) (S2_kindsTold : Nat → Int32) (S2_places : Nat → Int32) (S2_crowds : Nat → Int32) (S2_pipsLeft : Nat → Int32) (S2_notHome : Nat → Int32) (i2 : Int32) : CT l G yX3_turnsAlone cX3_turnsAlone 5 (some .int) q_X3_turnsAlone [.ref h, .ref a1, .int i2] (wFS G h h_spare h_told S0 ++ wBD G a1 a1_firms a1_kindsTold a1_places a1_crowds a1_pipsLeft a1_notHome S1_points S1_home S1_men S1_turn S1_thrower S1_cube S1_owner S1_firms S1_kindsTold S1_places S1_crowds S1_pipsLeft S1_notHome ++ wBD G h_spare h_spare_firms h_spare_kindsTold h_spare_places h_spare_crowds h_spare_pipsLeft h_spare_notHome S2_points S2_home S2_men S2_turn S2_thrower S2_cube S2_owner S2_firms S2_kindsTold S2_places S2_crowds S2_pipsLeft S2_notHome) (M_X3_turnsAlone S0 (S1_points, S1_home, S1_men, S1_turn, S1_thrower, S1_cube, S1_owner, S1_firms, S1_kindsTold, S1_places, S1_crowds, S1_pipsLeft, S1_notHome) (S2_points, S2_home, S2_men, S2_turn, S2_thrower, S2_cube, S2_owner, S2_firms, S2_kindsTold, S2_places, S2_crowds, S2_pipsLeft, S2_notHome) i2) (fun u => some (.int u.1)) (fun u => wFS G h h_spare h_told S0 ++ wBD G a1 a1_firms a1_kindsTold a1_places a1_crowds a1_pipsLeft a1_notHome S1_points S1_home S1_men S1_turn S1_thrower S1_cube S1_owner S1_firms S1_kindsTold S1_places S1_crowds S1_pipsLeft S1_notHome ++ wBD G h_spare h_spare_firms h_spare_kindsTold h_spare_places h_spare_crowds h_spare_pipsLeft h_spare_notHome u.2.1 u.2.2.1 u.2.2.2.1 u.2.2.2.2.1 u.2.2.2.2.2.1 u.2.2.2.2.2.2.1 u.2.2.2.2.2.2.2.1 u.2.2.2.2.2.2.2.2.1 u.2.2.2.2.2.2.2.2.2.1 u.2.2.2.2.2.2.2.2.2.2.1 u.2.2.2.2.2.2.2.2.2.2.2.1 u.2.2.2.2.2.2.2.2.2.2.2.2.1 u.2.2.2.2.2.2.2.2.2.2.2.2.2) := by
  refine CT.of (P := PX3_turnsAlone) (by decide) dPX3_turnsAlone (Nat.le_of_ble_eq_true rfl) ?_
  intro p e s m args below meth c A Q ls hne X RT Y hl
  have hl : lv_has ls 5 [(0, .ref h), (1, .ref a1), (2, .int i2)] := hl
  generalize hM : M_X3_turnsAlone S0 (S1_points, S1_home, S1_men, S1_turn, S1_thrower, S1_cube, S1_owner, S1_firms, S1_kindsTold, S1_places, S1_crowds, S1_pipsLeft, S1_notHome) (S2_points, S2_home, S2_men, S2_turn, S2_thrower, S2_cube, S2_owner, S2_firms, S2_kindsTold, S2_places, S2_crowds, S2_pipsLeft, S2_notHome) i2 = MM at hne RT
  unfold M_X3_turnsAlone at hM
  refine r_aload_n (pc' := 1) X hl 0 rfl rfl 0 rfl rfl ?_
  refine r_aload_n (pc' := 2) X hl 1 rfl rfl 1 rfl rfl ?_
  refine r_iload_n (pc' := 3) X hl 2 rfl rfl 2 rfl rfl ?_
  refine r_callV (pc' := 6) (As := [.ref a1, .int i2]) (rest := []) (wr := ([] : va_W)) X Y 3 rfl rfl mRX3_66 (c_X3_leaveAlone l G h a1 h_spare h_told a1_firms a1_kindsTold a1_places a1_crowds a1_pipsLeft a1_notHome h_spare_firms h_spare_kindsTold h_spare_places h_spare_crowds h_spare_pipsLeft h_spare_notHome S0 S1_points S1_home S1_men S1_turn S1_thrower S1_cube S1_owner S1_firms S1_kindsTold S1_places S1_crowds S1_pipsLeft S1_notHome S2_points S2_home S2_men S2_turn S2_thrower S2_cube S2_owner S2_firms S2_kindsTold S2_places S2_crowds S2_pipsLeft S2_notHome i2) (mB hM hne) 0 rfl rfl [0, 1, 2, 3, 4, 5, 6, 7, 8, 9, 10, 11, 12, 13, 14] [] [0, 1, 2, 3, 4, 5, 6, 7, 8, 9, 10, 11, 12, 13, 14] rfl rfl ⟨rfl, rfl, rfl⟩ rfl (w2 := fun u1 => wFS G h h_spare h_told S0 ++ wBD G a1 a1_firms a1_kindsTold a1_places a1_crowds a1_pipsLeft a1_notHome S1_points S1_home S1_men S1_turn S1_thrower S1_cube S1_owner S1_firms S1_kindsTold S1_places S1_crowds S1_pipsLeft S1_notHome ++ wBD G h_spare h_spare_firms h_spare_kindsTold h_spare_places h_spare_crowds h_spare_pipsLeft h_spare_notHome u1.1 u1.2.1 u1.2.2.1 u1.2.2.2.1 u1.2.2.2.2.1 u1.2.2.2.2.2.1 u1.2.2.2.2.2.2.1 u1.2.2.2.2.2.2.2.1 u1.2.2.2.2.2.2.2.2.1 u1.2.2.2.2.2.2.2.2.2.1 u1.2.2.2.2.2.2.2.2.2.2.1 u1.2.2.2.2.2.2.2.2.2.2.2.1 u1.2.2.2.2.2.2.2.2.2.2.2.2) (fun _ => rfl) rfl (Nat.le_of_ble_eq_true rfl) ⟨rfl, rfl⟩ ⟨Nat.le_of_ble_eq_true rfl, Nat.le_of_ble_eq_true rfl⟩ ⟨Nat.zero_le _, Nat.zero_le _⟩ hl.1 (st' := fun u1 => []) (fun _ => rfl) (fun u1 H locs huu1 Y => ?_)
  obtain ⟨u1_points, u1_home, u1_men, u1_turn, u1_thrower, u1_cube, u1_owner, u1_firms, u1_kindsTold, u1_places, u1_crowds, u1_pipsLeft, u1_notHome⟩ := u1
  replace Y : rY G A s (wFS G h h_spare h_told S0 ++ wBD G a1 a1_firms a1_kindsTold a1_places a1_crowds a1_pipsLeft a1_notHome S1_points S1_home S1_men S1_turn S1_thrower S1_cube S1_owner S1_firms S1_kindsTold S1_places S1_crowds S1_pipsLeft S1_notHome ++ wBD G h_spare h_spare_firms h_spare_kindsTold h_spare_places h_spare_crowds h_spare_pipsLeft h_spare_notHome u1_points u1_home u1_men u1_turn u1_thrower u1_cube u1_owner u1_firms u1_kindsTold u1_places u1_crowds u1_pipsLeft u1_notHome) H locs := Y
  replace hM := mS hM huu1
  show W p l e q_X3_turnsAlone s m args below meth c H locs 0 0 Q (F0 m 6 ls [])
  refine r_iconst (pc' := 7) X (0 : Int32) 4 rfl rfl rfl ?_
  refine r_istore_n (pc' := 8) (L' := [(3, .int (0 : Int32)), (0, .ref h), (1, .ref a1), (2, .int i2)]) X hl rfl 5 rfl rfl (by decide) rfl (fun ls hl => ?_)
  refine lp_rule (I := fun (st2 : Int32 × BD) => ∀ (H : Heap) (locs : List Loc) (ls : Array Slot), rY G A s (wFS G h h_spare h_told S0 ++ wBD G a1 a1_firms a1_kindsTold a1_places a1_crowds a1_pipsLeft a1_notHome S1_points S1_home S1_men S1_turn S1_thrower S1_cube S1_owner S1_firms S1_kindsTold S1_places S1_crowds S1_pipsLeft S1_notHome ++ wBD G h_spare h_spare_firms h_spare_kindsTold h_spare_places h_spare_crowds h_spare_pipsLeft h_spare_notHome st2.2.1 st2.2.2.1 st2.2.2.2.1 st2.2.2.2.2.1 st2.2.2.2.2.2.1 st2.2.2.2.2.2.2.1 st2.2.2.2.2.2.2.2.1 st2.2.2.2.2.2.2.2.2.1 st2.2.2.2.2.2.2.2.2.2.1 st2.2.2.2.2.2.2.2.2.2.2.1 st2.2.2.2.2.2.2.2.2.2.2.2.1 st2.2.2.2.2.2.2.2.2.2.2.2.2.1 st2.2.2.2.2.2.2.2.2.2.2.2.2.2) H locs → lv_has ls 5 [(0, .ref h), (2, .int i2), (3, .int st2.1)] → W p l e q_X3_turnsAlone s m args below meth c H locs 0 0 Q (F0 m 8 ls [])) hne (fun rec2 st2 IH2 hM => ?_) _ _ hM _ _ _ Y (lv_sub hl [1, 3, 0] rfl)
  intro H locs ls Y hl
  obtain ⟨st2_1, ⟨st2_2_points, st2_2_home, st2_2_men, st2_2_turn, st2_2_thrower, st2_2_cube, st2_2_owner, st2_2_firms, st2_2_kindsTold, st2_2_places, st2_2_crowds, st2_2_pipsLeft, st2_2_notHome⟩⟩ := st2
  replace Y : rY G A s (wFS G h h_spare h_told S0 ++ wBD G a1 a1_firms a1_kindsTold a1_places a1_crowds a1_pipsLeft a1_notHome S1_points S1_home S1_men S1_turn S1_thrower S1_cube S1_owner S1_firms S1_kindsTold S1_places S1_crowds S1_pipsLeft S1_notHome ++ wBD G h_spare h_spare_firms h_spare_kindsTold h_spare_places h_spare_crowds h_spare_pipsLeft h_spare_notHome st2_2_points st2_2_home st2_2_men st2_2_turn st2_2_thrower st2_2_cube st2_2_owner st2_2_firms st2_2_kindsTold st2_2_places st2_2_crowds st2_2_pipsLeft st2_2_notHome) H locs := Y
  replace hl : lv_has ls 5 [(0, .ref h), (2, .int i2), (3, .int st2_1)] := hl
  refine r_iload_n (pc' := 9) X hl 2 rfl rfl 6 rfl rfl ?_
  refine r_bipush (pc' := 11) X (60 : Int32) 7 rfl rfl rfl ?_
  refine r_icmp_gt (pc' := 14) X 64 8 rfl rfl (by decide) (fun c3 => ?_) (fun c3 => ?_)
  · replace hM := mI hM c3
    refine r_ldc (pc' := 66) X mw154 33 rfl rfl ?_
    exact RT ((-1000000 : Int32), (st2_2_points, st2_2_home, st2_2_men, st2_2_turn, st2_2_thrower, st2_2_cube, st2_2_owner, st2_2_firms, st2_2_kindsTold, st2_2_places, st2_2_crowds, st2_2_pipsLeft, st2_2_notHome)) _ _ _ _ _ hM (Or.inl ⟨rfl, rfl, _, rfl⟩) (X.d (k := 34) rfl) Y
  · replace hM := mE hM c3
    refine r_aload_n (pc' := 15) X hl 0 rfl rfl 9 rfl rfl ?_
    refine r_get (pc' := 18) (v := .ref h_spare) X Y 10 rfl rfl fRX3_12 0 rfl rfl ?_
    refine r_iload_n (pc' := 19) X hl 1 rfl rfl 11 rfl rfl ?_
    refine r_callV0 (pc' := 22) (As := [.int i2]) (rest := []) X Y 12 rfl rfl mRX3_70 (c_X2_hasWon l G h_spare h_spare_firms h_spare_kindsTold h_spare_places h_spare_crowds h_spare_pipsLeft h_spare_notHome st2_2_points st2_2_home st2_2_men st2_2_turn st2_2_thrower st2_2_cube st2_2_owner st2_2_firms st2_2_kindsTold st2_2_places st2_2_crowds st2_2_pipsLeft st2_2_notHome i2) (mB hM hne) 8 rfl rfl [8, 9, 10, 11, 12, 13, 14] rfl rfl rfl (Nat.le_of_ble_eq_true rfl) ⟨rfl, rfl⟩ ⟨Nat.le_of_ble_eq_true rfl, Nat.le_of_ble_eq_true rfl⟩ ⟨Nat.zero_le _, Nat.zero_le _⟩ hl.1 (st' := fun u4 => [.int u4]) (fun _ => rfl) (fun u4 H locs huu4 Y => ?_)
    replace hM := mS hM huu4
    refine r_if_eq (pc' := 25) X 27 13 rfl rfl (by decide) (fun c5 => ?_) (fun c5 => ?_)
    · replace hM := mI hM c5
      refine r_aload_n (pc' := 28) X hl 0 rfl rfl 16 rfl rfl ?_
      refine r_get (pc' := 31) (v := .ref h_spare) X Y 17 rfl rfl fRX3_12 0 rfl rfl ?_
      refine r_iload_n (pc' := 32) X hl 1 rfl rfl 18 rfl rfl ?_
      refine r_bipush (pc' := 34) X (6 : Int32) 19 rfl rfl rfl ?_
      refine r_callV0 (pc' := 37) (As := [.int i2, .int (6 : Int32)]) (rest := []) X Y 20 rfl rfl mRX3_74 (c_X2_chosenByRule l G h_spare h_spare_firms h_spare_kindsTold h_spare_places h_spare_crowds h_spare_pipsLeft h_spare_notHome st2_2_points st2_2_home st2_2_men st2_2_turn st2_2_thrower st2_2_cube st2_2_owner st2_2_firms st2_2_kindsTold st2_2_places st2_2_crowds st2_2_pipsLeft st2_2_notHome i2 (6 : Int32)) (mB hM hne) 8 rfl rfl [8, 9, 10, 11, 12, 13, 14] rfl rfl rfl (Nat.le_of_ble_eq_true rfl) ⟨rfl, rfl⟩ ⟨Nat.le_of_ble_eq_true rfl, Nat.le_of_ble_eq_true rfl⟩ ⟨Nat.zero_le _, Nat.zero_le _⟩ hl.1 (st' := fun u6 => [.int u6]) (fun _ => rfl) (fun u6 H locs huu6 Y => ?_)
      replace hM := mS hM huu6
      refine r_istore (pc' := 39) (L' := [(4, .int u6), (0, .ref h), (2, .int i2), (3, .int st2_1)]) X hl 21 rfl rfl (by decide) rfl (fun ls hl => ?_)
      refine r_iload (pc' := 41) X hl 0 rfl 22 rfl rfl ?_
      refine r_ldc (pc' := 43) X mw154 23 rfl rfl ?_
      refine r_icmp_eq (pc' := 46) X 58 24 rfl rfl (by decide) (fun c7 => ?_) (fun c7 => ?_)
      · replace hM := mI hM c7
        refine r_iinc (pc' := 61) (L' := [(3, .int (st2_1 + (1 : Int32))), (4, .int u6), (0, .ref h), (2, .int i2)]) X (st2_1 + (1 : Int32)) hl 3 rfl rfl 31 rfl rfl (by decide) rfl (fun ls hl => ?_)
        refine r_goto X 8 32 rfl (by decide) ?_
        exact IH2 _ hM _ _ _ Y (lv_sub hl [2, 3, 0] rfl)
      · replace hM := mE hM c7
        refine r_aload_n (pc' := 47) X hl 1 rfl rfl 25 rfl rfl ?_
        refine r_get (pc' := 50) (v := .ref h_spare) X Y 26 rfl rfl fRX3_12 0 rfl rfl ?_
        refine r_iload (pc' := 52) X hl 0 rfl 27 rfl rfl ?_
        refine r_bipush (pc' := 54) X (6 : Int32) 28 rfl rfl rfl ?_
        refine r_callV (pc' := 57) (As := [.int u6, .int (6 : Int32)]) (rest := []) (wr := (wFS G h h_spare h_told S0 ++ wBD G a1 a1_firms a1_kindsTold a1_places a1_crowds a1_pipsLeft a1_notHome S1_points S1_home S1_men S1_turn S1_thrower S1_cube S1_owner S1_firms S1_kindsTold S1_places S1_crowds S1_pipsLeft S1_notHome : va_W)) X Y 29 rfl rfl mRX3_52 (c_X2_go l G h_spare h_spare_firms h_spare_kindsTold h_spare_places h_spare_crowds h_spare_pipsLeft h_spare_notHome st2_2_points st2_2_home st2_2_men st2_2_turn st2_2_thrower st2_2_cube st2_2_owner st2_2_firms st2_2_kindsTold st2_2_places st2_2_crowds st2_2_pipsLeft st2_2_notHome u6 (6 : Int32)) (mB hM hne) 8 rfl rfl [8, 9, 10, 11, 12, 13, 14] [0, 1, 2, 3, 4, 5, 6, 7] [0, 1, 2, 3, 4, 5, 6, 7, 8, 9, 10, 11, 12, 13, 14] rfl rfl ⟨rfl, rfl, rfl⟩ rfl (w2 := fun u8 => wFS G h h_spare h_told S0 ++ wBD G a1 a1_firms a1_kindsTold a1_places a1_crowds a1_pipsLeft a1_notHome S1_points S1_home S1_men S1_turn S1_thrower S1_cube S1_owner S1_firms S1_kindsTold S1_places S1_crowds S1_pipsLeft S1_notHome ++ wBD G h_spare h_spare_firms h_spare_kindsTold h_spare_places h_spare_crowds h_spare_pipsLeft h_spare_notHome u8.2.1 u8.2.2.1 u8.2.2.2.1 u8.2.2.2.2.1 u8.2.2.2.2.2.1 u8.2.2.2.2.2.2.1 u8.2.2.2.2.2.2.2.1 u8.2.2.2.2.2.2.2.2.1 u8.2.2.2.2.2.2.2.2.2.1 u8.2.2.2.2.2.2.2.2.2.2.1 u8.2.2.2.2.2.2.2.2.2.2.2.1 u8.2.2.2.2.2.2.2.2.2.2.2.2.1 u8.2.2.2.2.2.2.2.2.2.2.2.2.2) (fun _ => rfl) rfl (Nat.le_of_ble_eq_true rfl) ⟨rfl, rfl⟩ ⟨Nat.le_of_ble_eq_true rfl, Nat.le_of_ble_eq_true rfl⟩ ⟨Nat.zero_le _, Nat.zero_le _⟩ hl.1 (st' := fun u8 => [.int u8.1]) (fun _ => rfl) (fun u8 H locs huu8 Y => ?_)
        obtain ⟨u8_1, ⟨u8_2_points, u8_2_home, u8_2_men, u8_2_turn, u8_2_thrower, u8_2_cube, u8_2_owner, u8_2_firms, u8_2_kindsTold, u8_2_places, u8_2_crowds, u8_2_pipsLeft, u8_2_notHome⟩⟩ := u8
        replace Y : rY G A s (wFS G h h_spare h_told S0 ++ wBD G a1 a1_firms a1_kindsTold a1_places a1_crowds a1_pipsLeft a1_notHome S1_points S1_home S1_men S1_turn S1_thrower S1_cube S1_owner S1_firms S1_kindsTold S1_places S1_crowds S1_pipsLeft S1_notHome ++ wBD G h_spare h_spare_firms h_spare_kindsTold h_spare_places h_spare_crowds h_spare_pipsLeft h_spare_notHome u8_2_points u8_2_home u8_2_men u8_2_turn u8_2_thrower u8_2_cube u8_2_owner u8_2_firms u8_2_kindsTold u8_2_places u8_2_crowds u8_2_pipsLeft u8_2_notHome) H locs := Y
        replace hM := mS hM huu8
        show W p l e q_X3_turnsAlone s m args below meth c H locs 0 0 Q (F0 m 57 ls [.int u8_1])
        refine r_pop (pc' := 58) X 30 rfl rfl rfl ?_
        refine r_iinc (pc' := 61) (L' := [(3, .int (st2_1 + (1 : Int32))), (4, .int u6), (0, .ref h), (2, .int i2)]) X (st2_1 + (1 : Int32)) hl 3 rfl rfl 31 rfl rfl (by decide) rfl (fun ls hl => ?_)
        refine r_goto X 8 32 rfl (by decide) ?_
        exact IH2 _ hM _ _ _ Y (lv_sub hl [2, 3, 0] rfl)
    · replace hM := mE hM c5
      refine r_iload_n (pc' := 26) X hl 2 rfl rfl 14 rfl rfl ?_
      exact RT (st2_1, (st2_2_points, st2_2_home, st2_2_men, st2_2_turn, st2_2_thrower, st2_2_cube, st2_2_owner, st2_2_firms, st2_2_kindsTold, st2_2_places, st2_2_crowds, st2_2_pipsLeft, st2_2_notHome)) _ _ _ _ _ hM (Or.inl ⟨rfl, rfl, _, rfl⟩) (X.d (k := 15) rfl) Y

def M_X3_winsWithin_0 (S0 : BD) (i1 : Int32) (i2 : Int32) : Option (Int64 × BD) :=
  ((M_X2_hasWon S0 i1).bind (fun u1 => (if u1 = 0 then (if 0 < i2 then ((lp (σ := Int64 × Int32 × BD) (β := Int64 × BD) (fun rec4 st4 => (if (6 : Int32) < st4.2.1 then (some (st4.1, st4.2.2)) else ((M_X2_chosenByRule st4.2.2 i1 st4.2.1).bind (fun u6 => (if u6 = (-1000000 : Int32) then none else (if inb u6 8 = true then ((M_X2_go st4.2.2 u6 st4.2.1).bind (fun u9 => none)) else none)))))) 1000000 ((0 : Int64), (1 : Int32), S0)).bind (fun b4 => (some (b4.1, b4.2)))) else (some ((0 : Int64), S0))) else ((M_X7_power (6 : Int64) i2).bind (fun u10 => (some (u10, S0)))))))
def q_X3_winsWithin_0 : Room := { frames := 5, cells := 0, slots := 0, locals := 158 }
set_option maxHeartbeats 4000000 in
set_option maxRecDepth 100000 in
theorem c_X3_winsWithin_0 (l : Launch) (G : gT) (a0 a0_firms a0_kindsTold a0_places a0_crowds a0_pipsLeft a0_notHome : Nat) (S0_points : Int32) (S0_home : Int32) (S0_men : Int32) (S0_turn : Int32) (S0_thrower : Int32) (S0_cube : Int32) (S0_owner : Int32) (S0_firms : Nat → Int32) (S0_kindsTold : Nat → Int32) (S0_places : Nat → Int32) (S0_crowds : Nat → Int32) (S0_pipsLeft : Nat → Int32) (S0_notHome : Nat → Int32) (i1 : Int32) (i2 : Int32) : CT l G yX3_winsWithin cX3_winsWithin 8 (some .long) q_X3_winsWithin_0 [.ref a0, .int i1, .int i2] (wBD G a0 a0_firms a0_kindsTold a0_places a0_crowds a0_pipsLeft a0_notHome S0_points S0_home S0_men S0_turn S0_thrower S0_cube S0_owner S0_firms S0_kindsTold S0_places S0_crowds S0_pipsLeft S0_notHome) (M_X3_winsWithin_0 (S0_points, S0_home, S0_men, S0_turn, S0_thrower, S0_cube, S0_owner, S0_firms, S0_kindsTold, S0_places, S0_crowds, S0_pipsLeft, S0_notHome) i1 i2) (fun u => some (.long u.1)) (fun u => wBD G a0 a0_firms a0_kindsTold a0_places a0_crowds a0_pipsLeft a0_notHome u.2.1 u.2.2.1 u.2.2.2.1 u.2.2.2.2.1 u.2.2.2.2.2.1 u.2.2.2.2.2.2.1 u.2.2.2.2.2.2.2.1 u.2.2.2.2.2.2.2.2.1 u.2.2.2.2.2.2.2.2.2.1 u.2.2.2.2.2.2.2.2.2.2.1 u.2.2.2.2.2.2.2.2.2.2.2.1 u.2.2.2.2.2.2.2.2.2.2.2.2.1 u.2.2.2.2.2.2.2.2.2.2.2.2.2) := by
  refine CT.of (P := PX3_winsWithin) (by decide) dPX3_winsWithin (Nat.le_of_ble_eq_true rfl) ?_
  intro p e s m args below meth c A Q ls hne X RT Y hl
  have hl : lv_has ls 8 [(0, .ref a0), (1, .int i1), (2, .int i2)] := hl
  generalize hM : M_X3_winsWithin_0 (S0_points, S0_home, S0_men, S0_turn, S0_thrower, S0_cube, S0_owner, S0_firms, S0_kindsTold, S0_places, S0_crowds, S0_pipsLeft, S0_notHome) i1 i2 = MM at hne RT
  unfold M_X3_winsWithin_0 at hM
  refine r_aload_n (pc' := 1) X hl 0 rfl rfl 0 rfl rfl ?_
  refine r_iload_n (pc' := 2) X hl 1 rfl rfl 1 rfl rfl ?_
  refine r_callV0 (pc' := 5) (As := [.int i1]) (rest := []) X Y 2 rfl rfl mRX3_70 (c_X2_hasWon l G a0 a0_firms a0_kindsTold a0_places a0_crowds a0_pipsLeft a0_notHome S0_points S0_home S0_men S0_turn S0_thrower S0_cube S0_owner S0_firms S0_kindsTold S0_places S0_crowds S0_pipsLeft S0_notHome i1) (mB hM hne) 0 rfl rfl [0, 1, 2, 3, 4, 5, 6] rfl rfl rfl (Nat.le_of_ble_eq_true rfl) ⟨rfl, rfl⟩ ⟨Nat.le_of_ble_eq_true rfl, Nat.le_of_ble_eq_true rfl⟩ ⟨Nat.zero_le _, Nat.zero_le _⟩ hl.1 (st' := fun u1 => [.int u1]) (fun _ => rfl) (fun u1 H locs huu1 Y => ?_)
  replace hM := mS hM huu1
  refine r_if_eq (pc' := 8) X 16 3 rfl rfl (by decide) (fun c2 => ?_) (fun c2 => ?_)
  · replace hM := mI hM c2
    refine r_iload_n (pc' := 17) X hl 2 rfl rfl 8 rfl rfl ?_
    refine r_if_gt (pc' := 20) X 22 9 rfl rfl (by decide) (fun c3 => ?_) (fun c3 => ?_)
    · replace hM := mI hM c3
      refine r_lconst (pc' := 23) X (0 : Int64) 12 rfl rfl rfl ?_
      refine r_lstore_n (pc' := 24) (L' := [(3, .long (0 : Int64)), (0, .ref a0), (1, .int i1), (2, .int i2)]) X hl rfl 13 rfl rfl (by decide) rfl (fun ls hl => ?_)
      refine r_iconst (pc' := 25) X (1 : Int32) 14 rfl rfl rfl ?_
      refine r_istore (pc' := 27) (L' := [(5, .int (1 : Int32)), (3, .long (0 : Int64)), (0, .ref a0), (1, .int i1), (2, .int i2)]) X hl 15 rfl rfl (by decide) rfl (fun ls hl => ?_)
      obtain ⟨LL4, hL4, hne4, hX4⟩ := mL hM hne
      have KX4 : ∀ (b4_1 : Int64) (b4_2_points : Int32) (b4_2_home : Int32) (b4_2_men : Int32) (b4_2_turn : Int32) (b4_2_thrower : Int32) (b4_2_cube : Int32) (b4_2_owner : Int32) (b4_2_firms : Nat → Int32) (b4_2_kindsTold : Nat → Int32) (b4_2_places : Nat → Int32) (b4_2_crowds : Nat → Int32) (b4_2_pipsLeft : Nat → Int32) (b4_2_notHome : Nat → Int32) (H : Heap) (locs : List Loc) (ls : Array Slot), some (b4_1, (b4_2_points, b4_2_home, b4_2_men, b4_2_turn, b4_2_thrower, b4_2_cube, b4_2_owner, b4_2_firms, b4_2_kindsTold, b4_2_places, b4_2_crowds, b4_2_pipsLeft, b4_2_notHome)) = LL4 → rY G A s (wBD G a0 a0_firms a0_kindsTold a0_places a0_crowds a0_pipsLeft a0_notHome b4_2_points b4_2_home b4_2_men b4_2_turn b4_2_thrower b4_2_cube b4_2_owner b4_2_firms b4_2_kindsTold b4_2_places b4_2_crowds b4_2_pipsLeft b4_2_notHome) H locs → lv_has ls 8 [(3, .long b4_1)] → W p l e q_X3_winsWithin_0 s m args below meth c H locs 0 0 Q (F0 m 107 ls []) := by
        intro b4_1 b4_2_points b4_2_home b4_2_men b4_2_turn b4_2_thrower b4_2_cube b4_2_owner b4_2_firms b4_2_kindsTold b4_2_places b4_2_crowds b4_2_pipsLeft b4_2_notHome H locs ls hM Y hl
        replace hM := hX4 _ hM
        refine r_lload_n (pc' := 108) X hl 0 rfl rfl 62 rfl rfl ?_
        exact RT (b4_1, (b4_2_points, b4_2_home, b4_2_men, b4_2_turn, b4_2_thrower, b4_2_cube, b4_2_owner, b4_2_firms, b4_2_kindsTold, b4_2_places, b4_2_crowds, b4_2_pipsLeft, b4_2_notHome)) _ _ _ _ _ hM (Or.inr (Or.inr (Or.inl ⟨rfl, rfl, _, rfl⟩))) (X.d (k := 63) rfl) Y
      refine lp_rule (I := fun (st4 : Int64 × Int32 × BD) => ∀ (H : Heap) (locs : List Loc) (ls : Array Slot), rY G A s (wBD G a0 a0_firms a0_kindsTold a0_places a0_crowds a0_pipsLeft a0_notHome st4.2.2.1 st4.2.2.2.1 st4.2.2.2.2.1 st4.2.2.2.2.2.1 st4.2.2.2.2.2.2.1 st4.2.2.2.2.2.2.2.1 st4.2.2.2.2.2.2.2.2.1 st4.2.2.2.2.2.2.2.2.2.1 st4.2.2.2.2.2.2.2.2.2.2.1 st4.2.2.2.2.2.2.2.2.2.2.2.1 st4.2.2.2.2.2.2.2.2.2.2.2.2.1 st4.2.2.2.2.2.2.2.2.2.2.2.2.2.1 st4.2.2.2.2.2.2.2.2.2.2.2.2.2.2) H locs → lv_has ls 8 [(0, .ref a0), (1, .int i1), (2, .int i2), (3, .long st4.1), (5, .int st4.2.1)] → W p l e q_X3_winsWithin_0 s m args below meth c H locs 0 0 Q (F0 m 27 ls [])) hne4 (fun rec4 st4 IH4 hM => ?_) _ _ hL4 _ _ _ Y (lv_sub hl [2, 3, 4, 1, 0] rfl)
      intro H locs ls Y hl
      obtain ⟨st4_1, st4_2_1, ⟨st4_2_2_points, st4_2_2_home, st4_2_2_men, st4_2_2_turn, st4_2_2_thrower, st4_2_2_cube, st4_2_2_owner, st4_2_2_firms, st4_2_2_kindsTold, st4_2_2_places, st4_2_2_crowds, st4_2_2_pipsLeft, st4_2_2_notHome⟩⟩ := st4
      replace Y : rY G A s (wBD G a0 a0_firms a0_kindsTold a0_places a0_crowds a0_pipsLeft a0_notHome st4_2_2_points st4_2_2_home st4_2_2_men st4_2_2_turn st4_2_2_thrower st4_2_2_cube st4_2_2_owner st4_2_2_firms st4_2_2_kindsTold st4_2_2_places st4_2_2_crowds st4_2_2_pipsLeft st4_2_2_notHome) H locs := Y
      replace hl : lv_has ls 8 [(0, .ref a0), (1, .int i1), (2, .int i2), (3, .long st4_1), (5, .int st4_2_1)] := hl
      refine r_iload (pc' := 29) X hl 4 rfl 16 rfl rfl ?_
      refine r_bipush (pc' := 31) X (6 : Int32) 17 rfl rfl rfl ?_
      refine r_icmp_gt (pc' := 34) X 107 18 rfl rfl (by decide) (fun c5 => ?_) (fun c5 => ?_)
      · replace hM := mI hM c5
        exact KX4 st4_1 st4_2_2_points st4_2_2_home st4_2_2_men st4_2_2_turn st4_2_2_thrower st4_2_2_cube st4_2_2_owner st4_2_2_firms st4_2_2_kindsTold st4_2_2_places st4_2_2_crowds st4_2_2_pipsLeft st4_2_2_notHome _ _ _ hM Y (lv_sub hl [3] rfl)
      · replace hM := mE hM c5
        refine r_aload_n (pc' := 35) X hl 0 rfl rfl 19 rfl rfl ?_
        refine r_iload_n (pc' := 36) X hl 1 rfl rfl 20 rfl rfl ?_
        refine r_iload (pc' := 38) X hl 4 rfl 21 rfl rfl ?_
        refine r_callV0 (pc' := 41) (As := [.int i1, .int st4_2_1]) (rest := []) X Y 22 rfl rfl mRX3_74 (c_X2_chosenByRule l G a0 a0_firms a0_kindsTold a0_places a0_crowds a0_pipsLeft a0_notHome st4_2_2_points st4_2_2_home st4_2_2_men st4_2_2_turn st4_2_2_thrower st4_2_2_cube st4_2_2_owner st4_2_2_firms st4_2_2_kindsTold st4_2_2_places st4_2_2_crowds st4_2_2_pipsLeft st4_2_2_notHome i1 st4_2_1) (mB hM hne4) 0 rfl rfl [0, 1, 2, 3, 4, 5, 6] rfl rfl rfl (Nat.le_of_ble_eq_true rfl) ⟨rfl, rfl⟩ ⟨Nat.le_of_ble_eq_true rfl, Nat.le_of_ble_eq_true rfl⟩ ⟨Nat.zero_le _, Nat.zero_le _⟩ hl.1 (st' := fun u6 => [.int u6]) (fun _ => rfl) (fun u6 H locs huu6 Y => ?_)
        replace hM := mS hM huu6
        refine r_istore (pc' := 43) (L' := [(6, .int u6), (0, .ref a0), (1, .int i1), (2, .int i2), (3, .long st4_1), (5, .int st4_2_1)]) X hl 23 rfl rfl (by decide) rfl (fun ls hl => ?_)
        refine r_iload (pc' := 45) X hl 0 rfl 24 rfl rfl ?_
        refine r_ldc (pc' := 47) X mw154 25 rfl rfl ?_
        refine r_icmp_ne (pc' := 50) X 64 26 rfl rfl (by decide) (fun c7 => ?_) (fun c7 => ?_)
        · replace hM := mE hM c7
          refine r_aload_n (pc' := 65) X hl 1 rfl rfl 37 rfl rfl ?_
          refine r_getN (pc' := 68) (v := .ref a0_places) X Y 38 rfl rfl fRX3_49 0 rfl rfl ?_
          refine r_iload (pc' := 70) X hl 0 rfl 39 rfl rfl ?_
          obtain ⟨g8, hM⟩ := mG hM hne4
          refine r_iald (pc' := 71) X Y 40 rfl rfl 3 rfl (vin g8) ?_
          refine r_istore (pc' := 73) (L' := [(7, .int (st4_2_2_places (u6).toNatClampNeg)), (6, .int u6), (0, .ref a0), (1, .int i1), (2, .int i2), (3, .long st4_1), (5, .int st4_2_1)]) X hl 41 rfl rfl (by decide) rfl (fun ls hl => ?_)
          refine r_aload_n (pc' := 74) X hl 2 rfl rfl 42 rfl rfl ?_
          refine r_iload (pc' := 76) X hl 1 rfl 43 rfl rfl ?_
          refine r_iload (pc' := 78) X hl 6 rfl 44 rfl rfl ?_
          refine r_callV (pc' := 81) (As := [.int u6, .int st4_2_1]) (rest := []) (wr := ([] : va_W)) X Y 45 rfl rfl mRX3_52 (c_X2_go l G a0 a0_firms a0_kindsTold a0_places a0_crowds a0_pipsLeft a0_notHome st4_2_2_points st4_2_2_home st4_2_2_men st4_2_2_turn st4_2_2_thrower st4_2_2_cube st4_2_2_owner st4_2_2_firms st4_2_2_kindsTold st4_2_2_places st4_2_2_crowds st4_2_2_pipsLeft st4_2_2_notHome u6 st4_2_1) (mB hM hne4) 0 rfl rfl [0, 1, 2, 3, 4, 5, 6] [] [0, 1, 2, 3, 4, 5, 6] rfl rfl ⟨rfl, rfl, rfl⟩ rfl (w2 := fun u9 => wBD G a0 a0_firms a0_kindsTold a0_places a0_crowds a0_pipsLeft a0_notHome u9.2.1 u9.2.2.1 u9.2.2.2.1 u9.2.2.2.2.1 u9.2.2.2.2.2.1 u9.2.2.2.2.2.2.1 u9.2.2.2.2.2.2.2.1 u9.2.2.2.2.2.2.2.2.1 u9.2.2.2.2.2.2.2.2.2.1 u9.2.2.2.2.2.2.2.2.2.2.1 u9.2.2.2.2.2.2.2.2.2.2.2.1 u9.2.2.2.2.2.2.2.2.2.2.2.2.1 u9.2.2.2.2.2.2.2.2.2.2.2.2.2) (fun _ => rfl) rfl (Nat.le_of_ble_eq_true rfl) ⟨rfl, rfl⟩ ⟨Nat.le_of_ble_eq_true rfl, Nat.le_of_ble_eq_true rfl⟩ ⟨Nat.zero_le _, Nat.zero_le _⟩ hl.1 (st' := fun u9 => [.int u9.1]) (fun _ => rfl) (fun u9 H locs huu9 Y => ?_)
          obtain ⟨u9_1, ⟨u9_2_points, u9_2_home, u9_2_men, u9_2_turn, u9_2_thrower, u9_2_cube, u9_2_owner, u9_2_firms, u9_2_kindsTold, u9_2_places, u9_2_crowds, u9_2_pipsLeft, u9_2_notHome⟩⟩ := u9
          replace Y : rY G A s (wBD G a0 a0_firms a0_kindsTold a0_places a0_crowds a0_pipsLeft a0_notHome u9_2_points u9_2_home u9_2_men u9_2_turn u9_2_thrower u9_2_cube u9_2_owner u9_2_firms u9_2_kindsTold u9_2_places u9_2_crowds u9_2_pipsLeft u9_2_notHome) H locs := Y
          replace hM := mS hM huu9
          show W p l e q_X3_winsWithin_0 s m args below meth c H locs 0 0 Q (F0 m 81 ls [.int u9_1])
          refine r_pop (pc' := 82) X 46 rfl rfl rfl ?_
          refine r_lload_n (pc' := 83) X hl 5 rfl rfl 47 rfl rfl ?_
          refine r_aload_n (pc' := 84) X hl 2 rfl rfl 48 rfl rfl ?_
          refine r_iload_n (pc' := 85) X hl 3 rfl rfl 49 rfl rfl ?_
          refine r_iload_n (pc' := 86) X hl 4 rfl rfl 50 rfl rfl ?_
          refine r_iconst (pc' := 87) X (1 : Int32) 51 rfl rfl rfl ?_
          refine r_isub (pc' := 88) X 52 rfl rfl ?_
          exact absurd hM.symm hne4
        · replace hM := mI hM c7
          refine r_lload_n (pc' := 51) X hl 4 rfl rfl 27 rfl rfl ?_
          refine r_aload_n (pc' := 52) X hl 1 rfl rfl 28 rfl rfl ?_
          refine r_iload_n (pc' := 53) X hl 2 rfl rfl 29 rfl rfl ?_
          refine r_iload_n (pc' := 54) X hl 3 rfl rfl 30 rfl rfl ?_
          refine r_iconst (pc' := 55) X (1 : Int32) 31 rfl rfl rfl ?_
          refine r_isub (pc' := 56) X 32 rfl rfl ?_
          exact absurd hM.symm hne4
    · replace hM := mE hM c3
      refine r_lconst (pc' := 21) X (0 : Int64) 10 rfl rfl rfl ?_
      exact RT ((0 : Int64), (S0_points, S0_home, S0_men, S0_turn, S0_thrower, S0_cube, S0_owner, S0_firms, S0_kindsTold, S0_places, S0_crowds, S0_pipsLeft, S0_notHome)) _ _ _ _ _ hM (Or.inr (Or.inr (Or.inl ⟨rfl, rfl, _, rfl⟩))) (X.d (k := 11) rfl) Y
  · replace hM := mE hM c2
    refine r_ldc2 (pc' := 11) X mw189 4 rfl rfl ?_
    refine r_iload_n (pc' := 12) X hl 2 rfl rfl 5 rfl rfl ?_
    refine r_callSN0 (pc' := 15) (As := [.long (6 : Int64), .int i2]) (rest := []) X Y 6 rfl rfl mRX3_83 (c_X7_power l G (6 : Int64) i2) (mB hM hne) rfl [] rfl rfl rfl (Nat.le_of_ble_eq_true rfl) ⟨rfl, rfl⟩ ⟨Nat.le_of_ble_eq_true rfl, Nat.le_of_ble_eq_true rfl⟩ ⟨Nat.zero_le _, Nat.zero_le _⟩ hl.1 (st' := fun u10 => [.long u10]) (fun _ => rfl) (fun u10 H locs huu10 Y => ?_)
    replace hM := mS hM huu10
    exact RT (u10, (S0_points, S0_home, S0_men, S0_turn, S0_thrower, S0_cube, S0_owner, S0_firms, S0_kindsTold, S0_places, S0_crowds, S0_pipsLeft, S0_notHome)) _ _ _ _ _ hM (Or.inr (Or.inr (Or.inl ⟨rfl, rfl, _, rfl⟩))) (X.d (k := 7) rfl) Y

def M_X3_winsWithin_1 (S0 : BD) (i1 : Int32) (i2 : Int32) : Option (Int64 × BD) :=
  ((M_X2_hasWon S0 i1).bind (fun u1 => (if u1 = 0 then (if 0 < i2 then ((lp (σ := Int64 × Int32 × BD) (β := Int64 × BD) (fun rec4 st4 => (if (6 : Int32) < st4.2.1 then (some (st4.1, st4.2.2)) else ((M_X2_chosenByRule st4.2.2 i1 st4.2.1).bind (fun u6 => (if u6 = (-1000000 : Int32) then ((M_X3_winsWithin_0 st4.2.2 i1 ((i2 - (1 : Int32)))).bind (fun u12 => (rec4 ((st4.1 + u12.1), (st4.2.1 + (1 : Int32)), u12.2)))) else (if inb u6 8 = true then ((M_X2_go st4.2.2 u6 st4.2.1).bind (fun u9 => ((M_X3_winsWithin_0 u9.2 i1 ((i2 - (1 : Int32)))).bind (fun u10 => ((M_X2_put u10.2 u6 (((bd_places st4.2.2) (u6).toNatClampNeg))).bind (fun u11 => (rec4 ((st4.1 + u10.1), (st4.2.1 + (1 : Int32)), u11)))))))) else none)))))) 1000000 ((0 : Int64), (1 : Int32), S0)).bind (fun b4 => (some (b4.1, b4.2)))) else (some ((0 : Int64), S0))) else ((M_X7_power (6 : Int64) i2).bind (fun u13 => (some (u13, S0)))))))
def q_X3_winsWithin_1 : Room := { frames := 6, cells := 0, slots := 0, locals := 185 }
set_option maxHeartbeats 4000000 in
set_option maxRecDepth 100000 in
theorem c_X3_winsWithin_1 (l : Launch) (G : gT) (a0 a0_firms a0_kindsTold a0_places a0_crowds a0_pipsLeft a0_notHome : Nat) (S0_points : Int32) (S0_home : Int32) (S0_men : Int32) (S0_turn : Int32) (S0_thrower : Int32) (S0_cube : Int32) (S0_owner : Int32) (S0_firms : Nat → Int32) (S0_kindsTold : Nat → Int32) (S0_places : Nat → Int32) (S0_crowds : Nat → Int32) (S0_pipsLeft : Nat → Int32) (S0_notHome : Nat → Int32) (i1 : Int32) (i2 : Int32) : CT l G yX3_winsWithin cX3_winsWithin 8 (some .long) q_X3_winsWithin_1 [.ref a0, .int i1, .int i2] (wBD G a0 a0_firms a0_kindsTold a0_places a0_crowds a0_pipsLeft a0_notHome S0_points S0_home S0_men S0_turn S0_thrower S0_cube S0_owner S0_firms S0_kindsTold S0_places S0_crowds S0_pipsLeft S0_notHome) (M_X3_winsWithin_1 (S0_points, S0_home, S0_men, S0_turn, S0_thrower, S0_cube, S0_owner, S0_firms, S0_kindsTold, S0_places, S0_crowds, S0_pipsLeft, S0_notHome) i1 i2) (fun u => some (.long u.1)) (fun u => wBD G a0 a0_firms a0_kindsTold a0_places a0_crowds a0_pipsLeft a0_notHome u.2.1 u.2.2.1 u.2.2.2.1 u.2.2.2.2.1 u.2.2.2.2.2.1 u.2.2.2.2.2.2.1 u.2.2.2.2.2.2.2.1 u.2.2.2.2.2.2.2.2.1 u.2.2.2.2.2.2.2.2.2.1 u.2.2.2.2.2.2.2.2.2.2.1 u.2.2.2.2.2.2.2.2.2.2.2.1 u.2.2.2.2.2.2.2.2.2.2.2.2.1 u.2.2.2.2.2.2.2.2.2.2.2.2.2) := by
  refine CT.of (P := PX3_winsWithin) (by decide) dPX3_winsWithin (Nat.le_of_ble_eq_true rfl) ?_
  intro p e s m args below meth c A Q ls hne X RT Y hl
  have hl : lv_has ls 8 [(0, .ref a0), (1, .int i1), (2, .int i2)] := hl
  generalize hM : M_X3_winsWithin_1 (S0_points, S0_home, S0_men, S0_turn, S0_thrower, S0_cube, S0_owner, S0_firms, S0_kindsTold, S0_places, S0_crowds, S0_pipsLeft, S0_notHome) i1 i2 = MM at hne RT
  unfold M_X3_winsWithin_1 at hM
  refine r_aload_n (pc' := 1) X hl 0 rfl rfl 0 rfl rfl ?_
  refine r_iload_n (pc' := 2) X hl 1 rfl rfl 1 rfl rfl ?_
  refine r_callV0 (pc' := 5) (As := [.int i1]) (rest := []) X Y 2 rfl rfl mRX3_70 (c_X2_hasWon l G a0 a0_firms a0_kindsTold a0_places a0_crowds a0_pipsLeft a0_notHome S0_points S0_home S0_men S0_turn S0_thrower S0_cube S0_owner S0_firms S0_kindsTold S0_places S0_crowds S0_pipsLeft S0_notHome i1) (mB hM hne) 0 rfl rfl [0, 1, 2, 3, 4, 5, 6] rfl rfl rfl (Nat.le_of_ble_eq_true rfl) ⟨rfl, rfl⟩ ⟨Nat.le_of_ble_eq_true rfl, Nat.le_of_ble_eq_true rfl⟩ ⟨Nat.zero_le _, Nat.zero_le _⟩ hl.1 (st' := fun u1 => [.int u1]) (fun _ => rfl) (fun u1 H locs huu1 Y => ?_)
  replace hM := mS hM huu1
  refine r_if_eq (pc' := 8) X 16 3 rfl rfl (by decide) (fun c2 => ?_) (fun c2 => ?_)
  · replace hM := mI hM c2
    refine r_iload_n (pc' := 17) X hl 2 rfl rfl 8 rfl rfl ?_
    refine r_if_gt (pc' := 20) X 22 9 rfl rfl (by decide) (fun c3 => ?_) (fun c3 => ?_)
    · replace hM := mI hM c3
      refine r_lconst (pc' := 23) X (0 : Int64) 12 rfl rfl rfl ?_
      refine r_lstore_n (pc' := 24) (L' := [(3, .long (0 : Int64)), (0, .ref a0), (1, .int i1), (2, .int i2)]) X hl rfl 13 rfl rfl (by decide) rfl (fun ls hl => ?_)
      refine r_iconst (pc' := 25) X (1 : Int32) 14 rfl rfl rfl ?_
      refine r_istore (pc' := 27) (L' := [(5, .int (1 : Int32)), (3, .long (0 : Int64)), (0, .ref a0), (1, .int i1), (2, .int i2)]) X hl 15 rfl rfl (by decide) rfl (fun ls hl => ?_)
      obtain ⟨LL4, hL4, hne4, hX4⟩ := mL hM hne
      have KX4 : ∀ (b4_1 : Int64) (b4_2_points : Int32) (b4_2_home : Int32) (b4_2_men : Int32) (b4_2_turn : Int32) (b4_2_thrower : Int32) (b4_2_cube : Int32) (b4_2_owner : Int32) (b4_2_firms : Nat → Int32) (b4_2_kindsTold : Nat → Int32) (b4_2_places : Nat → Int32) (b4_2_crowds : Nat → Int32) (b4_2_pipsLeft : Nat → Int32) (b4_2_notHome : Nat → Int32) (H : Heap) (locs : List Loc) (ls : Array Slot), some (b4_1, (b4_2_points, b4_2_home, b4_2_men, b4_2_turn, b4_2_thrower, b4_2_cube, b4_2_owner, b4_2_firms, b4_2_kindsTold, b4_2_places, b4_2_crowds, b4_2_pipsLeft, b4_2_notHome)) = LL4 → rY G A s (wBD G a0 a0_firms a0_kindsTold a0_places a0_crowds a0_pipsLeft a0_notHome b4_2_points b4_2_home b4_2_men b4_2_turn b4_2_thrower b4_2_cube b4_2_owner b4_2_firms b4_2_kindsTold b4_2_places b4_2_crowds b4_2_pipsLeft b4_2_notHome) H locs → lv_has ls 8 [(3, .long b4_1)] → W p l e q_X3_winsWithin_1 s m args below meth c H locs 0 0 Q (F0 m 107 ls []) := by
        intro b4_1 b4_2_points b4_2_home b4_2_men b4_2_turn b4_2_thrower b4_2_cube b4_2_owner b4_2_firms b4_2_kindsTold b4_2_places b4_2_crowds b4_2_pipsLeft b4_2_notHome H locs ls hM Y hl
        replace hM := hX4 _ hM
        refine r_lload_n (pc' := 108) X hl 0 rfl rfl 62 rfl rfl ?_
        exact RT (b4_1, (b4_2_points, b4_2_home, b4_2_men, b4_2_turn, b4_2_thrower, b4_2_cube, b4_2_owner, b4_2_firms, b4_2_kindsTold, b4_2_places, b4_2_crowds, b4_2_pipsLeft, b4_2_notHome)) _ _ _ _ _ hM (Or.inr (Or.inr (Or.inl ⟨rfl, rfl, _, rfl⟩))) (X.d (k := 63) rfl) Y
      refine lp_rule (I := fun (st4 : Int64 × Int32 × BD) => ∀ (H : Heap) (locs : List Loc) (ls : Array Slot), rY G A s (wBD G a0 a0_firms a0_kindsTold a0_places a0_crowds a0_pipsLeft a0_notHome st4.2.2.1 st4.2.2.2.1 st4.2.2.2.2.1 st4.2.2.2.2.2.1 st4.2.2.2.2.2.2.1 st4.2.2.2.2.2.2.2.1 st4.2.2.2.2.2.2.2.2.1 st4.2.2.2.2.2.2.2.2.2.1 st4.2.2.2.2.2.2.2.2.2.2.1 st4.2.2.2.2.2.2.2.2.2.2.2.1 st4.2.2.2.2.2.2.2.2.2.2.2.2.1 st4.2.2.2.2.2.2.2.2.2.2.2.2.2.1 st4.2.2.2.2.2.2.2.2.2.2.2.2.2.2) H locs → lv_has ls 8 [(0, .ref a0), (1, .int i1), (2, .int i2), (3, .long st4.1), (5, .int st4.2.1)] → W p l e q_X3_winsWithin_1 s m args below meth c H locs 0 0 Q (F0 m 27 ls [])) hne4 (fun rec4 st4 IH4 hM => ?_) _ _ hL4 _ _ _ Y (lv_sub hl [2, 3, 4, 1, 0] rfl)
      intro H locs ls Y hl
      obtain ⟨st4_1, st4_2_1, ⟨st4_2_2_points, st4_2_2_home, st4_2_2_men, st4_2_2_turn, st4_2_2_thrower, st4_2_2_cube, st4_2_2_owner, st4_2_2_firms, st4_2_2_kindsTold, st4_2_2_places, st4_2_2_crowds, st4_2_2_pipsLeft, st4_2_2_notHome⟩⟩ := st4
      replace Y : rY G A s (wBD G a0 a0_firms a0_kindsTold a0_places a0_crowds a0_pipsLeft a0_notHome st4_2_2_points st4_2_2_home st4_2_2_men st4_2_2_turn st4_2_2_thrower st4_2_2_cube st4_2_2_owner st4_2_2_firms st4_2_2_kindsTold st4_2_2_places st4_2_2_crowds st4_2_2_pipsLeft st4_2_2_notHome) H locs := Y
      replace hl : lv_has ls 8 [(0, .ref a0), (1, .int i1), (2, .int i2), (3, .long st4_1), (5, .int st4_2_1)] := hl
      refine r_iload (pc' := 29) X hl 4 rfl 16 rfl rfl ?_
      refine r_bipush (pc' := 31) X (6 : Int32) 17 rfl rfl rfl ?_
      refine r_icmp_gt (pc' := 34) X 107 18 rfl rfl (by decide) (fun c5 => ?_) (fun c5 => ?_)
      · replace hM := mI hM c5
        exact KX4 st4_1 st4_2_2_points st4_2_2_home st4_2_2_men st4_2_2_turn st4_2_2_thrower st4_2_2_cube st4_2_2_owner st4_2_2_firms st4_2_2_kindsTold st4_2_2_places st4_2_2_crowds st4_2_2_pipsLeft st4_2_2_notHome _ _ _ hM Y (lv_sub hl [3] rfl)
      · replace hM := mE hM c5
        refine r_aload_n (pc' := 35) X hl 0 rfl rfl 19 rfl rfl ?_
        refine r_iload_n (pc' := 36) X hl 1 rfl rfl 20 rfl rfl ?_
        refine r_iload (pc' := 38) X hl 4 rfl 21 rfl rfl ?_
        refine r_callV0 (pc' := 41) (As := [.int i1, .int st4_2_1]) (rest := []) X Y 22 rfl rfl mRX3_74 (c_X2_chosenByRule l G a0 a0_firms a0_kindsTold a0_places a0_crowds a0_pipsLeft a0_notHome st4_2_2_points st4_2_2_home st4_2_2_men st4_2_2_turn st4_2_2_thrower st4_2_2_cube st4_2_2_owner st4_2_2_firms st4_2_2_kindsTold st4_2_2_places st4_2_2_crowds st4_2_2_pipsLeft st4_2_2_notHome i1 st4_2_1) (mB hM hne4) 0 rfl rfl [0, 1, 2, 3, 4, 5, 6] rfl rfl rfl (Nat.le_of_ble_eq_true rfl) ⟨rfl, rfl⟩ ⟨Nat.le_of_ble_eq_true rfl, Nat.le_of_ble_eq_true rfl⟩ ⟨Nat.zero_le _, Nat.zero_le _⟩ hl.1 (st' := fun u6 => [.int u6]) (fun _ => rfl) (fun u6 H locs huu6 Y => ?_)
        replace hM := mS hM huu6
        refine r_istore (pc' := 43) (L' := [(6, .int u6), (0, .ref a0), (1, .int i1), (2, .int i2), (3, .long st4_1), (5, .int st4_2_1)]) X hl 23 rfl rfl (by decide) rfl (fun ls hl => ?_)
        refine r_iload (pc' := 45) X hl 0 rfl 24 rfl rfl ?_
        refine r_ldc (pc' := 47) X mw154 25 rfl rfl ?_
        refine r_icmp_ne (pc' := 50) X 64 26 rfl rfl (by decide) (fun c7 => ?_) (fun c7 => ?_)
        · replace hM := mE hM c7
          refine r_aload_n (pc' := 65) X hl 1 rfl rfl 37 rfl rfl ?_
          refine r_getN (pc' := 68) (v := .ref a0_places) X Y 38 rfl rfl fRX3_49 0 rfl rfl ?_
          refine r_iload (pc' := 70) X hl 0 rfl 39 rfl rfl ?_
          obtain ⟨g8, hM⟩ := mG hM hne4
          refine r_iald (pc' := 71) X Y 40 rfl rfl 3 rfl (vin g8) ?_
          refine r_istore (pc' := 73) (L' := [(7, .int (st4_2_2_places (u6).toNatClampNeg)), (6, .int u6), (0, .ref a0), (1, .int i1), (2, .int i2), (3, .long st4_1), (5, .int st4_2_1)]) X hl 41 rfl rfl (by decide) rfl (fun ls hl => ?_)
          refine r_aload_n (pc' := 74) X hl 2 rfl rfl 42 rfl rfl ?_
          refine r_iload (pc' := 76) X hl 1 rfl 43 rfl rfl ?_
          refine r_iload (pc' := 78) X hl 6 rfl 44 rfl rfl ?_
          refine r_callV (pc' := 81) (As := [.int u6, .int st4_2_1]) (rest := []) (wr := ([] : va_W)) X Y 45 rfl rfl mRX3_52 (c_X2_go l G a0 a0_firms a0_kindsTold a0_places a0_crowds a0_pipsLeft a0_notHome st4_2_2_points st4_2_2_home st4_2_2_men st4_2_2_turn st4_2_2_thrower st4_2_2_cube st4_2_2_owner st4_2_2_firms st4_2_2_kindsTold st4_2_2_places st4_2_2_crowds st4_2_2_pipsLeft st4_2_2_notHome u6 st4_2_1) (mB hM hne4) 0 rfl rfl [0, 1, 2, 3, 4, 5, 6] [] [0, 1, 2, 3, 4, 5, 6] rfl rfl ⟨rfl, rfl, rfl⟩ rfl (w2 := fun u9 => wBD G a0 a0_firms a0_kindsTold a0_places a0_crowds a0_pipsLeft a0_notHome u9.2.1 u9.2.2.1 u9.2.2.2.1 u9.2.2.2.2.1 u9.2.2.2.2.2.1 u9.2.2.2.2.2.2.1 u9.2.2.2.2.2.2.2.1 u9.2.2.2.2.2.2.2.2.1 u9.2.2.2.2.2.2.2.2.2.1 u9.2.2.2.2.2.2.2.2.2.2.1 u9.2.2.2.2.2.2.2.2.2.2.2.1 u9.2.2.2.2.2.2.2.2.2.2.2.2.1 u9.2.2.2.2.2.2.2.2.2.2.2.2.2) (fun _ => rfl) rfl (Nat.le_of_ble_eq_true rfl) ⟨rfl, rfl⟩ ⟨Nat.le_of_ble_eq_true rfl, Nat.le_of_ble_eq_true rfl⟩ ⟨Nat.zero_le _, Nat.zero_le _⟩ hl.1 (st' := fun u9 => [.int u9.1]) (fun _ => rfl) (fun u9 H locs huu9 Y => ?_)
          obtain ⟨u9_1, ⟨u9_2_points, u9_2_home, u9_2_men, u9_2_turn, u9_2_thrower, u9_2_cube, u9_2_owner, u9_2_firms, u9_2_kindsTold, u9_2_places, u9_2_crowds, u9_2_pipsLeft, u9_2_notHome⟩⟩ := u9
          replace Y : rY G A s (wBD G a0 a0_firms a0_kindsTold a0_places a0_crowds a0_pipsLeft a0_notHome u9_2_points u9_2_home u9_2_men u9_2_turn u9_2_thrower u9_2_cube u9_2_owner u9_2_firms u9_2_kindsTold u9_2_places u9_2_crowds u9_2_pipsLeft u9_2_notHome) H locs := Y
          replace hM := mS hM huu9
          show W p l e q_X3_winsWithin_1 s m args below meth c H locs 0 0 Q (F0 m 81 ls [.int u9_1])
          refine r_pop (pc' := 82) X 46 rfl rfl rfl ?_
          refine r_lload_n (pc' := 83) X hl 5 rfl rfl 47 rfl rfl ?_
          refine r_aload_n (pc' := 84) X hl 2 rfl rfl 48 rfl rfl ?_
          refine r_iload_n (pc' := 85) X hl 3 rfl rfl 49 rfl rfl ?_
          refine r_iload_n (pc' := 86) X hl 4 rfl rfl 50 rfl rfl ?_
          refine r_iconst (pc' := 87) X (1 : Int32) 51 rfl rfl rfl ?_
          refine r_isub (pc' := 88) X 52 rfl rfl ?_
          refine r_callS (pc' := 91) (As := [.ref a0, .int i1, .int (i2 - (1 : Int32))]) (rest := [.long st4_1]) (wr := ([] : va_W)) X Y 53 rfl rfl mRX3_77 (c_X3_winsWithin_0 l G a0 a0_firms a0_kindsTold a0_places a0_crowds a0_pipsLeft a0_notHome u9_2_points u9_2_home u9_2_men u9_2_turn u9_2_thrower u9_2_cube u9_2_owner u9_2_firms u9_2_kindsTold u9_2_places u9_2_crowds u9_2_pipsLeft u9_2_notHome i1 ((i2 - (1 : Int32)))) (mB hM hne4) rfl [0, 1, 2, 3, 4, 5, 6] [] [0, 1, 2, 3, 4, 5, 6] rfl rfl ⟨rfl, rfl, rfl⟩ rfl (w2 := fun u10 => wBD G a0 a0_firms a0_kindsTold a0_places a0_crowds a0_pipsLeft a0_notHome u10.2.1 u10.2.2.1 u10.2.2.2.1 u10.2.2.2.2.1 u10.2.2.2.2.2.1 u10.2.2.2.2.2.2.1 u10.2.2.2.2.2.2.2.1 u10.2.2.2.2.2.2.2.2.1 u10.2.2.2.2.2.2.2.2.2.1 u10.2.2.2.2.2.2.2.2.2.2.1 u10.2.2.2.2.2.2.2.2.2.2.2.1 u10.2.2.2.2.2.2.2.2.2.2.2.2.1 u10.2.2.2.2.2.2.2.2.2.2.2.2.2) (fun _ => rfl) rfl (Nat.le_of_ble_eq_true rfl) ⟨rfl, rfl⟩ ⟨Nat.le_of_ble_eq_true rfl, Nat.le_of_ble_eq_true rfl⟩ ⟨Nat.zero_le _, Nat.zero_le _⟩ hl.1 (st' := fun u10 => [.long u10.1, .long st4_1]) (fun _ => rfl) (fun u10 H locs huu10 Y => ?_)
          obtain ⟨u10_1, ⟨u10_2_points, u10_2_home, u10_2_men, u10_2_turn, u10_2_thrower, u10_2_cube, u10_2_owner, u10_2_firms, u10_2_kindsTold, u10_2_places, u10_2_crowds, u10_2_pipsLeft, u10_2_notHome⟩⟩ := u10
          replace Y : rY G A s (wBD G a0 a0_firms a0_kindsTold a0_places a0_crowds a0_pipsLeft a0_notHome u10_2_points u10_2_home u10_2_men u10_2_turn u10_2_thrower u10_2_cube u10_2_owner u10_2_firms u10_2_kindsTold u10_2_places u10_2_crowds u10_2_pipsLeft u10_2_notHome) H locs := Y
          replace hM := mS hM huu10
          show W p l e q_X3_winsWithin_1 s m args below meth c H locs 0 0 Q (F0 m 91 ls [.long u10_1, .long st4_1])
          refine r_ladd (pc' := 92) X 54 rfl rfl ?_
          refine r_lstore_n (pc' := 93) (L' := [(3, .long (st4_1 + u10_1)), (7, .int (st4_2_2_places (u6).toNatClampNeg)), (6, .int u6), (0, .ref a0), (1, .int i1), (2, .int i2), (5, .int st4_2_1)]) X hl rfl 55 rfl rfl (by decide) rfl (fun ls hl => ?_)
          refine r_aload_n (pc' := 94) X hl 3 rfl rfl 56 rfl rfl ?_
          refine r_iload (pc' := 96) X hl 2 rfl 57 rfl rfl ?_
          refine r_iload (pc' := 98) X hl 1 rfl 58 rfl rfl ?_
          refine r_callV (pc' := 101) (As := [.int u6, .int (st4_2_2_places (u6).toNatClampNeg)]) (rest := []) (wr := ([] : va_W)) X Y 59 rfl rfl mRX3_55 (c_X2_put l G a0 a0_firms a0_kindsTold a0_places a0_crowds a0_pipsLeft a0_notHome u10_2_points u10_2_home u10_2_men u10_2_turn u10_2_thrower u10_2_cube u10_2_owner u10_2_firms u10_2_kindsTold u10_2_places u10_2_crowds u10_2_pipsLeft u10_2_notHome u6 ((st4_2_2_places (u6).toNatClampNeg))) (mB hM hne4) 0 rfl rfl [0, 1, 2, 3, 4, 5, 6] [] [0, 1, 2, 3, 4, 5, 6] rfl rfl ⟨rfl, rfl, rfl⟩ rfl (w2 := fun u11 => wBD G a0 a0_firms a0_kindsTold a0_places a0_crowds a0_pipsLeft a0_notHome u11.1 u11.2.1 u11.2.2.1 u11.2.2.2.1 u11.2.2.2.2.1 u11.2.2.2.2.2.1 u11.2.2.2.2.2.2.1 u11.2.2.2.2.2.2.2.1 u11.2.2.2.2.2.2.2.2.1 u11.2.2.2.2.2.2.2.2.2.1 u11.2.2.2.2.2.2.2.2.2.2.1 u11.2.2.2.2.2.2.2.2.2.2.2.1 u11.2.2.2.2.2.2.2.2.2.2.2.2) (fun _ => rfl) rfl (Nat.le_of_ble_eq_true rfl) ⟨rfl, rfl⟩ ⟨Nat.le_of_ble_eq_true rfl, Nat.le_of_ble_eq_true rfl⟩ ⟨Nat.zero_le _, Nat.zero_le _⟩ hl.1 (st' := fun u11 => []) (fun _ => rfl) (fun u11 H locs huu11 Y => ?_)
          obtain ⟨u11_points, u11_home, u11_men, u11_turn, u11_thrower, u11_cube, u11_owner, u11_firms, u11_kindsTold, u11_places, u11_crowds, u11_pipsLeft, u11_notHome⟩ := u11
          replace Y : rY G A s (wBD G a0 a0_firms a0_kindsTold a0_places a0_crowds a0_pipsLeft a0_notHome u11_points u11_home u11_men u11_turn u11_thrower u11_cube u11_owner u11_firms u11_kindsTold u11_places u11_crowds u11_pipsLeft u11_notHome) H locs := Y
          replace hM := mS hM huu11
          show W p l e q_X3_winsWithin_1 s m args below meth c H locs 0 0 Q (F0 m 101 ls [])
          refine r_iinc (pc' := 104) (L' := [(5, .int (st4_2_1 + (1 : Int32))), (3, .long (st4_1 + u10_1)), (7, .int (st4_2_2_places (u6).toNatClampNeg)), (6, .int u6), (0, .ref a0), (1, .int i1), (2, .int i2)]) X (st4_2_1 + (1 : Int32)) hl 6 rfl rfl 60 rfl rfl (by decide) rfl (fun ls hl => ?_)
          refine r_goto X 27 61 rfl (by decide) ?_
          exact IH4 _ hM _ _ _ Y (lv_sub hl [4, 5, 6, 1, 0] rfl)
        · replace hM := mI hM c7
          refine r_lload_n (pc' := 51) X hl 4 rfl rfl 27 rfl rfl ?_
          refine r_aload_n (pc' := 52) X hl 1 rfl rfl 28 rfl rfl ?_
          refine r_iload_n (pc' := 53) X hl 2 rfl rfl 29 rfl rfl ?_
          refine r_iload_n (pc' := 54) X hl 3 rfl rfl 30 rfl rfl ?_
          refine r_iconst (pc' := 55) X (1 : Int32) 31 rfl rfl rfl ?_
          refine r_isub (pc' := 56) X 32 rfl rfl ?_
          refine r_callS (pc' := 59) (As := [.ref a0, .int i1, .int (i2 - (1 : Int32))]) (rest := [.long st4_1]) (wr := ([] : va_W)) X Y 33 rfl rfl mRX3_77 (c_X3_winsWithin_0 l G a0 a0_firms a0_kindsTold a0_places a0_crowds a0_pipsLeft a0_notHome st4_2_2_points st4_2_2_home st4_2_2_men st4_2_2_turn st4_2_2_thrower st4_2_2_cube st4_2_2_owner st4_2_2_firms st4_2_2_kindsTold st4_2_2_places st4_2_2_crowds st4_2_2_pipsLeft st4_2_2_notHome i1 ((i2 - (1 : Int32)))) (mB hM hne4) rfl [0, 1, 2, 3, 4, 5, 6] [] [0, 1, 2, 3, 4, 5, 6] rfl rfl ⟨rfl, rfl, rfl⟩ rfl (w2 := fun u12 => wBD G a0 a0_firms a0_kindsTold a0_places a0_crowds a0_pipsLeft a0_notHome u12.2.1 u12.2.2.1 u12.2.2.2.1 u12.2.2.2.2.1 u12.2.2.2.2.2.1 u12.2.2.2.2.2.2.1 u12.2.2.2.2.2.2.2.1 u12.2.2.2.2.2.2.2.2.1 u12.2.2.2.2.2.2.2.2.2.1 u12.2.2.2.2.2.2.2.2.2.2.1 u12.2.2.2.2.2.2.2.2.2.2.2.1 u12.2.2.2.2.2.2.2.2.2.2.2.2.1 u12.2.2.2.2.2.2.2.2.2.2.2.2.2) (fun _ => rfl) rfl (Nat.le_of_ble_eq_true rfl) ⟨rfl, rfl⟩ ⟨Nat.le_of_ble_eq_true rfl, Nat.le_of_ble_eq_true rfl⟩ ⟨Nat.zero_le _, Nat.zero_le _⟩ hl.1 (st' := fun u12 => [.long u12.1, .long st4_1]) (fun _ => rfl) (fun u12 H locs huu12 Y => ?_)
          obtain ⟨u12_1, ⟨u12_2_points, u12_2_home, u12_2_men, u12_2_turn, u12_2_thrower, u12_2_cube, u12_2_owner, u12_2_firms, u12_2_kindsTold, u12_2_places, u12_2_crowds, u12_2_pipsLeft, u12_2_notHome⟩⟩ := u12
          replace Y : rY G A s (wBD G a0 a0_firms a0_kindsTold a0_places a0_crowds a0_pipsLeft a0_notHome u12_2_points u12_2_home u12_2_men u12_2_turn u12_2_thrower u12_2_cube u12_2_owner u12_2_firms u12_2_kindsTold u12_2_places u12_2_crowds u12_2_pipsLeft u12_2_notHome) H locs := Y
          replace hM := mS hM huu12
          show W p l e q_X3_winsWithin_1 s m args below meth c H locs 0 0 Q (F0 m 59 ls [.long u12_1, .long st4_1])
          refine r_ladd (pc' := 60) X 34 rfl rfl ?_
          refine r_lstore_n (pc' := 61) (L' := [(3, .long (st4_1 + u12_1)), (6, .int u6), (0, .ref a0), (1, .int i1), (2, .int i2), (5, .int st4_2_1)]) X hl rfl 35 rfl rfl (by decide) rfl (fun ls hl => ?_)
          refine r_goto X 101 36 rfl (by decide) ?_
          refine r_iinc (pc' := 104) (L' := [(5, .int (st4_2_1 + (1 : Int32))), (3, .long (st4_1 + u12_1)), (6, .int u6), (0, .ref a0), (1, .int i1), (2, .int i2)]) X (st4_2_1 + (1 : Int32)) hl 5 rfl rfl 60 rfl rfl (by decide) rfl (fun ls hl => ?_)
          refine r_goto X 27 61 rfl (by decide) ?_
          exact IH4 _ hM _ _ _ Y (lv_sub hl [3, 4, 5, 1, 0] rfl)
    · replace hM := mE hM c3
      refine r_lconst (pc' := 21) X (0 : Int64) 10 rfl rfl rfl ?_
      exact RT ((0 : Int64), (S0_points, S0_home, S0_men, S0_turn, S0_thrower, S0_cube, S0_owner, S0_firms, S0_kindsTold, S0_places, S0_crowds, S0_pipsLeft, S0_notHome)) _ _ _ _ _ hM (Or.inr (Or.inr (Or.inl ⟨rfl, rfl, _, rfl⟩))) (X.d (k := 11) rfl) Y
  · replace hM := mE hM c2
    refine r_ldc2 (pc' := 11) X mw189 4 rfl rfl ?_
    refine r_iload_n (pc' := 12) X hl 2 rfl rfl 5 rfl rfl ?_
    refine r_callSN0 (pc' := 15) (As := [.long (6 : Int64), .int i2]) (rest := []) X Y 6 rfl rfl mRX3_83 (c_X7_power l G (6 : Int64) i2) (mB hM hne) rfl [] rfl rfl rfl (Nat.le_of_ble_eq_true rfl) ⟨rfl, rfl⟩ ⟨Nat.le_of_ble_eq_true rfl, Nat.le_of_ble_eq_true rfl⟩ ⟨Nat.zero_le _, Nat.zero_le _⟩ hl.1 (st' := fun u13 => [.long u13]) (fun _ => rfl) (fun u13 H locs huu13 Y => ?_)
    replace hM := mS hM huu13
    exact RT (u13, (S0_points, S0_home, S0_men, S0_turn, S0_thrower, S0_cube, S0_owner, S0_firms, S0_kindsTold, S0_places, S0_crowds, S0_pipsLeft, S0_notHome)) _ _ _ _ _ hM (Or.inr (Or.inr (Or.inl ⟨rfl, rfl, _, rfl⟩))) (X.d (k := 7) rfl) Y

def M_X3_winsWithin_2 (S0 : BD) (i1 : Int32) (i2 : Int32) : Option (Int64 × BD) :=
  ((M_X2_hasWon S0 i1).bind (fun u1 => (if u1 = 0 then (if 0 < i2 then ((lp (σ := Int64 × Int32 × BD) (β := Int64 × BD) (fun rec4 st4 => (if (6 : Int32) < st4.2.1 then (some (st4.1, st4.2.2)) else ((M_X2_chosenByRule st4.2.2 i1 st4.2.1).bind (fun u6 => (if u6 = (-1000000 : Int32) then ((M_X3_winsWithin_1 st4.2.2 i1 ((i2 - (1 : Int32)))).bind (fun u12 => (rec4 ((st4.1 + u12.1), (st4.2.1 + (1 : Int32)), u12.2)))) else (if inb u6 8 = true then ((M_X2_go st4.2.2 u6 st4.2.1).bind (fun u9 => ((M_X3_winsWithin_1 u9.2 i1 ((i2 - (1 : Int32)))).bind (fun u10 => ((M_X2_put u10.2 u6 (((bd_places st4.2.2) (u6).toNatClampNeg))).bind (fun u11 => (rec4 ((st4.1 + u10.1), (st4.2.1 + (1 : Int32)), u11)))))))) else none)))))) 1000000 ((0 : Int64), (1 : Int32), S0)).bind (fun b4 => (some (b4.1, b4.2)))) else (some ((0 : Int64), S0))) else ((M_X7_power (6 : Int64) i2).bind (fun u13 => (some (u13, S0)))))))
def q_X3_winsWithin_2 : Room := { frames := 7, cells := 0, slots := 0, locals := 212 }
set_option maxHeartbeats 4000000 in
set_option maxRecDepth 100000 in
theorem c_X3_winsWithin_2 (l : Launch) (G : gT) (a0 a0_firms a0_kindsTold a0_places a0_crowds a0_pipsLeft a0_notHome : Nat) (S0_points : Int32) (S0_home : Int32) (S0_men : Int32) (S0_turn : Int32) (S0_thrower : Int32) (S0_cube : Int32) (S0_owner : Int32) (S0_firms : Nat → Int32) (S0_kindsTold : Nat → Int32) (S0_places : Nat → Int32) (S0_crowds : Nat → Int32) (S0_pipsLeft : Nat → Int32) (S0_notHome : Nat → Int32) (i1 : Int32) (i2 : Int32) : CT l G yX3_winsWithin cX3_winsWithin 8 (some .long) q_X3_winsWithin_2 [.ref a0, .int i1, .int i2] (wBD G a0 a0_firms a0_kindsTold a0_places a0_crowds a0_pipsLeft a0_notHome S0_points S0_home S0_men S0_turn S0_thrower S0_cube S0_owner S0_firms S0_kindsTold S0_places S0_crowds S0_pipsLeft S0_notHome) (M_X3_winsWithin_2 (S0_points, S0_home, S0_men, S0_turn, S0_thrower, S0_cube, S0_owner, S0_firms, S0_kindsTold, S0_places, S0_crowds, S0_pipsLeft, S0_notHome) i1 i2) (fun u => some (.long u.1)) (fun u => wBD G a0 a0_firms a0_kindsTold a0_places a0_crowds a0_pipsLeft a0_notHome u.2.1 u.2.2.1 u.2.2.2.1 u.2.2.2.2.1 u.2.2.2.2.2.1 u.2.2.2.2.2.2.1 u.2.2.2.2.2.2.2.1 u.2.2.2.2.2.2.2.2.1 u.2.2.2.2.2.2.2.2.2.1 u.2.2.2.2.2.2.2.2.2.2.1 u.2.2.2.2.2.2.2.2.2.2.2.1 u.2.2.2.2.2.2.2.2.2.2.2.2.1 u.2.2.2.2.2.2.2.2.2.2.2.2.2) := by
  refine CT.of (P := PX3_winsWithin) (by decide) dPX3_winsWithin (Nat.le_of_ble_eq_true rfl) ?_
  intro p e s m args below meth c A Q ls hne X RT Y hl
  have hl : lv_has ls 8 [(0, .ref a0), (1, .int i1), (2, .int i2)] := hl
  generalize hM : M_X3_winsWithin_2 (S0_points, S0_home, S0_men, S0_turn, S0_thrower, S0_cube, S0_owner, S0_firms, S0_kindsTold, S0_places, S0_crowds, S0_pipsLeft, S0_notHome) i1 i2 = MM at hne RT
  unfold M_X3_winsWithin_2 at hM
  refine r_aload_n (pc' := 1) X hl 0 rfl rfl 0 rfl rfl ?_
  refine r_iload_n (pc' := 2) X hl 1 rfl rfl 1 rfl rfl ?_
  refine r_callV0 (pc' := 5) (As := [.int i1]) (rest := []) X Y 2 rfl rfl mRX3_70 (c_X2_hasWon l G a0 a0_firms a0_kindsTold a0_places a0_crowds a0_pipsLeft a0_notHome S0_points S0_home S0_men S0_turn S0_thrower S0_cube S0_owner S0_firms S0_kindsTold S0_places S0_crowds S0_pipsLeft S0_notHome i1) (mB hM hne) 0 rfl rfl [0, 1, 2, 3, 4, 5, 6] rfl rfl rfl (Nat.le_of_ble_eq_true rfl) ⟨rfl, rfl⟩ ⟨Nat.le_of_ble_eq_true rfl, Nat.le_of_ble_eq_true rfl⟩ ⟨Nat.zero_le _, Nat.zero_le _⟩ hl.1 (st' := fun u1 => [.int u1]) (fun _ => rfl) (fun u1 H locs huu1 Y => ?_)
  replace hM := mS hM huu1
  refine r_if_eq (pc' := 8) X 16 3 rfl rfl (by decide) (fun c2 => ?_) (fun c2 => ?_)
  · replace hM := mI hM c2
    refine r_iload_n (pc' := 17) X hl 2 rfl rfl 8 rfl rfl ?_
    refine r_if_gt (pc' := 20) X 22 9 rfl rfl (by decide) (fun c3 => ?_) (fun c3 => ?_)
    · replace hM := mI hM c3
      refine r_lconst (pc' := 23) X (0 : Int64) 12 rfl rfl rfl ?_
      refine r_lstore_n (pc' := 24) (L' := [(3, .long (0 : Int64)), (0, .ref a0), (1, .int i1), (2, .int i2)]) X hl rfl 13 rfl rfl (by decide) rfl (fun ls hl => ?_)
      refine r_iconst (pc' := 25) X (1 : Int32) 14 rfl rfl rfl ?_
      refine r_istore (pc' := 27) (L' := [(5, .int (1 : Int32)), (3, .long (0 : Int64)), (0, .ref a0), (1, .int i1), (2, .int i2)]) X hl 15 rfl rfl (by decide) rfl (fun ls hl => ?_)
      obtain ⟨LL4, hL4, hne4, hX4⟩ := mL hM hne
      have KX4 : ∀ (b4_1 : Int64) (b4_2_points : Int32) (b4_2_home : Int32) (b4_2_men : Int32) (b4_2_turn : Int32) (b4_2_thrower : Int32) (b4_2_cube : Int32) (b4_2_owner : Int32) (b4_2_firms : Nat → Int32) (b4_2_kindsTold : Nat → Int32) (b4_2_places : Nat → Int32) (b4_2_crowds : Nat → Int32) (b4_2_pipsLeft : Nat → Int32) (b4_2_notHome : Nat → Int32) (H : Heap) (locs : List Loc) (ls : Array Slot), some (b4_1, (b4_2_points, b4_2_home, b4_2_men, b4_2_turn, b4_2_thrower, b4_2_cube, b4_2_owner, b4_2_firms, b4_2_kindsTold, b4_2_places, b4_2_crowds, b4_2_pipsLeft, b4_2_notHome)) = LL4 → rY G A s (wBD G a0 a0_firms a0_kindsTold a0_places a0_crowds a0_pipsLeft a0_notHome b4_2_points b4_2_home b4_2_men b4_2_turn b4_2_thrower b4_2_cube b4_2_owner b4_2_firms b4_2_kindsTold b4_2_places b4_2_crowds b4_2_pipsLeft b4_2_notHome) H locs → lv_has ls 8 [(3, .long b4_1)] → W p l e q_X3_winsWithin_2 s m args below meth c H locs 0 0 Q (F0 m 107 ls []) := by
        intro b4_1 b4_2_points b4_2_home b4_2_men b4_2_turn b4_2_thrower b4_2_cube b4_2_owner b4_2_firms b4_2_kindsTold b4_2_places b4_2_crowds b4_2_pipsLeft b4_2_notHome H locs ls hM Y hl
        replace hM := hX4 _ hM
        refine r_lload_n (pc' := 108) X hl 0 rfl rfl 62 rfl rfl ?_
        exact RT (b4_1, (b4_2_points, b4_2_home, b4_2_men, b4_2_turn, b4_2_thrower, b4_2_cube, b4_2_owner, b4_2_firms, b4_2_kindsTold, b4_2_places, b4_2_crowds, b4_2_pipsLeft, b4_2_notHome)) _ _ _ _ _ hM (Or.inr (Or.inr (Or.inl ⟨rfl, rfl, _, rfl⟩))) (X.d (k := 63) rfl) Y
      refine lp_rule (I := fun (st4 : Int64 × Int32 × BD) => ∀ (H : Heap) (locs : List Loc) (ls : Array Slot), rY G A s (wBD G a0 a0_firms a0_kindsTold a0_places a0_crowds a0_pipsLeft a0_notHome st4.2.2.1 st4.2.2.2.1 st4.2.2.2.2.1 st4.2.2.2.2.2.1 st4.2.2.2.2.2.2.1 st4.2.2.2.2.2.2.2.1 st4.2.2.2.2.2.2.2.2.1 st4.2.2.2.2.2.2.2.2.2.1 st4.2.2.2.2.2.2.2.2.2.2.1 st4.2.2.2.2.2.2.2.2.2.2.2.1 st4.2.2.2.2.2.2.2.2.2.2.2.2.1 st4.2.2.2.2.2.2.2.2.2.2.2.2.2.1 st4.2.2.2.2.2.2.2.2.2.2.2.2.2.2) H locs → lv_has ls 8 [(0, .ref a0), (1, .int i1), (2, .int i2), (3, .long st4.1), (5, .int st4.2.1)] → W p l e q_X3_winsWithin_2 s m args below meth c H locs 0 0 Q (F0 m 27 ls [])) hne4 (fun rec4 st4 IH4 hM => ?_) _ _ hL4 _ _ _ Y (lv_sub hl [2, 3, 4, 1, 0] rfl)
      intro H locs ls Y hl
      obtain ⟨st4_1, st4_2_1, ⟨st4_2_2_points, st4_2_2_home, st4_2_2_men, st4_2_2_turn, st4_2_2_thrower, st4_2_2_cube, st4_2_2_owner, st4_2_2_firms, st4_2_2_kindsTold, st4_2_2_places, st4_2_2_crowds, st4_2_2_pipsLeft, st4_2_2_notHome⟩⟩ := st4
      replace Y : rY G A s (wBD G a0 a0_firms a0_kindsTold a0_places a0_crowds a0_pipsLeft a0_notHome st4_2_2_points st4_2_2_home st4_2_2_men st4_2_2_turn st4_2_2_thrower st4_2_2_cube st4_2_2_owner st4_2_2_firms st4_2_2_kindsTold st4_2_2_places st4_2_2_crowds st4_2_2_pipsLeft st4_2_2_notHome) H locs := Y
      replace hl : lv_has ls 8 [(0, .ref a0), (1, .int i1), (2, .int i2), (3, .long st4_1), (5, .int st4_2_1)] := hl
      refine r_iload (pc' := 29) X hl 4 rfl 16 rfl rfl ?_
      refine r_bipush (pc' := 31) X (6 : Int32) 17 rfl rfl rfl ?_
      refine r_icmp_gt (pc' := 34) X 107 18 rfl rfl (by decide) (fun c5 => ?_) (fun c5 => ?_)
      · replace hM := mI hM c5
        exact KX4 st4_1 st4_2_2_points st4_2_2_home st4_2_2_men st4_2_2_turn st4_2_2_thrower st4_2_2_cube st4_2_2_owner st4_2_2_firms st4_2_2_kindsTold st4_2_2_places st4_2_2_crowds st4_2_2_pipsLeft st4_2_2_notHome _ _ _ hM Y (lv_sub hl [3] rfl)
      · replace hM := mE hM c5
        refine r_aload_n (pc' := 35) X hl 0 rfl rfl 19 rfl rfl ?_
        refine r_iload_n (pc' := 36) X hl 1 rfl rfl 20 rfl rfl ?_
        refine r_iload (pc' := 38) X hl 4 rfl 21 rfl rfl ?_
        refine r_callV0 (pc' := 41) (As := [.int i1, .int st4_2_1]) (rest := []) X Y 22 rfl rfl mRX3_74 (c_X2_chosenByRule l G a0 a0_firms a0_kindsTold a0_places a0_crowds a0_pipsLeft a0_notHome st4_2_2_points st4_2_2_home st4_2_2_men st4_2_2_turn st4_2_2_thrower st4_2_2_cube st4_2_2_owner st4_2_2_firms st4_2_2_kindsTold st4_2_2_places st4_2_2_crowds st4_2_2_pipsLeft st4_2_2_notHome i1 st4_2_1) (mB hM hne4) 0 rfl rfl [0, 1, 2, 3, 4, 5, 6] rfl rfl rfl (Nat.le_of_ble_eq_true rfl) ⟨rfl, rfl⟩ ⟨Nat.le_of_ble_eq_true rfl, Nat.le_of_ble_eq_true rfl⟩ ⟨Nat.zero_le _, Nat.zero_le _⟩ hl.1 (st' := fun u6 => [.int u6]) (fun _ => rfl) (fun u6 H locs huu6 Y => ?_)
        replace hM := mS hM huu6
        refine r_istore (pc' := 43) (L' := [(6, .int u6), (0, .ref a0), (1, .int i1), (2, .int i2), (3, .long st4_1), (5, .int st4_2_1)]) X hl 23 rfl rfl (by decide) rfl (fun ls hl => ?_)
        refine r_iload (pc' := 45) X hl 0 rfl 24 rfl rfl ?_
        refine r_ldc (pc' := 47) X mw154 25 rfl rfl ?_
        refine r_icmp_ne (pc' := 50) X 64 26 rfl rfl (by decide) (fun c7 => ?_) (fun c7 => ?_)
        · replace hM := mE hM c7
          refine r_aload_n (pc' := 65) X hl 1 rfl rfl 37 rfl rfl ?_
          refine r_getN (pc' := 68) (v := .ref a0_places) X Y 38 rfl rfl fRX3_49 0 rfl rfl ?_
          refine r_iload (pc' := 70) X hl 0 rfl 39 rfl rfl ?_
          obtain ⟨g8, hM⟩ := mG hM hne4
          refine r_iald (pc' := 71) X Y 40 rfl rfl 3 rfl (vin g8) ?_
          refine r_istore (pc' := 73) (L' := [(7, .int (st4_2_2_places (u6).toNatClampNeg)), (6, .int u6), (0, .ref a0), (1, .int i1), (2, .int i2), (3, .long st4_1), (5, .int st4_2_1)]) X hl 41 rfl rfl (by decide) rfl (fun ls hl => ?_)
          refine r_aload_n (pc' := 74) X hl 2 rfl rfl 42 rfl rfl ?_
          refine r_iload (pc' := 76) X hl 1 rfl 43 rfl rfl ?_
          refine r_iload (pc' := 78) X hl 6 rfl 44 rfl rfl ?_
          refine r_callV (pc' := 81) (As := [.int u6, .int st4_2_1]) (rest := []) (wr := ([] : va_W)) X Y 45 rfl rfl mRX3_52 (c_X2_go l G a0 a0_firms a0_kindsTold a0_places a0_crowds a0_pipsLeft a0_notHome st4_2_2_points st4_2_2_home st4_2_2_men st4_2_2_turn st4_2_2_thrower st4_2_2_cube st4_2_2_owner st4_2_2_firms st4_2_2_kindsTold st4_2_2_places st4_2_2_crowds st4_2_2_pipsLeft st4_2_2_notHome u6 st4_2_1) (mB hM hne4) 0 rfl rfl [0, 1, 2, 3, 4, 5, 6] [] [0, 1, 2, 3, 4, 5, 6] rfl rfl ⟨rfl, rfl, rfl⟩ rfl (w2 := fun u9 => wBD G a0 a0_firms a0_kindsTold a0_places a0_crowds a0_pipsLeft a0_notHome u9.2.1 u9.2.2.1 u9.2.2.2.1 u9.2.2.2.2.1 u9.2.2.2.2.2.1 u9.2.2.2.2.2.2.1 u9.2.2.2.2.2.2.2.1 u9.2.2.2.2.2.2.2.2.1 u9.2.2.2.2.2.2.2.2.2.1 u9.2.2.2.2.2.2.2.2.2.2.1 u9.2.2.2.2.2.2.2.2.2.2.2.1 u9.2.2.2.2.2.2.2.2.2.2.2.2.1 u9.2.2.2.2.2.2.2.2.2.2.2.2.2) (fun _ => rfl) rfl (Nat.le_of_ble_eq_true rfl) ⟨rfl, rfl⟩ ⟨Nat.le_of_ble_eq_true rfl, Nat.le_of_ble_eq_true rfl⟩ ⟨Nat.zero_le _, Nat.zero_le _⟩ hl.1 (st' := fun u9 => [.int u9.1]) (fun _ => rfl) (fun u9 H locs huu9 Y => ?_)
          obtain ⟨u9_1, ⟨u9_2_points, u9_2_home, u9_2_men, u9_2_turn, u9_2_thrower, u9_2_cube, u9_2_owner, u9_2_firms, u9_2_kindsTold, u9_2_places, u9_2_crowds, u9_2_pipsLeft, u9_2_notHome⟩⟩ := u9
          replace Y : rY G A s (wBD G a0 a0_firms a0_kindsTold a0_places a0_crowds a0_pipsLeft a0_notHome u9_2_points u9_2_home u9_2_men u9_2_turn u9_2_thrower u9_2_cube u9_2_owner u9_2_firms u9_2_kindsTold u9_2_places u9_2_crowds u9_2_pipsLeft u9_2_notHome) H locs := Y
          replace hM := mS hM huu9
          show W p l e q_X3_winsWithin_2 s m args below meth c H locs 0 0 Q (F0 m 81 ls [.int u9_1])
          refine r_pop (pc' := 82) X 46 rfl rfl rfl ?_
          refine r_lload_n (pc' := 83) X hl 5 rfl rfl 47 rfl rfl ?_
          refine r_aload_n (pc' := 84) X hl 2 rfl rfl 48 rfl rfl ?_
          refine r_iload_n (pc' := 85) X hl 3 rfl rfl 49 rfl rfl ?_
          refine r_iload_n (pc' := 86) X hl 4 rfl rfl 50 rfl rfl ?_
          refine r_iconst (pc' := 87) X (1 : Int32) 51 rfl rfl rfl ?_
          refine r_isub (pc' := 88) X 52 rfl rfl ?_
          refine r_callS (pc' := 91) (As := [.ref a0, .int i1, .int (i2 - (1 : Int32))]) (rest := [.long st4_1]) (wr := ([] : va_W)) X Y 53 rfl rfl mRX3_77 (c_X3_winsWithin_1 l G a0 a0_firms a0_kindsTold a0_places a0_crowds a0_pipsLeft a0_notHome u9_2_points u9_2_home u9_2_men u9_2_turn u9_2_thrower u9_2_cube u9_2_owner u9_2_firms u9_2_kindsTold u9_2_places u9_2_crowds u9_2_pipsLeft u9_2_notHome i1 ((i2 - (1 : Int32)))) (mB hM hne4) rfl [0, 1, 2, 3, 4, 5, 6] [] [0, 1, 2, 3, 4, 5, 6] rfl rfl ⟨rfl, rfl, rfl⟩ rfl (w2 := fun u10 => wBD G a0 a0_firms a0_kindsTold a0_places a0_crowds a0_pipsLeft a0_notHome u10.2.1 u10.2.2.1 u10.2.2.2.1 u10.2.2.2.2.1 u10.2.2.2.2.2.1 u10.2.2.2.2.2.2.1 u10.2.2.2.2.2.2.2.1 u10.2.2.2.2.2.2.2.2.1 u10.2.2.2.2.2.2.2.2.2.1 u10.2.2.2.2.2.2.2.2.2.2.1 u10.2.2.2.2.2.2.2.2.2.2.2.1 u10.2.2.2.2.2.2.2.2.2.2.2.2.1 u10.2.2.2.2.2.2.2.2.2.2.2.2.2) (fun _ => rfl) rfl (Nat.le_of_ble_eq_true rfl) ⟨rfl, rfl⟩ ⟨Nat.le_of_ble_eq_true rfl, Nat.le_of_ble_eq_true rfl⟩ ⟨Nat.zero_le _, Nat.zero_le _⟩ hl.1 (st' := fun u10 => [.long u10.1, .long st4_1]) (fun _ => rfl) (fun u10 H locs huu10 Y => ?_)
          obtain ⟨u10_1, ⟨u10_2_points, u10_2_home, u10_2_men, u10_2_turn, u10_2_thrower, u10_2_cube, u10_2_owner, u10_2_firms, u10_2_kindsTold, u10_2_places, u10_2_crowds, u10_2_pipsLeft, u10_2_notHome⟩⟩ := u10
          replace Y : rY G A s (wBD G a0 a0_firms a0_kindsTold a0_places a0_crowds a0_pipsLeft a0_notHome u10_2_points u10_2_home u10_2_men u10_2_turn u10_2_thrower u10_2_cube u10_2_owner u10_2_firms u10_2_kindsTold u10_2_places u10_2_crowds u10_2_pipsLeft u10_2_notHome) H locs := Y
          replace hM := mS hM huu10
          show W p l e q_X3_winsWithin_2 s m args below meth c H locs 0 0 Q (F0 m 91 ls [.long u10_1, .long st4_1])
          refine r_ladd (pc' := 92) X 54 rfl rfl ?_
          refine r_lstore_n (pc' := 93) (L' := [(3, .long (st4_1 + u10_1)), (7, .int (st4_2_2_places (u6).toNatClampNeg)), (6, .int u6), (0, .ref a0), (1, .int i1), (2, .int i2), (5, .int st4_2_1)]) X hl rfl 55 rfl rfl (by decide) rfl (fun ls hl => ?_)
          refine r_aload_n (pc' := 94) X hl 3 rfl rfl 56 rfl rfl ?_
          refine r_iload (pc' := 96) X hl 2 rfl 57 rfl rfl ?_
          refine r_iload (pc' := 98) X hl 1 rfl 58 rfl rfl ?_
          refine r_callV (pc' := 101) (As := [.int u6, .int (st4_2_2_places (u6).toNatClampNeg)]) (rest := []) (wr := ([] : va_W)) X Y 59 rfl rfl mRX3_55 (c_X2_put l G a0 a0_firms a0_kindsTold a0_places a0_crowds a0_pipsLeft a0_notHome u10_2_points u10_2_home u10_2_men u10_2_turn u10_2_thrower u10_2_cube u10_2_owner u10_2_firms u10_2_kindsTold u10_2_places u10_2_crowds u10_2_pipsLeft u10_2_notHome u6 ((st4_2_2_places (u6).toNatClampNeg))) (mB hM hne4) 0 rfl rfl [0, 1, 2, 3, 4, 5, 6] [] [0, 1, 2, 3, 4, 5, 6] rfl rfl ⟨rfl, rfl, rfl⟩ rfl (w2 := fun u11 => wBD G a0 a0_firms a0_kindsTold a0_places a0_crowds a0_pipsLeft a0_notHome u11.1 u11.2.1 u11.2.2.1 u11.2.2.2.1 u11.2.2.2.2.1 u11.2.2.2.2.2.1 u11.2.2.2.2.2.2.1 u11.2.2.2.2.2.2.2.1 u11.2.2.2.2.2.2.2.2.1 u11.2.2.2.2.2.2.2.2.2.1 u11.2.2.2.2.2.2.2.2.2.2.1 u11.2.2.2.2.2.2.2.2.2.2.2.1 u11.2.2.2.2.2.2.2.2.2.2.2.2) (fun _ => rfl) rfl (Nat.le_of_ble_eq_true rfl) ⟨rfl, rfl⟩ ⟨Nat.le_of_ble_eq_true rfl, Nat.le_of_ble_eq_true rfl⟩ ⟨Nat.zero_le _, Nat.zero_le _⟩ hl.1 (st' := fun u11 => []) (fun _ => rfl) (fun u11 H locs huu11 Y => ?_)
          obtain ⟨u11_points, u11_home, u11_men, u11_turn, u11_thrower, u11_cube, u11_owner, u11_firms, u11_kindsTold, u11_places, u11_crowds, u11_pipsLeft, u11_notHome⟩ := u11
          replace Y : rY G A s (wBD G a0 a0_firms a0_kindsTold a0_places a0_crowds a0_pipsLeft a0_notHome u11_points u11_home u11_men u11_turn u11_thrower u11_cube u11_owner u11_firms u11_kindsTold u11_places u11_crowds u11_pipsLeft u11_notHome) H locs := Y
          replace hM := mS hM huu11
          show W p l e q_X3_winsWithin_2 s m args below meth c H locs 0 0 Q (F0 m 101 ls [])
          refine r_iinc (pc' := 104) (L' := [(5, .int (st4_2_1 + (1 : Int32))), (3, .long (st4_1 + u10_1)), (7, .int (st4_2_2_places (u6).toNatClampNeg)), (6, .int u6), (0, .ref a0), (1, .int i1), (2, .int i2)]) X (st4_2_1 + (1 : Int32)) hl 6 rfl rfl 60 rfl rfl (by decide) rfl (fun ls hl => ?_)
          refine r_goto X 27 61 rfl (by decide) ?_
          exact IH4 _ hM _ _ _ Y (lv_sub hl [4, 5, 6, 1, 0] rfl)
        · replace hM := mI hM c7
          refine r_lload_n (pc' := 51) X hl 4 rfl rfl 27 rfl rfl ?_
          refine r_aload_n (pc' := 52) X hl 1 rfl rfl 28 rfl rfl ?_
          refine r_iload_n (pc' := 53) X hl 2 rfl rfl 29 rfl rfl ?_
          refine r_iload_n (pc' := 54) X hl 3 rfl rfl 30 rfl rfl ?_
          refine r_iconst (pc' := 55) X (1 : Int32) 31 rfl rfl rfl ?_
          refine r_isub (pc' := 56) X 32 rfl rfl ?_
          refine r_callS (pc' := 59) (As := [.ref a0, .int i1, .int (i2 - (1 : Int32))]) (rest := [.long st4_1]) (wr := ([] : va_W)) X Y 33 rfl rfl mRX3_77 (c_X3_winsWithin_1 l G a0 a0_firms a0_kindsTold a0_places a0_crowds a0_pipsLeft a0_notHome st4_2_2_points st4_2_2_home st4_2_2_men st4_2_2_turn st4_2_2_thrower st4_2_2_cube st4_2_2_owner st4_2_2_firms st4_2_2_kindsTold st4_2_2_places st4_2_2_crowds st4_2_2_pipsLeft st4_2_2_notHome i1 ((i2 - (1 : Int32)))) (mB hM hne4) rfl [0, 1, 2, 3, 4, 5, 6] [] [0, 1, 2, 3, 4, 5, 6] rfl rfl ⟨rfl, rfl, rfl⟩ rfl (w2 := fun u12 => wBD G a0 a0_firms a0_kindsTold a0_places a0_crowds a0_pipsLeft a0_notHome u12.2.1 u12.2.2.1 u12.2.2.2.1 u12.2.2.2.2.1 u12.2.2.2.2.2.1 u12.2.2.2.2.2.2.1 u12.2.2.2.2.2.2.2.1 u12.2.2.2.2.2.2.2.2.1 u12.2.2.2.2.2.2.2.2.2.1 u12.2.2.2.2.2.2.2.2.2.2.1 u12.2.2.2.2.2.2.2.2.2.2.2.1 u12.2.2.2.2.2.2.2.2.2.2.2.2.1 u12.2.2.2.2.2.2.2.2.2.2.2.2.2) (fun _ => rfl) rfl (Nat.le_of_ble_eq_true rfl) ⟨rfl, rfl⟩ ⟨Nat.le_of_ble_eq_true rfl, Nat.le_of_ble_eq_true rfl⟩ ⟨Nat.zero_le _, Nat.zero_le _⟩ hl.1 (st' := fun u12 => [.long u12.1, .long st4_1]) (fun _ => rfl) (fun u12 H locs huu12 Y => ?_)
          obtain ⟨u12_1, ⟨u12_2_points, u12_2_home, u12_2_men, u12_2_turn, u12_2_thrower, u12_2_cube, u12_2_owner, u12_2_firms, u12_2_kindsTold, u12_2_places, u12_2_crowds, u12_2_pipsLeft, u12_2_notHome⟩⟩ := u12
          replace Y : rY G A s (wBD G a0 a0_firms a0_kindsTold a0_places a0_crowds a0_pipsLeft a0_notHome u12_2_points u12_2_home u12_2_men u12_2_turn u12_2_thrower u12_2_cube u12_2_owner u12_2_firms u12_2_kindsTold u12_2_places u12_2_crowds u12_2_pipsLeft u12_2_notHome) H locs := Y
          replace hM := mS hM huu12
          show W p l e q_X3_winsWithin_2 s m args below meth c H locs 0 0 Q (F0 m 59 ls [.long u12_1, .long st4_1])
          refine r_ladd (pc' := 60) X 34 rfl rfl ?_
          refine r_lstore_n (pc' := 61) (L' := [(3, .long (st4_1 + u12_1)), (6, .int u6), (0, .ref a0), (1, .int i1), (2, .int i2), (5, .int st4_2_1)]) X hl rfl 35 rfl rfl (by decide) rfl (fun ls hl => ?_)
          refine r_goto X 101 36 rfl (by decide) ?_
          refine r_iinc (pc' := 104) (L' := [(5, .int (st4_2_1 + (1 : Int32))), (3, .long (st4_1 + u12_1)), (6, .int u6), (0, .ref a0), (1, .int i1), (2, .int i2)]) X (st4_2_1 + (1 : Int32)) hl 5 rfl rfl 60 rfl rfl (by decide) rfl (fun ls hl => ?_)
          refine r_goto X 27 61 rfl (by decide) ?_
          exact IH4 _ hM _ _ _ Y (lv_sub hl [3, 4, 5, 1, 0] rfl)
    · replace hM := mE hM c3
      refine r_lconst (pc' := 21) X (0 : Int64) 10 rfl rfl rfl ?_
      exact RT ((0 : Int64), (S0_points, S0_home, S0_men, S0_turn, S0_thrower, S0_cube, S0_owner, S0_firms, S0_kindsTold, S0_places, S0_crowds, S0_pipsLeft, S0_notHome)) _ _ _ _ _ hM (Or.inr (Or.inr (Or.inl ⟨rfl, rfl, _, rfl⟩))) (X.d (k := 11) rfl) Y
  · replace hM := mE hM c2
    refine r_ldc2 (pc' := 11) X mw189 4 rfl rfl ?_
    refine r_iload_n (pc' := 12) X hl 2 rfl rfl 5 rfl rfl ?_
    refine r_callSN0 (pc' := 15) (As := [.long (6 : Int64), .int i2]) (rest := []) X Y 6 rfl rfl mRX3_83 (c_X7_power l G (6 : Int64) i2) (mB hM hne) rfl [] rfl rfl rfl (Nat.le_of_ble_eq_true rfl) ⟨rfl, rfl⟩ ⟨Nat.le_of_ble_eq_true rfl, Nat.le_of_ble_eq_true rfl⟩ ⟨Nat.zero_le _, Nat.zero_le _⟩ hl.1 (st' := fun u13 => [.long u13]) (fun _ => rfl) (fun u13 H locs huu13 Y => ?_)
    replace hM := mS hM huu13
    exact RT (u13, (S0_points, S0_home, S0_men, S0_turn, S0_thrower, S0_cube, S0_owner, S0_firms, S0_kindsTold, S0_places, S0_crowds, S0_pipsLeft, S0_notHome)) _ _ _ _ _ hM (Or.inr (Or.inr (Or.inl ⟨rfl, rfl, _, rfl⟩))) (X.d (k := 7) rfl) Y

def M_X3_winsWithin_3 (S0 : BD) (i1 : Int32) (i2 : Int32) : Option (Int64 × BD) :=
  ((M_X2_hasWon S0 i1).bind (fun u1 => (if u1 = 0 then (if 0 < i2 then ((lp (σ := Int64 × Int32 × BD) (β := Int64 × BD) (fun rec4 st4 => (if (6 : Int32) < st4.2.1 then (some (st4.1, st4.2.2)) else ((M_X2_chosenByRule st4.2.2 i1 st4.2.1).bind (fun u6 => (if u6 = (-1000000 : Int32) then ((M_X3_winsWithin_2 st4.2.2 i1 ((i2 - (1 : Int32)))).bind (fun u12 => (rec4 ((st4.1 + u12.1), (st4.2.1 + (1 : Int32)), u12.2)))) else (if inb u6 8 = true then ((M_X2_go st4.2.2 u6 st4.2.1).bind (fun u9 => ((M_X3_winsWithin_2 u9.2 i1 ((i2 - (1 : Int32)))).bind (fun u10 => ((M_X2_put u10.2 u6 (((bd_places st4.2.2) (u6).toNatClampNeg))).bind (fun u11 => (rec4 ((st4.1 + u10.1), (st4.2.1 + (1 : Int32)), u11)))))))) else none)))))) 1000000 ((0 : Int64), (1 : Int32), S0)).bind (fun b4 => (some (b4.1, b4.2)))) else (some ((0 : Int64), S0))) else ((M_X7_power (6 : Int64) i2).bind (fun u13 => (some (u13, S0)))))))
def q_X3_winsWithin_3 : Room := { frames := 8, cells := 0, slots := 0, locals := 239 }
set_option maxHeartbeats 4000000 in
set_option maxRecDepth 100000 in
theorem c_X3_winsWithin_3 (l : Launch) (G : gT) (a0 a0_firms a0_kindsTold a0_places a0_crowds a0_pipsLeft a0_notHome : Nat) (S0_points : Int32) (S0_home : Int32) (S0_men : Int32) (S0_turn : Int32) (S0_thrower : Int32) (S0_cube : Int32) (S0_owner : Int32) (S0_firms : Nat → Int32) (S0_kindsTold : Nat → Int32) (S0_places : Nat → Int32) (S0_crowds : Nat → Int32) (S0_pipsLeft : Nat → Int32) (S0_notHome : Nat → Int32) (i1 : Int32) (i2 : Int32) : CT l G yX3_winsWithin cX3_winsWithin 8 (some .long) q_X3_winsWithin_3 [.ref a0, .int i1, .int i2] (wBD G a0 a0_firms a0_kindsTold a0_places a0_crowds a0_pipsLeft a0_notHome S0_points S0_home S0_men S0_turn S0_thrower S0_cube S0_owner S0_firms S0_kindsTold S0_places S0_crowds S0_pipsLeft S0_notHome) (M_X3_winsWithin_3 (S0_points, S0_home, S0_men, S0_turn, S0_thrower, S0_cube, S0_owner, S0_firms, S0_kindsTold, S0_places, S0_crowds, S0_pipsLeft, S0_notHome) i1 i2) (fun u => some (.long u.1)) (fun u => wBD G a0 a0_firms a0_kindsTold a0_places a0_crowds a0_pipsLeft a0_notHome u.2.1 u.2.2.1 u.2.2.2.1 u.2.2.2.2.1 u.2.2.2.2.2.1 u.2.2.2.2.2.2.1 u.2.2.2.2.2.2.2.1 u.2.2.2.2.2.2.2.2.1 u.2.2.2.2.2.2.2.2.2.1 u.2.2.2.2.2.2.2.2.2.2.1 u.2.2.2.2.2.2.2.2.2.2.2.1 u.2.2.2.2.2.2.2.2.2.2.2.2.1 u.2.2.2.2.2.2.2.2.2.2.2.2.2) := by
  refine CT.of (P := PX3_winsWithin) (by decide) dPX3_winsWithin (Nat.le_of_ble_eq_true rfl) ?_
  intro p e s m args below meth c A Q ls hne X RT Y hl
  have hl : lv_has ls 8 [(0, .ref a0), (1, .int i1), (2, .int i2)] := hl
  generalize hM : M_X3_winsWithin_3 (S0_points, S0_home, S0_men, S0_turn, S0_thrower, S0_cube, S0_owner, S0_firms, S0_kindsTold, S0_places, S0_crowds, S0_pipsLeft, S0_notHome) i1 i2 = MM at hne RT
  unfold M_X3_winsWithin_3 at hM
  refine r_aload_n (pc' := 1) X hl 0 rfl rfl 0 rfl rfl ?_
  refine r_iload_n (pc' := 2) X hl 1 rfl rfl 1 rfl rfl ?_
  refine r_callV0 (pc' := 5) (As := [.int i1]) (rest := []) X Y 2 rfl rfl mRX3_70 (c_X2_hasWon l G a0 a0_firms a0_kindsTold a0_places a0_crowds a0_pipsLeft a0_notHome S0_points S0_home S0_men S0_turn S0_thrower S0_cube S0_owner S0_firms S0_kindsTold S0_places S0_crowds S0_pipsLeft S0_notHome i1) (mB hM hne) 0 rfl rfl [0, 1, 2, 3, 4, 5, 6] rfl rfl rfl (Nat.le_of_ble_eq_true rfl) ⟨rfl, rfl⟩ ⟨Nat.le_of_ble_eq_true rfl, Nat.le_of_ble_eq_true rfl⟩ ⟨Nat.zero_le _, Nat.zero_le _⟩ hl.1 (st' := fun u1 => [.int u1]) (fun _ => rfl) (fun u1 H locs huu1 Y => ?_)
  replace hM := mS hM huu1
  refine r_if_eq (pc' := 8) X 16 3 rfl rfl (by decide) (fun c2 => ?_) (fun c2 => ?_)
  · replace hM := mI hM c2
    refine r_iload_n (pc' := 17) X hl 2 rfl rfl 8 rfl rfl ?_
    refine r_if_gt (pc' := 20) X 22 9 rfl rfl (by decide) (fun c3 => ?_) (fun c3 => ?_)
    · replace hM := mI hM c3
      refine r_lconst (pc' := 23) X (0 : Int64) 12 rfl rfl rfl ?_
      refine r_lstore_n (pc' := 24) (L' := [(3, .long (0 : Int64)), (0, .ref a0), (1, .int i1), (2, .int i2)]) X hl rfl 13 rfl rfl (by decide) rfl (fun ls hl => ?_)
      refine r_iconst (pc' := 25) X (1 : Int32) 14 rfl rfl rfl ?_
      refine r_istore (pc' := 27) (L' := [(5, .int (1 : Int32)), (3, .long (0 : Int64)), (0, .ref a0), (1, .int i1), (2, .int i2)]) X hl 15 rfl rfl (by decide) rfl (fun ls hl => ?_)
      obtain ⟨LL4, hL4, hne4, hX4⟩ := mL hM hne
      have KX4 : ∀ (b4_1 : Int64) (b4_2_points : Int32) (b4_2_home : Int32) (b4_2_men : Int32) (b4_2_turn : Int32) (b4_2_thrower : Int32) (b4_2_cube : Int32) (b4_2_owner : Int32) (b4_2_firms : Nat → Int32) (b4_2_kindsTold : Nat → Int32) (b4_2_places : Nat → Int32) (b4_2_crowds : Nat → Int32) (b4_2_pipsLeft : Nat → Int32) (b4_2_notHome : Nat → Int32) (H : Heap) (locs : List Loc) (ls : Array Slot), some (b4_1, (b4_2_points, b4_2_home, b4_2_men, b4_2_turn, b4_2_thrower, b4_2_cube, b4_2_owner, b4_2_firms, b4_2_kindsTold, b4_2_places, b4_2_crowds, b4_2_pipsLeft, b4_2_notHome)) = LL4 → rY G A s (wBD G a0 a0_firms a0_kindsTold a0_places a0_crowds a0_pipsLeft a0_notHome b4_2_points b4_2_home b4_2_men b4_2_turn b4_2_thrower b4_2_cube b4_2_owner b4_2_firms b4_2_kindsTold b4_2_places b4_2_crowds b4_2_pipsLeft b4_2_notHome) H locs → lv_has ls 8 [(3, .long b4_1)] → W p l e q_X3_winsWithin_3 s m args below meth c H locs 0 0 Q (F0 m 107 ls []) := by
        intro b4_1 b4_2_points b4_2_home b4_2_men b4_2_turn b4_2_thrower b4_2_cube b4_2_owner b4_2_firms b4_2_kindsTold b4_2_places b4_2_crowds b4_2_pipsLeft b4_2_notHome H locs ls hM Y hl
        replace hM := hX4 _ hM
        refine r_lload_n (pc' := 108) X hl 0 rfl rfl 62 rfl rfl ?_
        exact RT (b4_1, (b4_2_points, b4_2_home, b4_2_men, b4_2_turn, b4_2_thrower, b4_2_cube, b4_2_owner, b4_2_firms, b4_2_kindsTold, b4_2_places, b4_2_crowds, b4_2_pipsLeft, b4_2_notHome)) _ _ _ _ _ hM (Or.inr (Or.inr (Or.inl ⟨rfl, rfl, _, rfl⟩))) (X.d (k := 63) rfl) Y
      refine lp_rule (I := fun (st4 : Int64 × Int32 × BD) => ∀ (H : Heap) (locs : List Loc) (ls : Array Slot), rY G A s (wBD G a0 a0_firms a0_kindsTold a0_places a0_crowds a0_pipsLeft a0_notHome st4.2.2.1 st4.2.2.2.1 st4.2.2.2.2.1 st4.2.2.2.2.2.1 st4.2.2.2.2.2.2.1 st4.2.2.2.2.2.2.2.1 st4.2.2.2.2.2.2.2.2.1 st4.2.2.2.2.2.2.2.2.2.1 st4.2.2.2.2.2.2.2.2.2.2.1 st4.2.2.2.2.2.2.2.2.2.2.2.1 st4.2.2.2.2.2.2.2.2.2.2.2.2.1 st4.2.2.2.2.2.2.2.2.2.2.2.2.2.1 st4.2.2.2.2.2.2.2.2.2.2.2.2.2.2) H locs → lv_has ls 8 [(0, .ref a0), (1, .int i1), (2, .int i2), (3, .long st4.1), (5, .int st4.2.1)] → W p l e q_X3_winsWithin_3 s m args below meth c H locs 0 0 Q (F0 m 27 ls [])) hne4 (fun rec4 st4 IH4 hM => ?_) _ _ hL4 _ _ _ Y (lv_sub hl [2, 3, 4, 1, 0] rfl)
      intro H locs ls Y hl
      obtain ⟨st4_1, st4_2_1, ⟨st4_2_2_points, st4_2_2_home, st4_2_2_men, st4_2_2_turn, st4_2_2_thrower, st4_2_2_cube, st4_2_2_owner, st4_2_2_firms, st4_2_2_kindsTold, st4_2_2_places, st4_2_2_crowds, st4_2_2_pipsLeft, st4_2_2_notHome⟩⟩ := st4
      replace Y : rY G A s (wBD G a0 a0_firms a0_kindsTold a0_places a0_crowds a0_pipsLeft a0_notHome st4_2_2_points st4_2_2_home st4_2_2_men st4_2_2_turn st4_2_2_thrower st4_2_2_cube st4_2_2_owner st4_2_2_firms st4_2_2_kindsTold st4_2_2_places st4_2_2_crowds st4_2_2_pipsLeft st4_2_2_notHome) H locs := Y
      replace hl : lv_has ls 8 [(0, .ref a0), (1, .int i1), (2, .int i2), (3, .long st4_1), (5, .int st4_2_1)] := hl
      refine r_iload (pc' := 29) X hl 4 rfl 16 rfl rfl ?_
      refine r_bipush (pc' := 31) X (6 : Int32) 17 rfl rfl rfl ?_
      refine r_icmp_gt (pc' := 34) X 107 18 rfl rfl (by decide) (fun c5 => ?_) (fun c5 => ?_)
      · replace hM := mI hM c5
        exact KX4 st4_1 st4_2_2_points st4_2_2_home st4_2_2_men st4_2_2_turn st4_2_2_thrower st4_2_2_cube st4_2_2_owner st4_2_2_firms st4_2_2_kindsTold st4_2_2_places st4_2_2_crowds st4_2_2_pipsLeft st4_2_2_notHome _ _ _ hM Y (lv_sub hl [3] rfl)
      · replace hM := mE hM c5
        refine r_aload_n (pc' := 35) X hl 0 rfl rfl 19 rfl rfl ?_
        refine r_iload_n (pc' := 36) X hl 1 rfl rfl 20 rfl rfl ?_
        refine r_iload (pc' := 38) X hl 4 rfl 21 rfl rfl ?_
        refine r_callV0 (pc' := 41) (As := [.int i1, .int st4_2_1]) (rest := []) X Y 22 rfl rfl mRX3_74 (c_X2_chosenByRule l G a0 a0_firms a0_kindsTold a0_places a0_crowds a0_pipsLeft a0_notHome st4_2_2_points st4_2_2_home st4_2_2_men st4_2_2_turn st4_2_2_thrower st4_2_2_cube st4_2_2_owner st4_2_2_firms st4_2_2_kindsTold st4_2_2_places st4_2_2_crowds st4_2_2_pipsLeft st4_2_2_notHome i1 st4_2_1) (mB hM hne4) 0 rfl rfl [0, 1, 2, 3, 4, 5, 6] rfl rfl rfl (Nat.le_of_ble_eq_true rfl) ⟨rfl, rfl⟩ ⟨Nat.le_of_ble_eq_true rfl, Nat.le_of_ble_eq_true rfl⟩ ⟨Nat.zero_le _, Nat.zero_le _⟩ hl.1 (st' := fun u6 => [.int u6]) (fun _ => rfl) (fun u6 H locs huu6 Y => ?_)
        replace hM := mS hM huu6
        refine r_istore (pc' := 43) (L' := [(6, .int u6), (0, .ref a0), (1, .int i1), (2, .int i2), (3, .long st4_1), (5, .int st4_2_1)]) X hl 23 rfl rfl (by decide) rfl (fun ls hl => ?_)
        refine r_iload (pc' := 45) X hl 0 rfl 24 rfl rfl ?_
        refine r_ldc (pc' := 47) X mw154 25 rfl rfl ?_
        refine r_icmp_ne (pc' := 50) X 64 26 rfl rfl (by decide) (fun c7 => ?_) (fun c7 => ?_)
        · replace hM := mE hM c7
          refine r_aload_n (pc' := 65) X hl 1 rfl rfl 37 rfl rfl ?_
          refine r_getN (pc' := 68) (v := .ref a0_places) X Y 38 rfl rfl fRX3_49 0 rfl rfl ?_
          refine r_iload (pc' := 70) X hl 0 rfl 39 rfl rfl ?_
          obtain ⟨g8, hM⟩ := mG hM hne4
          refine r_iald (pc' := 71) X Y 40 rfl rfl 3 rfl (vin g8) ?_
          refine r_istore (pc' := 73) (L' := [(7, .int (st4_2_2_places (u6).toNatClampNeg)), (6, .int u6), (0, .ref a0), (1, .int i1), (2, .int i2), (3, .long st4_1), (5, .int st4_2_1)]) X hl 41 rfl rfl (by decide) rfl (fun ls hl => ?_)
          refine r_aload_n (pc' := 74) X hl 2 rfl rfl 42 rfl rfl ?_
          refine r_iload (pc' := 76) X hl 1 rfl 43 rfl rfl ?_
          refine r_iload (pc' := 78) X hl 6 rfl 44 rfl rfl ?_
          refine r_callV (pc' := 81) (As := [.int u6, .int st4_2_1]) (rest := []) (wr := ([] : va_W)) X Y 45 rfl rfl mRX3_52 (c_X2_go l G a0 a0_firms a0_kindsTold a0_places a0_crowds a0_pipsLeft a0_notHome st4_2_2_points st4_2_2_home st4_2_2_men st4_2_2_turn st4_2_2_thrower st4_2_2_cube st4_2_2_owner st4_2_2_firms st4_2_2_kindsTold st4_2_2_places st4_2_2_crowds st4_2_2_pipsLeft st4_2_2_notHome u6 st4_2_1) (mB hM hne4) 0 rfl rfl [0, 1, 2, 3, 4, 5, 6] [] [0, 1, 2, 3, 4, 5, 6] rfl rfl ⟨rfl, rfl, rfl⟩ rfl (w2 := fun u9 => wBD G a0 a0_firms a0_kindsTold a0_places a0_crowds a0_pipsLeft a0_notHome u9.2.1 u9.2.2.1 u9.2.2.2.1 u9.2.2.2.2.1 u9.2.2.2.2.2.1 u9.2.2.2.2.2.2.1 u9.2.2.2.2.2.2.2.1 u9.2.2.2.2.2.2.2.2.1 u9.2.2.2.2.2.2.2.2.2.1 u9.2.2.2.2.2.2.2.2.2.2.1 u9.2.2.2.2.2.2.2.2.2.2.2.1 u9.2.2.2.2.2.2.2.2.2.2.2.2.1 u9.2.2.2.2.2.2.2.2.2.2.2.2.2) (fun _ => rfl) rfl (Nat.le_of_ble_eq_true rfl) ⟨rfl, rfl⟩ ⟨Nat.le_of_ble_eq_true rfl, Nat.le_of_ble_eq_true rfl⟩ ⟨Nat.zero_le _, Nat.zero_le _⟩ hl.1 (st' := fun u9 => [.int u9.1]) (fun _ => rfl) (fun u9 H locs huu9 Y => ?_)
          obtain ⟨u9_1, ⟨u9_2_points, u9_2_home, u9_2_men, u9_2_turn, u9_2_thrower, u9_2_cube, u9_2_owner, u9_2_firms, u9_2_kindsTold, u9_2_places, u9_2_crowds, u9_2_pipsLeft, u9_2_notHome⟩⟩ := u9
          replace Y : rY G A s (wBD G a0 a0_firms a0_kindsTold a0_places a0_crowds a0_pipsLeft a0_notHome u9_2_points u9_2_home u9_2_men u9_2_turn u9_2_thrower u9_2_cube u9_2_owner u9_2_firms u9_2_kindsTold u9_2_places u9_2_crowds u9_2_pipsLeft u9_2_notHome) H locs := Y
          replace hM := mS hM huu9
          show W p l e q_X3_winsWithin_3 s m args below meth c H locs 0 0 Q (F0 m 81 ls [.int u9_1])
          refine r_pop (pc' := 82) X 46 rfl rfl rfl ?_
          refine r_lload_n (pc' := 83) X hl 5 rfl rfl 47 rfl rfl ?_
          refine r_aload_n (pc' := 84) X hl 2 rfl rfl 48 rfl rfl ?_
          refine r_iload_n (pc' := 85) X hl 3 rfl rfl 49 rfl rfl ?_
          refine r_iload_n (pc' := 86) X hl 4 rfl rfl 50 rfl rfl ?_
          refine r_iconst (pc' := 87) X (1 : Int32) 51 rfl rfl rfl ?_
          refine r_isub (pc' := 88) X 52 rfl rfl ?_
          refine r_callS (pc' := 91) (As := [.ref a0, .int i1, .int (i2 - (1 : Int32))]) (rest := [.long st4_1]) (wr := ([] : va_W)) X Y 53 rfl rfl mRX3_77 (c_X3_winsWithin_2 l G a0 a0_firms a0_kindsTold a0_places a0_crowds a0_pipsLeft a0_notHome u9_2_points u9_2_home u9_2_men u9_2_turn u9_2_thrower u9_2_cube u9_2_owner u9_2_firms u9_2_kindsTold u9_2_places u9_2_crowds u9_2_pipsLeft u9_2_notHome i1 ((i2 - (1 : Int32)))) (mB hM hne4) rfl [0, 1, 2, 3, 4, 5, 6] [] [0, 1, 2, 3, 4, 5, 6] rfl rfl ⟨rfl, rfl, rfl⟩ rfl (w2 := fun u10 => wBD G a0 a0_firms a0_kindsTold a0_places a0_crowds a0_pipsLeft a0_notHome u10.2.1 u10.2.2.1 u10.2.2.2.1 u10.2.2.2.2.1 u10.2.2.2.2.2.1 u10.2.2.2.2.2.2.1 u10.2.2.2.2.2.2.2.1 u10.2.2.2.2.2.2.2.2.1 u10.2.2.2.2.2.2.2.2.2.1 u10.2.2.2.2.2.2.2.2.2.2.1 u10.2.2.2.2.2.2.2.2.2.2.2.1 u10.2.2.2.2.2.2.2.2.2.2.2.2.1 u10.2.2.2.2.2.2.2.2.2.2.2.2.2) (fun _ => rfl) rfl (Nat.le_of_ble_eq_true rfl) ⟨rfl, rfl⟩ ⟨Nat.le_of_ble_eq_true rfl, Nat.le_of_ble_eq_true rfl⟩ ⟨Nat.zero_le _, Nat.zero_le _⟩ hl.1 (st' := fun u10 => [.long u10.1, .long st4_1]) (fun _ => rfl) (fun u10 H locs huu10 Y => ?_)
          obtain ⟨u10_1, ⟨u10_2_points, u10_2_home, u10_2_men, u10_2_turn, u10_2_thrower, u10_2_cube, u10_2_owner, u10_2_firms, u10_2_kindsTold, u10_2_places, u10_2_crowds, u10_2_pipsLeft, u10_2_notHome⟩⟩ := u10
          replace Y : rY G A s (wBD G a0 a0_firms a0_kindsTold a0_places a0_crowds a0_pipsLeft a0_notHome u10_2_points u10_2_home u10_2_men u10_2_turn u10_2_thrower u10_2_cube u10_2_owner u10_2_firms u10_2_kindsTold u10_2_places u10_2_crowds u10_2_pipsLeft u10_2_notHome) H locs := Y
          replace hM := mS hM huu10
          show W p l e q_X3_winsWithin_3 s m args below meth c H locs 0 0 Q (F0 m 91 ls [.long u10_1, .long st4_1])
          refine r_ladd (pc' := 92) X 54 rfl rfl ?_
          refine r_lstore_n (pc' := 93) (L' := [(3, .long (st4_1 + u10_1)), (7, .int (st4_2_2_places (u6).toNatClampNeg)), (6, .int u6), (0, .ref a0), (1, .int i1), (2, .int i2), (5, .int st4_2_1)]) X hl rfl 55 rfl rfl (by decide) rfl (fun ls hl => ?_)
          refine r_aload_n (pc' := 94) X hl 3 rfl rfl 56 rfl rfl ?_
          refine r_iload (pc' := 96) X hl 2 rfl 57 rfl rfl ?_
          refine r_iload (pc' := 98) X hl 1 rfl 58 rfl rfl ?_
          refine r_callV (pc' := 101) (As := [.int u6, .int (st4_2_2_places (u6).toNatClampNeg)]) (rest := []) (wr := ([] : va_W)) X Y 59 rfl rfl mRX3_55 (c_X2_put l G a0 a0_firms a0_kindsTold a0_places a0_crowds a0_pipsLeft a0_notHome u10_2_points u10_2_home u10_2_men u10_2_turn u10_2_thrower u10_2_cube u10_2_owner u10_2_firms u10_2_kindsTold u10_2_places u10_2_crowds u10_2_pipsLeft u10_2_notHome u6 ((st4_2_2_places (u6).toNatClampNeg))) (mB hM hne4) 0 rfl rfl [0, 1, 2, 3, 4, 5, 6] [] [0, 1, 2, 3, 4, 5, 6] rfl rfl ⟨rfl, rfl, rfl⟩ rfl (w2 := fun u11 => wBD G a0 a0_firms a0_kindsTold a0_places a0_crowds a0_pipsLeft a0_notHome u11.1 u11.2.1 u11.2.2.1 u11.2.2.2.1 u11.2.2.2.2.1 u11.2.2.2.2.2.1 u11.2.2.2.2.2.2.1 u11.2.2.2.2.2.2.2.1 u11.2.2.2.2.2.2.2.2.1 u11.2.2.2.2.2.2.2.2.2.1 u11.2.2.2.2.2.2.2.2.2.2.1 u11.2.2.2.2.2.2.2.2.2.2.2.1 u11.2.2.2.2.2.2.2.2.2.2.2.2) (fun _ => rfl) rfl (Nat.le_of_ble_eq_true rfl) ⟨rfl, rfl⟩ ⟨Nat.le_of_ble_eq_true rfl, Nat.le_of_ble_eq_true rfl⟩ ⟨Nat.zero_le _, Nat.zero_le _⟩ hl.1 (st' := fun u11 => []) (fun _ => rfl) (fun u11 H locs huu11 Y => ?_)
          obtain ⟨u11_points, u11_home, u11_men, u11_turn, u11_thrower, u11_cube, u11_owner, u11_firms, u11_kindsTold, u11_places, u11_crowds, u11_pipsLeft, u11_notHome⟩ := u11
          replace Y : rY G A s (wBD G a0 a0_firms a0_kindsTold a0_places a0_crowds a0_pipsLeft a0_notHome u11_points u11_home u11_men u11_turn u11_thrower u11_cube u11_owner u11_firms u11_kindsTold u11_places u11_crowds u11_pipsLeft u11_notHome) H locs := Y
          replace hM := mS hM huu11
          show W p l e q_X3_winsWithin_3 s m args below meth c H locs 0 0 Q (F0 m 101 ls [])
          refine r_iinc (pc' := 104) (L' := [(5, .int (st4_2_1 + (1 : Int32))), (3, .long (st4_1 + u10_1)), (7, .int (st4_2_2_places (u6).toNatClampNeg)), (6, .int u6), (0, .ref a0), (1, .int i1), (2, .int i2)]) X (st4_2_1 + (1 : Int32)) hl 6 rfl rfl 60 rfl rfl (by decide) rfl (fun ls hl => ?_)
          refine r_goto X 27 61 rfl (by decide) ?_
          exact IH4 _ hM _ _ _ Y (lv_sub hl [4, 5, 6, 1, 0] rfl)
        · replace hM := mI hM c7
          refine r_lload_n (pc' := 51) X hl 4 rfl rfl 27 rfl rfl ?_
          refine r_aload_n (pc' := 52) X hl 1 rfl rfl 28 rfl rfl ?_
          refine r_iload_n (pc' := 53) X hl 2 rfl rfl 29 rfl rfl ?_
          refine r_iload_n (pc' := 54) X hl 3 rfl rfl 30 rfl rfl ?_
          refine r_iconst (pc' := 55) X (1 : Int32) 31 rfl rfl rfl ?_
          refine r_isub (pc' := 56) X 32 rfl rfl ?_
          refine r_callS (pc' := 59) (As := [.ref a0, .int i1, .int (i2 - (1 : Int32))]) (rest := [.long st4_1]) (wr := ([] : va_W)) X Y 33 rfl rfl mRX3_77 (c_X3_winsWithin_2 l G a0 a0_firms a0_kindsTold a0_places a0_crowds a0_pipsLeft a0_notHome st4_2_2_points st4_2_2_home st4_2_2_men st4_2_2_turn st4_2_2_thrower st4_2_2_cube st4_2_2_owner st4_2_2_firms st4_2_2_kindsTold st4_2_2_places st4_2_2_crowds st4_2_2_pipsLeft st4_2_2_notHome i1 ((i2 - (1 : Int32)))) (mB hM hne4) rfl [0, 1, 2, 3, 4, 5, 6] [] [0, 1, 2, 3, 4, 5, 6] rfl rfl ⟨rfl, rfl, rfl⟩ rfl (w2 := fun u12 => wBD G a0 a0_firms a0_kindsTold a0_places a0_crowds a0_pipsLeft a0_notHome u12.2.1 u12.2.2.1 u12.2.2.2.1 u12.2.2.2.2.1 u12.2.2.2.2.2.1 u12.2.2.2.2.2.2.1 u12.2.2.2.2.2.2.2.1 u12.2.2.2.2.2.2.2.2.1 u12.2.2.2.2.2.2.2.2.2.1 u12.2.2.2.2.2.2.2.2.2.2.1 u12.2.2.2.2.2.2.2.2.2.2.2.1 u12.2.2.2.2.2.2.2.2.2.2.2.2.1 u12.2.2.2.2.2.2.2.2.2.2.2.2.2) (fun _ => rfl) rfl (Nat.le_of_ble_eq_true rfl) ⟨rfl, rfl⟩ ⟨Nat.le_of_ble_eq_true rfl, Nat.le_of_ble_eq_true rfl⟩ ⟨Nat.zero_le _, Nat.zero_le _⟩ hl.1 (st' := fun u12 => [.long u12.1, .long st4_1]) (fun _ => rfl) (fun u12 H locs huu12 Y => ?_)
          obtain ⟨u12_1, ⟨u12_2_points, u12_2_home, u12_2_men, u12_2_turn, u12_2_thrower, u12_2_cube, u12_2_owner, u12_2_firms, u12_2_kindsTold, u12_2_places, u12_2_crowds, u12_2_pipsLeft, u12_2_notHome⟩⟩ := u12
          replace Y : rY G A s (wBD G a0 a0_firms a0_kindsTold a0_places a0_crowds a0_pipsLeft a0_notHome u12_2_points u12_2_home u12_2_men u12_2_turn u12_2_thrower u12_2_cube u12_2_owner u12_2_firms u12_2_kindsTold u12_2_places u12_2_crowds u12_2_pipsLeft u12_2_notHome) H locs := Y
          replace hM := mS hM huu12
          show W p l e q_X3_winsWithin_3 s m args below meth c H locs 0 0 Q (F0 m 59 ls [.long u12_1, .long st4_1])
          refine r_ladd (pc' := 60) X 34 rfl rfl ?_
          refine r_lstore_n (pc' := 61) (L' := [(3, .long (st4_1 + u12_1)), (6, .int u6), (0, .ref a0), (1, .int i1), (2, .int i2), (5, .int st4_2_1)]) X hl rfl 35 rfl rfl (by decide) rfl (fun ls hl => ?_)
          refine r_goto X 101 36 rfl (by decide) ?_
          refine r_iinc (pc' := 104) (L' := [(5, .int (st4_2_1 + (1 : Int32))), (3, .long (st4_1 + u12_1)), (6, .int u6), (0, .ref a0), (1, .int i1), (2, .int i2)]) X (st4_2_1 + (1 : Int32)) hl 5 rfl rfl 60 rfl rfl (by decide) rfl (fun ls hl => ?_)
          refine r_goto X 27 61 rfl (by decide) ?_
          exact IH4 _ hM _ _ _ Y (lv_sub hl [3, 4, 5, 1, 0] rfl)
    · replace hM := mE hM c3
      refine r_lconst (pc' := 21) X (0 : Int64) 10 rfl rfl rfl ?_
      exact RT ((0 : Int64), (S0_points, S0_home, S0_men, S0_turn, S0_thrower, S0_cube, S0_owner, S0_firms, S0_kindsTold, S0_places, S0_crowds, S0_pipsLeft, S0_notHome)) _ _ _ _ _ hM (Or.inr (Or.inr (Or.inl ⟨rfl, rfl, _, rfl⟩))) (X.d (k := 11) rfl) Y
  · replace hM := mE hM c2
    refine r_ldc2 (pc' := 11) X mw189 4 rfl rfl ?_
    refine r_iload_n (pc' := 12) X hl 2 rfl rfl 5 rfl rfl ?_
    refine r_callSN0 (pc' := 15) (As := [.long (6 : Int64), .int i2]) (rest := []) X Y 6 rfl rfl mRX3_83 (c_X7_power l G (6 : Int64) i2) (mB hM hne) rfl [] rfl rfl rfl (Nat.le_of_ble_eq_true rfl) ⟨rfl, rfl⟩ ⟨Nat.le_of_ble_eq_true rfl, Nat.le_of_ble_eq_true rfl⟩ ⟨Nat.zero_le _, Nat.zero_le _⟩ hl.1 (st' := fun u13 => [.long u13]) (fun _ => rfl) (fun u13 H locs huu13 Y => ?_)
    replace hM := mS hM huu13
    exact RT (u13, (S0_points, S0_home, S0_men, S0_turn, S0_thrower, S0_cube, S0_owner, S0_firms, S0_kindsTold, S0_places, S0_crowds, S0_pipsLeft, S0_notHome)) _ _ _ _ _ hM (Or.inr (Or.inr (Or.inl ⟨rfl, rfl, _, rfl⟩))) (X.d (k := 7) rfl) Y

def M_X3_waysToWin (S0 : FS) (S1 : BD) (S2 : BD) (i2 : Int32) (i3 : Int32) : Option (Int64 × BD) :=
  ((M_X3_leaveAlone S0 S1 S2 i2).bind (fun u1 => ((M_X3_winsWithin_3 u1 i2 i3).bind (fun u2 => (some (u2.1, u2.2))))))
def q_X3_waysToWin : Room := { frames := 9, cells := 0, slots := 0, locals := 266 }
set_option maxHeartbeats 4000000 in
set_option maxRecDepth 100000 in
theorem c_X3_waysToWin (l : Launch) (G : gT) (h a1 h_spare h_told a1_firms a1_kindsTold a1_places a1_crowds a1_pipsLeft a1_notHome h_spare_firms h_spare_kindsTold h_spare_places h_spare_crowds h_spare_pipsLeft h_spare_notHome : Nat) (S0 : Int32) (S1_points : Int32) (S1_home : Int32) (S1_men : Int32) (S1_turn : Int32) (S1_thrower : Int32) (S1_cube : Int32) (S1_owner : Int32) (S1_firms : Nat → Int32) (S1_kindsTold : Nat → Int32) (S1_places : Nat → Int32) (S1_crowds : Nat → Int32) (S1_pipsLeft : Nat → Int32) (S1_notHome : Nat → Int32) (S2_points : Int32) (S2_home : Int32) (S2_men : Int32) (S2_turn : Int32) (S2_thrower : Int32) (S2_cube : Int32) (S2_owner : Int32) (S2_firms : Nat → Int32) (S2_kindsTold : Nat → Int32) (S2_places : Nat → Int32) (S2_crowds : Nat → Int32) (S2_pipsLeft : Nat → Int32) (S2_notHome : Nat → Int32) (i2 : Int32) (i3 : Int32) : CT l G yX3_waysToWin cX3_waysToWin 4 (some .long) q_X3_waysToWin [.ref h, .ref a1, .int i2, .int i3] (wFS G h h_spare h_told S0 ++ wBD G a1 a1_firms a1_kindsTold a1_places a1_crowds a1_pipsLeft a1_notHome S1_points S1_home S1_men S1_turn S1_thrower S1_cube S1_owner S1_firms S1_kindsTold S1_places S1_crowds S1_pipsLeft S1_notHome ++ wBD G h_spare h_spare_firms h_spare_kindsTold h_spare_places h_spare_crowds h_spare_pipsLeft h_spare_notHome S2_points S2_home S2_men S2_turn S2_thrower S2_cube S2_owner S2_firms S2_kindsTold S2_places S2_crowds S2_pipsLeft S2_notHome) (M_X3_waysToWin S0 (S1_points, S1_home, S1_men, S1_turn, S1_thrower, S1_cube, S1_owner, S1_firms, S1_kindsTold, S1_places, S1_crowds, S1_pipsLeft, S1_notHome) (S2_points, S2_home, S2_men, S2_turn, S2_thrower, S2_cube, S2_owner, S2_firms, S2_kindsTold, S2_places, S2_crowds, S2_pipsLeft, S2_notHome) i2 i3) (fun u => some (.long u.1)) (fun u => wFS G h h_spare h_told S0 ++ wBD G a1 a1_firms a1_kindsTold a1_places a1_crowds a1_pipsLeft a1_notHome S1_points S1_home S1_men S1_turn S1_thrower S1_cube S1_owner S1_firms S1_kindsTold S1_places S1_crowds S1_pipsLeft S1_notHome ++ wBD G h_spare h_spare_firms h_spare_kindsTold h_spare_places h_spare_crowds h_spare_pipsLeft h_spare_notHome u.2.1 u.2.2.1 u.2.2.2.1 u.2.2.2.2.1 u.2.2.2.2.2.1 u.2.2.2.2.2.2.1 u.2.2.2.2.2.2.2.1 u.2.2.2.2.2.2.2.2.1 u.2.2.2.2.2.2.2.2.2.1 u.2.2.2.2.2.2.2.2.2.2.1 u.2.2.2.2.2.2.2.2.2.2.2.1 u.2.2.2.2.2.2.2.2.2.2.2.2.1 u.2.2.2.2.2.2.2.2.2.2.2.2.2) := by
  refine CT.of (P := PX3_waysToWin) (by decide) dPX3_waysToWin (Nat.le_of_ble_eq_true rfl) ?_
  intro p e s m args below meth c A Q ls hne X RT Y hl
  have hl : lv_has ls 4 [(0, .ref h), (1, .ref a1), (2, .int i2), (3, .int i3)] := hl
  generalize hM : M_X3_waysToWin S0 (S1_points, S1_home, S1_men, S1_turn, S1_thrower, S1_cube, S1_owner, S1_firms, S1_kindsTold, S1_places, S1_crowds, S1_pipsLeft, S1_notHome) (S2_points, S2_home, S2_men, S2_turn, S2_thrower, S2_cube, S2_owner, S2_firms, S2_kindsTold, S2_places, S2_crowds, S2_pipsLeft, S2_notHome) i2 i3 = MM at hne RT
  unfold M_X3_waysToWin at hM
  refine r_aload_n (pc' := 1) X hl 0 rfl rfl 0 rfl rfl ?_
  refine r_aload_n (pc' := 2) X hl 1 rfl rfl 1 rfl rfl ?_
  refine r_iload_n (pc' := 3) X hl 2 rfl rfl 2 rfl rfl ?_
  refine r_callV (pc' := 6) (As := [.ref a1, .int i2]) (rest := []) (wr := ([] : va_W)) X Y 3 rfl rfl mRX3_66 (c_X3_leaveAlone l G h a1 h_spare h_told a1_firms a1_kindsTold a1_places a1_crowds a1_pipsLeft a1_notHome h_spare_firms h_spare_kindsTold h_spare_places h_spare_crowds h_spare_pipsLeft h_spare_notHome S0 S1_points S1_home S1_men S1_turn S1_thrower S1_cube S1_owner S1_firms S1_kindsTold S1_places S1_crowds S1_pipsLeft S1_notHome S2_points S2_home S2_men S2_turn S2_thrower S2_cube S2_owner S2_firms S2_kindsTold S2_places S2_crowds S2_pipsLeft S2_notHome i2) (mB hM hne) 0 rfl rfl [0, 1, 2, 3, 4, 5, 6, 7, 8, 9, 10, 11, 12, 13, 14] [] [0, 1, 2, 3, 4, 5, 6, 7, 8, 9, 10, 11, 12, 13, 14] rfl rfl ⟨rfl, rfl, rfl⟩ rfl (w2 := fun u1 => wFS G h h_spare h_told S0 ++ wBD G a1 a1_firms a1_kindsTold a1_places a1_crowds a1_pipsLeft a1_notHome S1_points S1_home S1_men S1_turn S1_thrower S1_cube S1_owner S1_firms S1_kindsTold S1_places S1_crowds S1_pipsLeft S1_notHome ++ wBD G h_spare h_spare_firms h_spare_kindsTold h_spare_places h_spare_crowds h_spare_pipsLeft h_spare_notHome u1.1 u1.2.1 u1.2.2.1 u1.2.2.2.1 u1.2.2.2.2.1 u1.2.2.2.2.2.1 u1.2.2.2.2.2.2.1 u1.2.2.2.2.2.2.2.1 u1.2.2.2.2.2.2.2.2.1 u1.2.2.2.2.2.2.2.2.2.1 u1.2.2.2.2.2.2.2.2.2.2.1 u1.2.2.2.2.2.2.2.2.2.2.2.1 u1.2.2.2.2.2.2.2.2.2.2.2.2) (fun _ => rfl) rfl (Nat.le_of_ble_eq_true rfl) ⟨rfl, rfl⟩ ⟨Nat.le_of_ble_eq_true rfl, Nat.le_of_ble_eq_true rfl⟩ ⟨Nat.zero_le _, Nat.zero_le _⟩ hl.1 (st' := fun u1 => []) (fun _ => rfl) (fun u1 H locs huu1 Y => ?_)
  obtain ⟨u1_points, u1_home, u1_men, u1_turn, u1_thrower, u1_cube, u1_owner, u1_firms, u1_kindsTold, u1_places, u1_crowds, u1_pipsLeft, u1_notHome⟩ := u1
  replace Y : rY G A s (wFS G h h_spare h_told S0 ++ wBD G a1 a1_firms a1_kindsTold a1_places a1_crowds a1_pipsLeft a1_notHome S1_points S1_home S1_men S1_turn S1_thrower S1_cube S1_owner S1_firms S1_kindsTold S1_places S1_crowds S1_pipsLeft S1_notHome ++ wBD G h_spare h_spare_firms h_spare_kindsTold h_spare_places h_spare_crowds h_spare_pipsLeft h_spare_notHome u1_points u1_home u1_men u1_turn u1_thrower u1_cube u1_owner u1_firms u1_kindsTold u1_places u1_crowds u1_pipsLeft u1_notHome) H locs := Y
  replace hM := mS hM huu1
  show W p l e q_X3_waysToWin s m args below meth c H locs 0 0 Q (F0 m 6 ls [])
  refine r_aload_n (pc' := 7) X hl 0 rfl rfl 4 rfl rfl ?_
  refine r_get (pc' := 10) (v := .ref h_spare) X Y 5 rfl rfl fRX3_12 0 rfl rfl ?_
  refine r_iload_n (pc' := 11) X hl 2 rfl rfl 6 rfl rfl ?_
  refine r_iload_n (pc' := 12) X hl 3 rfl rfl 7 rfl rfl ?_
  refine r_callS (pc' := 15) (As := [.ref h_spare, .int i2, .int i3]) (rest := []) (wr := (wFS G h h_spare h_told S0 ++ wBD G a1 a1_firms a1_kindsTold a1_places a1_crowds a1_pipsLeft a1_notHome S1_points S1_home S1_men S1_turn S1_thrower S1_cube S1_owner S1_firms S1_kindsTold S1_places S1_crowds S1_pipsLeft S1_notHome : va_W)) X Y 8 rfl rfl mRX3_77 (c_X3_winsWithin_3 l G h_spare h_spare_firms h_spare_kindsTold h_spare_places h_spare_crowds h_spare_pipsLeft h_spare_notHome u1_points u1_home u1_men u1_turn u1_thrower u1_cube u1_owner u1_firms u1_kindsTold u1_places u1_crowds u1_pipsLeft u1_notHome i2 i3) (mB hM hne) rfl [8, 9, 10, 11, 12, 13, 14] [0, 1, 2, 3, 4, 5, 6, 7] [0, 1, 2, 3, 4, 5, 6, 7, 8, 9, 10, 11, 12, 13, 14] rfl rfl ⟨rfl, rfl, rfl⟩ rfl (w2 := fun u2 => wFS G h h_spare h_told S0 ++ wBD G a1 a1_firms a1_kindsTold a1_places a1_crowds a1_pipsLeft a1_notHome S1_points S1_home S1_men S1_turn S1_thrower S1_cube S1_owner S1_firms S1_kindsTold S1_places S1_crowds S1_pipsLeft S1_notHome ++ wBD G h_spare h_spare_firms h_spare_kindsTold h_spare_places h_spare_crowds h_spare_pipsLeft h_spare_notHome u2.2.1 u2.2.2.1 u2.2.2.2.1 u2.2.2.2.2.1 u2.2.2.2.2.2.1 u2.2.2.2.2.2.2.1 u2.2.2.2.2.2.2.2.1 u2.2.2.2.2.2.2.2.2.1 u2.2.2.2.2.2.2.2.2.2.1 u2.2.2.2.2.2.2.2.2.2.2.1 u2.2.2.2.2.2.2.2.2.2.2.2.1 u2.2.2.2.2.2.2.2.2.2.2.2.2.1 u2.2.2.2.2.2.2.2.2.2.2.2.2.2) (fun _ => rfl) rfl (Nat.le_of_ble_eq_true rfl) ⟨rfl, rfl⟩ ⟨Nat.le_of_ble_eq_true rfl, Nat.le_of_ble_eq_true rfl⟩ ⟨Nat.zero_le _, Nat.zero_le _⟩ hl.1 (st' := fun u2 => [.long u2.1]) (fun _ => rfl) (fun u2 H locs huu2 Y => ?_)
  obtain ⟨u2_1, ⟨u2_2_points, u2_2_home, u2_2_men, u2_2_turn, u2_2_thrower, u2_2_cube, u2_2_owner, u2_2_firms, u2_2_kindsTold, u2_2_places, u2_2_crowds, u2_2_pipsLeft, u2_2_notHome⟩⟩ := u2
  replace Y : rY G A s (wFS G h h_spare h_told S0 ++ wBD G a1 a1_firms a1_kindsTold a1_places a1_crowds a1_pipsLeft a1_notHome S1_points S1_home S1_men S1_turn S1_thrower S1_cube S1_owner S1_firms S1_kindsTold S1_places S1_crowds S1_pipsLeft S1_notHome ++ wBD G h_spare h_spare_firms h_spare_kindsTold h_spare_places h_spare_crowds h_spare_pipsLeft h_spare_notHome u2_2_points u2_2_home u2_2_men u2_2_turn u2_2_thrower u2_2_cube u2_2_owner u2_2_firms u2_2_kindsTold u2_2_places u2_2_crowds u2_2_pipsLeft u2_2_notHome) H locs := Y
  replace hM := mS hM huu2
  show W p l e q_X3_waysToWin s m args below meth c H locs 0 0 Q (F0 m 15 ls [.long u2_1])
  exact RT (u2_1, (u2_2_points, u2_2_home, u2_2_men, u2_2_turn, u2_2_thrower, u2_2_cube, u2_2_owner, u2_2_firms, u2_2_kindsTold, u2_2_places, u2_2_crowds, u2_2_pipsLeft, u2_2_notHome)) _ _ _ _ _ hM (Or.inr (Or.inr (Or.inl ⟨rfl, rfl, _, rfl⟩))) (X.d (k := 9) rfl) Y

def M_X3_isAsTold (S0 : FS) (S1 : BD) (S2 : IA) : Option (Int32) :=
  (lp (σ := Int32) (β := Int32) (fun rec1 st1 => (if (bd_men S1) ≤ st1 then (some (1 : Int32)) else (if inb st1 8 = true then ((M_X2_off S1).bind (fun u4 => (jn (σ := Int32) (fun v5 => (if (S2 (st1).toNatClampNeg) = v5 then (rec1 (st1 + (1 : Int32))) else (some (0 : Int32)))) (fun J5 => (if ((bd_places S1) (st1).toNatClampNeg) = u4 then (J5 (99 : Int32)) else (J5 ((bd_places S1) (st1).toNatClampNeg))))))) else none))) 1000000 (0 : Int32))
def q_X3_isAsTold : Room := { frames := 2, cells := 0, slots := 0, locals := 80 }
set_option maxHeartbeats 4000000 in
set_option maxRecDepth 100000 in
theorem c_X3_isAsTold (l : Launch) (G : gT) (h h_spare h_told h_spare_firms h_spare_kindsTold h_spare_places h_spare_crowds h_spare_pipsLeft h_spare_notHome : Nat) (S0 : Int32) (S1_points : Int32) (S1_home : Int32) (S1_men : Int32) (S1_turn : Int32) (S1_thrower : Int32) (S1_cube : Int32) (S1_owner : Int32) (S1_firms : Nat → Int32) (S1_kindsTold : Nat → Int32) (S1_places : Nat → Int32) (S1_crowds : Nat → Int32) (S1_pipsLeft : Nat → Int32) (S1_notHome : Nat → Int32) (S2 : Nat → Int32) : CT l G yX3_isAsTold cX3_isAsTold 3 (some .boolean) q_X3_isAsTold [.ref h] (wFS G h h_spare h_told S0 ++ wBD G h_spare h_spare_firms h_spare_kindsTold h_spare_places h_spare_crowds h_spare_pipsLeft h_spare_notHome S1_points S1_home S1_men S1_turn S1_thrower S1_cube S1_owner S1_firms S1_kindsTold S1_places S1_crowds S1_pipsLeft S1_notHome ++ wIA G h_told 8 S2) (M_X3_isAsTold S0 (S1_points, S1_home, S1_men, S1_turn, S1_thrower, S1_cube, S1_owner, S1_firms, S1_kindsTold, S1_places, S1_crowds, S1_pipsLeft, S1_notHome) S2) (fun u => some (.int u)) (fun u => wFS G h h_spare h_told S0 ++ wBD G h_spare h_spare_firms h_spare_kindsTold h_spare_places h_spare_crowds h_spare_pipsLeft h_spare_notHome S1_points S1_home S1_men S1_turn S1_thrower S1_cube S1_owner S1_firms S1_kindsTold S1_places S1_crowds S1_pipsLeft S1_notHome ++ wIA G h_told 8 S2) := by
  refine CT.of (P := PX3_isAsTold) (by decide) dPX3_isAsTold (Nat.le_of_ble_eq_true rfl) ?_
  intro p e s m args below meth c A Q ls hne X RT Y hl
  have hl : lv_has ls 3 [(0, .ref h)] := hl
  generalize hM : M_X3_isAsTold S0 (S1_points, S1_home, S1_men, S1_turn, S1_thrower, S1_cube, S1_owner, S1_firms, S1_kindsTold, S1_places, S1_crowds, S1_pipsLeft, S1_notHome) S2 = MM at hne RT
  unfold M_X3_isAsTold at hM
  refine r_iconst (pc' := 1) X (0 : Int32) 0 rfl rfl rfl ?_
  refine r_istore_n (pc' := 2) (L' := [(1, .int (0 : Int32)), (0, .ref h)]) X hl rfl 1 rfl rfl (by decide) rfl (fun ls hl => ?_)
  refine lp_rule (I := fun (st1 : Int32) => ∀ (H : Heap) (locs : List Loc) (ls : Array Slot), rY G A s (wFS G h h_spare h_told S0 ++ wBD G h_spare h_spare_firms h_spare_kindsTold h_spare_places h_spare_crowds h_spare_pipsLeft h_spare_notHome S1_points S1_home S1_men S1_turn S1_thrower S1_cube S1_owner S1_firms S1_kindsTold S1_places S1_crowds S1_pipsLeft S1_notHome ++ wIA G h_told 8 S2) H locs → lv_has ls 3 [(0, .ref h), (1, .int st1)] → W p l e q_X3_isAsTold s m args below meth c H locs 0 0 Q (F0 m 2 ls [])) hne (fun rec1 st1 IH1 hM => ?_) _ _ hM _ _ _ Y (lv_sub hl [1, 0] rfl)
  intro H locs ls Y hl
  refine r_iload_n (pc' := 3) X hl 1 rfl rfl 2 rfl rfl ?_
  refine r_aload_n (pc' := 4) X hl 0 rfl rfl 3 rfl rfl ?_
  refine r_get (pc' := 7) (v := .ref h_spare) X Y 4 rfl rfl fRX3_12 0 rfl rfl ?_
  refine r_getN (pc' := 10) (v := .int S1_men) X Y 5 rfl rfl fRX3_31 1 rfl rfl ?_
  refine r_icmp_ge (pc' := 13) X 57 6 rfl rfl (by decide) (fun c2 => ?_) (fun c2 => ?_)
  · replace hM := mI hM c2
    refine r_iconst (pc' := 58) X (1 : Int32) 30 rfl rfl rfl ?_
    exact RT (1 : Int32) _ _ _ _ _ hM (Or.inr (Or.inl ⟨rfl, rfl, _, rfl, nb (Or.inr rfl)⟩)) (X.d (k := 31) rfl) Y
  · replace hM := mE hM c2
    refine r_aload_n (pc' := 14) X hl 0 rfl rfl 7 rfl rfl ?_
    refine r_get (pc' := 17) (v := .ref h_spare) X Y 8 rfl rfl fRX3_12 0 rfl rfl ?_
    refine r_getN (pc' := 20) (v := .ref h_spare_places) X Y 9 rfl rfl fRX3_49 1 rfl rfl ?_
    refine r_iload_n (pc' := 21) X hl 1 rfl rfl 10 rfl rfl ?_
    obtain ⟨g3, hM⟩ := mG hM hne
    refine r_iald (pc' := 22) X Y 11 rfl rfl 4 rfl (vin g3) ?_
    refine r_istore_n (pc' := 23) (L' := [(2, .int (S1_places (st1).toNatClampNeg)), (0, .ref h), (1, .int st1)]) X hl rfl 12 rfl rfl (by decide) rfl (fun ls hl => ?_)
    refine r_aload_n (pc' := 24) X hl 1 rfl rfl 13 rfl rfl ?_
    refine r_get (pc' := 27) (v := .ref h_told) X Y 14 rfl rfl fRX3_18 0 rfl rfl ?_
    refine r_iload_n (pc' := 28) X hl 2 rfl rfl 15 rfl rfl ?_
    refine r_iald (pc' := 29) X Y 16 rfl rfl 8 rfl (vin g3) ?_
    refine r_iload_n (pc' := 30) X hl 0 rfl rfl 17 rfl rfl ?_
    refine r_aload_n (pc' := 31) X hl 1 rfl rfl 18 rfl rfl ?_
    refine r_get (pc' := 34) (v := .ref h_spare) X Y 19 rfl rfl fRX3_12 0 rfl rfl ?_
    refine r_callV0 (pc' := 37) (As := []) (rest := [.int (S1_places (st1).toNatClampNeg), .int (S2 (st1).toNatClampNeg)]) X Y 20 rfl rfl mRX3_87 (c_X2_off l G h_spare h_spare_firms h_spare_kindsTold h_spare_places h_spare_crowds h_spare_pipsLeft h_spare_notHome S1_points S1_home S1_men S1_turn S1_thrower S1_cube S1_owner S1_firms S1_kindsTold S1_places S1_crowds S1_pipsLeft S1_notHome) (mB hM hne) 1 rfl rfl [1, 2, 3, 4, 5, 6, 7] rfl rfl rfl (Nat.le_of_ble_eq_true rfl) ⟨rfl, rfl⟩ ⟨Nat.le_of_ble_eq_true rfl, Nat.le_of_ble_eq_true rfl⟩ ⟨Nat.zero_le _, Nat.zero_le _⟩ hl.1 (st' := fun u4 => [.int u4, .int (S1_places (st1).toNatClampNeg), .int (S2 (st1).toNatClampNeg)]) (fun _ => rfl) (fun u4 H locs huu4 Y => ?_)
    replace hM := mS hM huu4
    obtain ⟨J5, hJ5, hM⟩ := mJ hM
    have KJ5 : ∀ (v5 : Int32) (H : Heap) (locs : List Loc) (ls : Array Slot), J5 v5 = MM → rY G A s (wFS G h h_spare h_told S0 ++ wBD G h_spare h_spare_firms h_spare_kindsTold h_spare_places h_spare_crowds h_spare_pipsLeft h_spare_notHome S1_points S1_home S1_men S1_turn S1_thrower S1_cube S1_owner S1_firms S1_kindsTold S1_places S1_crowds S1_pipsLeft S1_notHome ++ wIA G h_told 8 S2) H locs → lv_has ls 3 [(0, .ref h), (1, .int st1)] → W p l e q_X3_isAsTold s m args below meth c H locs 0 0 Q (F0 m 46 ls [.int v5, .int (S2 (st1).toNatClampNeg)]) := by
      intro v5 H locs ls hM Y hl
      replace hM := (hJ5 _).symm.trans hM
      refine r_icmp_eq (pc' := 49) X 51 25 rfl rfl (by decide) (fun c6 => ?_) (fun c6 => ?_)
      · replace hM := mI hM c6
        refine r_iinc (pc' := 54) (L' := [(1, .int (st1 + (1 : Int32))), (0, .ref h)]) X (st1 + (1 : Int32)) hl 1 rfl rfl 28 rfl rfl (by decide) rfl (fun ls hl => ?_)
        refine r_goto X 2 29 rfl (by decide) ?_
        exact IH1 _ hM _ _ _ Y (lv_sub hl [1, 0] rfl)
      · replace hM := mE hM c6
        refine r_iconst (pc' := 50) X (0 : Int32) 26 rfl rfl rfl ?_
        exact RT (0 : Int32) _ _ _ _ _ hM (Or.inr (Or.inl ⟨rfl, rfl, _, rfl, nb (Or.inl rfl)⟩)) (X.d (k := 27) rfl) Y
    refine r_icmp_ne (pc' := 40) X 45 21 rfl rfl (by decide) (fun c7 => ?_) (fun c7 => ?_)
    · replace hM := mE hM c7
      refine r_iload_n (pc' := 46) X hl 0 rfl rfl 24 rfl rfl ?_
      exact KJ5 (S1_places (st1).toNatClampNeg) _ _ _ hM Y (lv_sub hl [1, 2] rfl)
    · replace hM := mI hM c7
      refine r_bipush (pc' := 42) X (99 : Int32) 22 rfl rfl rfl ?_
      refine r_goto X 46 23 rfl (by decide) ?_
      exact KJ5 (99 : Int32) _ _ _ hM Y (lv_sub hl [1, 2] rfl)

def M_X3_throwsSo (S0 : FS) (S1 : BD) (S2 : BD) (S3 : IA) : Option (Int32 × BD) :=
  ((lp (σ := Int32 × Int32 × BD) (β := Int32 × BD) (fun rec1 st1 => (if (6 : Int32) < st1.2.1 then (some (st1.1, st1.2.2)) else ((M_X2_copyFrom S1 st1.2.2).bind (fun u3 => ((M_X2_turnByRule u3 st1.2.1).bind (fun u4 => ((M_X3_isAsTold S0 u4.2 S3).bind (fun u5 => (if u5 = 0 then (rec1 (st1.1, (st1.2.1 + (1 : Int32)), u4.2)) else (rec1 ((st1.1 ||| ((1 : Int32) <<< (st1.2.1 &&& 31))), (st1.2.1 + (1 : Int32)), u4.2))))))))))) 1000000 ((0 : Int32), (1 : Int32), S2)).bind (fun b1 => (some (b1.1, b1.2))))
def q_X3_throwsSo : Room := { frames := 6, cells := 0, slots := 0, locals := 180 }
set_option maxHeartbeats 4000000 in
set_option maxRecDepth 100000 in
theorem c_X3_throwsSo (l : Launch) (G : gT) (h a1 h_spare h_told a1_firms a1_kindsTold a1_places a1_crowds a1_pipsLeft a1_notHome h_spare_firms h_spare_kindsTold h_spare_places h_spare_crowds h_spare_pipsLeft h_spare_notHome : Nat) (S0 : Int32) (S1_points : Int32) (S1_home : Int32) (S1_men : Int32) (S1_turn : Int32) (S1_thrower : Int32) (S1_cube : Int32) (S1_owner : Int32) (S1_firms : Nat → Int32) (S1_kindsTold : Nat → Int32) (S1_places : Nat → Int32) (S1_crowds : Nat → Int32) (S1_pipsLeft : Nat → Int32) (S1_notHome : Nat → Int32) (S2_points : Int32) (S2_home : Int32) (S2_men : Int32) (S2_turn : Int32) (S2_thrower : Int32) (S2_cube : Int32) (S2_owner : Int32) (S2_firms : Nat → Int32) (S2_kindsTold : Nat → Int32) (S2_places : Nat → Int32) (S2_crowds : Nat → Int32) (S2_pipsLeft : Nat → Int32) (S2_notHome : Nat → Int32) (S3 : Nat → Int32) : CT l G yX3_throwsSo cX3_throwsSo 4 (some .int) q_X3_throwsSo [.ref h, .ref a1] (wFS G h h_spare h_told S0 ++ wBD G a1 a1_firms a1_kindsTold a1_places a1_crowds a1_pipsLeft a1_notHome S1_points S1_home S1_men S1_turn S1_thrower S1_cube S1_owner S1_firms S1_kindsTold S1_places S1_crowds S1_pipsLeft S1_notHome ++ wBD G h_spare h_spare_firms h_spare_kindsTold h_spare_places h_spare_crowds h_spare_pipsLeft h_spare_notHome S2_points S2_home S2_men S2_turn S2_thrower S2_cube S2_owner S2_firms S2_kindsTold S2_places S2_crowds S2_pipsLeft S2_notHome ++ wIA G h_told 8 S3) (M_X3_throwsSo S0 (S1_points, S1_home, S1_men, S1_turn, S1_thrower, S1_cube, S1_owner, S1_firms, S1_kindsTold, S1_places, S1_crowds, S1_pipsLeft, S1_notHome) (S2_points, S2_home, S2_men, S2_turn, S2_thrower, S2_cube, S2_owner, S2_firms, S2_kindsTold, S2_places, S2_crowds, S2_pipsLeft, S2_notHome) S3) (fun u => some (.int u.1)) (fun u => wFS G h h_spare h_told S0 ++ wBD G a1 a1_firms a1_kindsTold a1_places a1_crowds a1_pipsLeft a1_notHome S1_points S1_home S1_men S1_turn S1_thrower S1_cube S1_owner S1_firms S1_kindsTold S1_places S1_crowds S1_pipsLeft S1_notHome ++ wBD G h_spare h_spare_firms h_spare_kindsTold h_spare_places h_spare_crowds h_spare_pipsLeft h_spare_notHome u.2.1 u.2.2.1 u.2.2.2.1 u.2.2.2.2.1 u.2.2.2.2.2.1 u.2.2.2.2.2.2.1 u.2.2.2.2.2.2.2.1 u.2.2.2.2.2.2.2.2.1 u.2.2.2.2.2.2.2.2.2.1 u.2.2.2.2.2.2.2.2.2.2.1 u.2.2.2.2.2.2.2.2.2.2.2.1 u.2.2.2.2.2.2.2.2.2.2.2.2.1 u.2.2.2.2.2.2.2.2.2.2.2.2.2 ++ wIA G h_told 8 S3) := by
  refine CT.of (P := PX3_throwsSo) (by decide) dPX3_throwsSo (Nat.le_of_ble_eq_true rfl) ?_
  intro p e s m args below meth c A Q ls hne X RT Y hl
  have hl : lv_has ls 4 [(0, .ref h), (1, .ref a1)] := hl
  generalize hM : M_X3_throwsSo S0 (S1_points, S1_home, S1_men, S1_turn, S1_thrower, S1_cube, S1_owner, S1_firms, S1_kindsTold, S1_places, S1_crowds, S1_pipsLeft, S1_notHome) (S2_points, S2_home, S2_men, S2_turn, S2_thrower, S2_cube, S2_owner, S2_firms, S2_kindsTold, S2_places, S2_crowds, S2_pipsLeft, S2_notHome) S3 = MM at hne RT
  unfold M_X3_throwsSo at hM
  refine r_iconst (pc' := 1) X (0 : Int32) 0 rfl rfl rfl ?_
  refine r_istore_n (pc' := 2) (L' := [(2, .int (0 : Int32)), (0, .ref h), (1, .ref a1)]) X hl rfl 1 rfl rfl (by decide) rfl (fun ls hl => ?_)
  refine r_iconst (pc' := 3) X (1 : Int32) 2 rfl rfl rfl ?_
  refine r_istore_n (pc' := 4) (L' := [(3, .int (1 : Int32)), (2, .int (0 : Int32)), (0, .ref h), (1, .ref a1)]) X hl rfl 3 rfl rfl (by decide) rfl (fun ls hl => ?_)
  obtain ⟨LL1, hL1, hne1, hX1⟩ := mL hM hne
  have KX1 : ∀ (b1_1 : Int32) (b1_2_points : Int32) (b1_2_home : Int32) (b1_2_men : Int32) (b1_2_turn : Int32) (b1_2_thrower : Int32) (b1_2_cube : Int32) (b1_2_owner : Int32) (b1_2_firms : Nat → Int32) (b1_2_kindsTold : Nat → Int32) (b1_2_places : Nat → Int32) (b1_2_crowds : Nat → Int32) (b1_2_pipsLeft : Nat → Int32) (b1_2_notHome : Nat → Int32) (H : Heap) (locs : List Loc) (ls : Array Slot), some (b1_1, (b1_2_points, b1_2_home, b1_2_men, b1_2_turn, b1_2_thrower, b1_2_cube, b1_2_owner, b1_2_firms, b1_2_kindsTold, b1_2_places, b1_2_crowds, b1_2_pipsLeft, b1_2_notHome)) = LL1 → rY G A s (wFS G h h_spare h_told S0 ++ wBD G a1 a1_firms a1_kindsTold a1_places a1_crowds a1_pipsLeft a1_notHome S1_points S1_home S1_men S1_turn S1_thrower S1_cube S1_owner S1_firms S1_kindsTold S1_places S1_crowds S1_pipsLeft S1_notHome ++ wBD G h_spare h_spare_firms h_spare_kindsTold h_spare_places h_spare_crowds h_spare_pipsLeft h_spare_notHome b1_2_points b1_2_home b1_2_men b1_2_turn b1_2_thrower b1_2_cube b1_2_owner b1_2_firms b1_2_kindsTold b1_2_places b1_2_crowds b1_2_pipsLeft b1_2_notHome ++ wIA G h_told 8 S3) H locs → lv_has ls 4 [(2, .int b1_1)] → W p l e q_X3_throwsSo s m args below meth c H locs 0 0 Q (F0 m 46 ls []) := by
    intro b1_1 b1_2_points b1_2_home b1_2_men b1_2_turn b1_2_thrower b1_2_cube b1_2_owner b1_2_firms b1_2_kindsTold b1_2_places b1_2_crowds b1_2_pipsLeft b1_2_notHome H locs ls hM Y hl
    replace hM := hX1 _ hM
    refine r_iload_n (pc' := 47) X hl 0 rfl rfl 27 rfl rfl ?_
    exact RT (b1_1, (b1_2_points, b1_2_home, b1_2_men, b1_2_turn, b1_2_thrower, b1_2_cube, b1_2_owner, b1_2_firms, b1_2_kindsTold, b1_2_places, b1_2_crowds, b1_2_pipsLeft, b1_2_notHome)) _ _ _ _ _ hM (Or.inl ⟨rfl, rfl, _, rfl⟩) (X.d (k := 28) rfl) Y
  refine lp_rule (I := fun (st1 : Int32 × Int32 × BD) => ∀ (H : Heap) (locs : List Loc) (ls : Array Slot), rY G A s (wFS G h h_spare h_told S0 ++ wBD G a1 a1_firms a1_kindsTold a1_places a1_crowds a1_pipsLeft a1_notHome S1_points S1_home S1_men S1_turn S1_thrower S1_cube S1_owner S1_firms S1_kindsTold S1_places S1_crowds S1_pipsLeft S1_notHome ++ wBD G h_spare h_spare_firms h_spare_kindsTold h_spare_places h_spare_crowds h_spare_pipsLeft h_spare_notHome st1.2.2.1 st1.2.2.2.1 st1.2.2.2.2.1 st1.2.2.2.2.2.1 st1.2.2.2.2.2.2.1 st1.2.2.2.2.2.2.2.1 st1.2.2.2.2.2.2.2.2.1 st1.2.2.2.2.2.2.2.2.2.1 st1.2.2.2.2.2.2.2.2.2.2.1 st1.2.2.2.2.2.2.2.2.2.2.2.1 st1.2.2.2.2.2.2.2.2.2.2.2.2.1 st1.2.2.2.2.2.2.2.2.2.2.2.2.2.1 st1.2.2.2.2.2.2.2.2.2.2.2.2.2.2 ++ wIA G h_told 8 S3) H locs → lv_has ls 4 [(0, .ref h), (1, .ref a1), (2, .int st1.1), (3, .int st1.2.1)] → W p l e q_X3_throwsSo s m args below meth c H locs 0 0 Q (F0 m 4 ls [])) hne1 (fun rec1 st1 IH1 hM => ?_) _ _ hL1 _ _ _ Y (lv_sub hl [2, 3, 1, 0] rfl)
  intro H locs ls Y hl
  obtain ⟨st1_1, st1_2_1, ⟨st1_2_2_points, st1_2_2_home, st1_2_2_men, st1_2_2_turn, st1_2_2_thrower, st1_2_2_cube, st1_2_2_owner, st1_2_2_firms, st1_2_2_kindsTold, st1_2_2_places, st1_2_2_crowds, st1_2_2_pipsLeft, st1_2_2_notHome⟩⟩ := st1
  replace Y : rY G A s (wFS G h h_spare h_told S0 ++ wBD G a1 a1_firms a1_kindsTold a1_places a1_crowds a1_pipsLeft a1_notHome S1_points S1_home S1_men S1_turn S1_thrower S1_cube S1_owner S1_firms S1_kindsTold S1_places S1_crowds S1_pipsLeft S1_notHome ++ wBD G h_spare h_spare_firms h_spare_kindsTold h_spare_places h_spare_crowds h_spare_pipsLeft h_spare_notHome st1_2_2_points st1_2_2_home st1_2_2_men st1_2_2_turn st1_2_2_thrower st1_2_2_cube st1_2_2_owner st1_2_2_firms st1_2_2_kindsTold st1_2_2_places st1_2_2_crowds st1_2_2_pipsLeft st1_2_2_notHome ++ wIA G h_told 8 S3) H locs := Y
  replace hl : lv_has ls 4 [(0, .ref h), (1, .ref a1), (2, .int st1_1), (3, .int st1_2_1)] := hl
  refine r_iload_n (pc' := 5) X hl 3 rfl rfl 4 rfl rfl ?_
  refine r_bipush (pc' := 7) X (6 : Int32) 5 rfl rfl rfl ?_
  refine r_icmp_gt (pc' := 10) X 46 6 rfl rfl (by decide) (fun c2 => ?_) (fun c2 => ?_)
  · replace hM := mI hM c2
    exact KX1 st1_1 st1_2_2_points st1_2_2_home st1_2_2_men st1_2_2_turn st1_2_2_thrower st1_2_2_cube st1_2_2_owner st1_2_2_firms st1_2_2_kindsTold st1_2_2_places st1_2_2_crowds st1_2_2_pipsLeft st1_2_2_notHome _ _ _ hM Y (lv_sub hl [2] rfl)
  · replace hM := mE hM c2
    refine r_aload_n (pc' := 11) X hl 0 rfl rfl 7 rfl rfl ?_
    refine r_get (pc' := 14) (v := .ref h_spare) X Y 8 rfl rfl fRX3_12 0 rfl rfl ?_
    refine r_aload_n (pc' := 15) X hl 1 rfl rfl 9 rfl rfl ?_
    refine r_callV (pc' := 18) (As := [.ref a1]) (rest := []) (wr := (wFS G h h_spare h_told S0 ++ wIA G h_told 8 S3 : va_W)) X Y 10 rfl rfl mRX3_27 (c_X2_copyFrom l G h_spare a1 a1_firms a1_kindsTold a1_places a1_crowds a1_pipsLeft a1_notHome h_spare_firms h_spare_kindsTold h_spare_places h_spare_crowds h_spare_pipsLeft h_spare_notHome S1_points S1_home S1_men S1_turn S1_thrower S1_cube S1_owner S1_firms S1_kindsTold S1_places S1_crowds S1_pipsLeft S1_notHome st1_2_2_points st1_2_2_home st1_2_2_men st1_2_2_turn st1_2_2_thrower st1_2_2_cube st1_2_2_owner st1_2_2_firms st1_2_2_kindsTold st1_2_2_places st1_2_2_crowds st1_2_2_pipsLeft st1_2_2_notHome) (mB hM hne1) 8 rfl rfl [1, 2, 3, 4, 5, 6, 7, 8, 9, 10, 11, 12, 13, 14] [0, 15] [0, 2, 3, 4, 5, 6, 7, 8, 9, 10, 11, 12, 13, 14, 15, 1] rfl rfl ⟨rfl, rfl, rfl⟩ rfl (w2 := fun u3 => wFS G h h_spare h_told S0 ++ wBD G a1 a1_firms a1_kindsTold a1_places a1_crowds a1_pipsLeft a1_notHome S1_points S1_home S1_men S1_turn S1_thrower S1_cube S1_owner S1_firms S1_kindsTold S1_places S1_crowds S1_pipsLeft S1_notHome ++ wBD G h_spare h_spare_firms h_spare_kindsTold h_spare_places h_spare_crowds h_spare_pipsLeft h_spare_notHome u3.1 u3.2.1 u3.2.2.1 u3.2.2.2.1 u3.2.2.2.2.1 u3.2.2.2.2.2.1 u3.2.2.2.2.2.2.1 u3.2.2.2.2.2.2.2.1 u3.2.2.2.2.2.2.2.2.1 u3.2.2.2.2.2.2.2.2.2.1 u3.2.2.2.2.2.2.2.2.2.2.1 u3.2.2.2.2.2.2.2.2.2.2.2.1 u3.2.2.2.2.2.2.2.2.2.2.2.2 ++ wIA G h_told 8 S3) (fun _ => rfl) rfl (Nat.le_of_ble_eq_true rfl) ⟨rfl, rfl⟩ ⟨Nat.le_of_ble_eq_true rfl, Nat.le_of_ble_eq_true rfl⟩ ⟨Nat.zero_le _, Nat.zero_le _⟩ hl.1 (st' := fun u3 => []) (fun _ => rfl) (fun u3 H locs huu3 Y => ?_)
    obtain ⟨u3_points, u3_home, u3_men, u3_turn, u3_thrower, u3_cube, u3_owner, u3_firms, u3_kindsTold, u3_places, u3_crowds, u3_pipsLeft, u3_notHome⟩ := u3
    replace Y : rY G A s (wFS G h h_spare h_told S0 ++ wBD G a1 a1_firms a1_kindsTold a1_places a1_crowds a1_pipsLeft a1_notHome S1_points S1_home S1_men S1_turn S1_thrower S1_cube S1_owner S1_firms S1_kindsTold S1_places S1_crowds S1_pipsLeft S1_notHome ++ wBD G h_spare h_spare_firms h_spare_kindsTold h_spare_places h_spare_crowds h_spare_pipsLeft h_spare_notHome u3_points u3_home u3_men u3_turn u3_thrower u3_cube u3_owner u3_firms u3_kindsTold u3_places u3_crowds u3_pipsLeft u3_notHome ++ wIA G h_told 8 S3) H locs := Y
    replace hM := mS hM huu3
    show W p l e q_X3_throwsSo s m args below meth c H locs 0 0 Q (F0 m 18 ls [])
    refine r_aload_n (pc' := 19) X hl 0 rfl rfl 11 rfl rfl ?_
    refine r_get (pc' := 22) (v := .ref h_spare) X Y 12 rfl rfl fRX3_12 0 rfl rfl ?_
    refine r_iload_n (pc' := 23) X hl 3 rfl rfl 13 rfl rfl ?_
    refine r_callV (pc' := 26) (As := [.int st1_2_1]) (rest := []) (wr := (wFS G h h_spare h_told S0 ++ wBD G a1 a1_firms a1_kindsTold a1_places a1_crowds a1_pipsLeft a1_notHome S1_points S1_home S1_men S1_turn S1_thrower S1_cube S1_owner S1_firms S1_kindsTold S1_places S1_crowds S1_pipsLeft S1_notHome ++ wIA G h_told 8 S3 : va_W)) X Y 14 rfl rfl mRX3_91 (c_X2_turnByRule l G h_spare h_spare_firms h_spare_kindsTold h_spare_places h_spare_crowds h_spare_pipsLeft h_spare_notHome u3_points u3_home u3_men u3_turn u3_thrower u3_cube u3_owner u3_firms u3_kindsTold u3_places u3_crowds u3_pipsLeft u3_notHome st1_2_1) (mB hM hne1) 8 rfl rfl [8, 9, 10, 11, 12, 13, 14] [0, 1, 2, 3, 4, 5, 6, 7, 15] [0, 1, 2, 3, 4, 5, 6, 7, 9, 10, 11, 12, 13, 14, 15, 8] rfl rfl ⟨rfl, rfl, rfl⟩ rfl (w2 := fun u4 => wFS G h h_spare h_told S0 ++ wBD G a1 a1_firms a1_kindsTold a1_places a1_crowds a1_pipsLeft a1_notHome S1_points S1_home S1_men S1_turn S1_thrower S1_cube S1_owner S1_firms S1_kindsTold S1_places S1_crowds S1_pipsLeft S1_notHome ++ wBD G h_spare h_spare_firms h_spare_kindsTold h_spare_places h_spare_crowds h_spare_pipsLeft h_spare_notHome u4.2.1 u4.2.2.1 u4.2.2.2.1 u4.2.2.2.2.1 u4.2.2.2.2.2.1 u4.2.2.2.2.2.2.1 u4.2.2.2.2.2.2.2.1 u4.2.2.2.2.2.2.2.2.1 u4.2.2.2.2.2.2.2.2.2.1 u4.2.2.2.2.2.2.2.2.2.2.1 u4.2.2.2.2.2.2.2.2.2.2.2.1 u4.2.2.2.2.2.2.2.2.2.2.2.2.1 u4.2.2.2.2.2.2.2.2.2.2.2.2.2 ++ wIA G h_told 8 S3) (fun _ => rfl) rfl (Nat.le_of_ble_eq_true rfl) ⟨rfl, rfl⟩ ⟨Nat.le_of_ble_eq_true rfl, Nat.le_of_ble_eq_true rfl⟩ ⟨Nat.zero_le _, Nat.zero_le _⟩ hl.1 (st' := fun u4 => [.int u4.1]) (fun _ => rfl) (fun u4 H locs huu4 Y => ?_)
    obtain ⟨u4_1, ⟨u4_2_points, u4_2_home, u4_2_men, u4_2_turn, u4_2_thrower, u4_2_cube, u4_2_owner, u4_2_firms, u4_2_kindsTold, u4_2_places, u4_2_crowds, u4_2_pipsLeft, u4_2_notHome⟩⟩ := u4
    replace Y : rY G A s (wFS G h h_spare h_told S0 ++ wBD G a1 a1_firms a1_kindsTold a1_places a1_crowds a1_pipsLeft a1_notHome S1_points S1_home S1_men S1_turn S1_thrower S1_cube S1_owner S1_firms S1_kindsTold S1_places S1_crowds S1_pipsLeft S1_notHome ++ wBD G h_spare h_spare_firms h_spare_kindsTold h_spare_places h_spare_crowds h_spare_pipsLeft h_spare_notHome u4_2_points u4_2_home u4_2_men u4_2_turn u4_2_thrower u4_2_cube u4_2_owner u4_2_firms u4_2_kindsTold u4_2_places u4_2_crowds u4_2_pipsLeft u4_2_notHome ++ wIA G h_told 8 S3) H locs := Y
    replace hM := mS hM huu4
    show W p l e q_X3_throwsSo s m args below meth c H locs 0 0 Q (F0 m 26 ls [.int u4_1])
    refine r_pop (pc' := 27) X 15 rfl rfl rfl ?_
    refine r_aload_n (pc' := 28) X hl 0 rfl rfl 16 rfl rfl ?_
    refine r_callV0 (pc' := 31) (As := []) (rest := []) X Y 17 rfl rfl mRX3_94 (c_X3_isAsTold l G h h_spare h_told h_spare_firms h_spare_kindsTold h_spare_places h_spare_crowds h_spare_pipsLeft h_spare_notHome S0 u4_2_points u4_2_home u4_2_men u4_2_turn u4_2_thrower u4_2_cube u4_2_owner u4_2_firms u4_2_kindsTold u4_2_places u4_2_crowds u4_2_pipsLeft u4_2_notHome S3) (mB hM hne1) 0 rfl rfl [0, 8, 9, 10, 11, 12, 13, 14, 15] rfl rfl rfl (Nat.le_of_ble_eq_true rfl) ⟨rfl, rfl⟩ ⟨Nat.le_of_ble_eq_true rfl, Nat.le_of_ble_eq_true rfl⟩ ⟨Nat.zero_le _, Nat.zero_le _⟩ hl.1 (st' := fun u5 => [.int u5]) (fun _ => rfl) (fun u5 H locs huu5 Y => ?_)
    replace hM := mS hM huu5
    refine r_if_eq (pc' := 34) X 40 18 rfl rfl (by decide) (fun c6 => ?_) (fun c6 => ?_)
    · replace hM := mI hM c6
      refine r_iinc (pc' := 43) (L' := [(3, .int (st1_2_1 + (1 : Int32))), (0, .ref h), (1, .ref a1), (2, .int st1_1)]) X (st1_2_1 + (1 : Int32)) hl 3 rfl rfl 25 rfl rfl (by decide) rfl (fun ls hl => ?_)
      refine r_goto X 4 26 rfl (by decide) ?_
      exact IH1 _ hM _ _ _ Y (lv_sub hl [1, 2, 3, 0] rfl)
    · replace hM := mE hM c6
      refine r_iload_n (pc' := 35) X hl 2 rfl rfl 19 rfl rfl ?_
      refine r_iconst (pc' := 36) X (1 : Int32) 20 rfl rfl rfl ?_
      refine r_iload_n (pc' := 37) X hl 3 rfl rfl 21 rfl rfl ?_
      refine r_ishl (pc' := 38) X 22 rfl rfl ?_
      refine r_ior (pc' := 39) X 23 rfl rfl ?_
      refine r_istore_n (pc' := 40) (L' := [(2, .int (st1_1 ||| ((1 : Int32) <<< (st1_2_1 &&& 31)))), (0, .ref h), (1, .ref a1), (3, .int st1_2_1)]) X hl rfl 24 rfl rfl (by decide) rfl (fun ls hl => ?_)
      refine r_iinc (pc' := 43) (L' := [(3, .int (st1_2_1 + (1 : Int32))), (2, .int (st1_1 ||| ((1 : Int32) <<< (st1_2_1 &&& 31)))), (0, .ref h), (1, .ref a1)]) X (st1_2_1 + (1 : Int32)) hl 3 rfl rfl 25 rfl rfl (by decide) rfl (fun ls hl => ?_)
      refine r_goto X 4 26 rfl (by decide) ?_
      exact IH1 _ hM _ _ _ Y (lv_sub hl [2, 3, 1, 0] rfl)

def M_X3_menSo (S0 : BD) (S1 : FS) (S2 : BD) (S3 : IA) (i2 : Int32) : Option (Int32 × BD) :=
  ((M_X2_menWhoCan S0 (bd_thrower S0) i2).bind (fun u1 => ((lp (σ := Int32 × Int32 × BD) (β := Int32 × BD) (fun rec2 st2 => (if (bd_men S0) ≤ st2.2.1 then (some (st2.1, st2.2.2)) else (if (u1 &&& ((1 : Int32) <<< (st2.2.1 &&& 31))) = 0 then (rec2 (st2.1, (st2.2.1 + (1 : Int32)), st2.2.2)) else ((M_X2_copyFrom S0 st2.2.2).bind (fun u5 => ((M_X2_go u5 st2.2.1 i2).bind (fun u6 => ((M_X3_isAsTold S1 u6.2 S3).bind (fun u7 => (if u7 = 0 then (rec2 (st2.1, (st2.2.1 + (1 : Int32)), u6.2)) else (rec2 ((st2.1 ||| ((1 : Int32) <<< (st2.2.1 &&& 31))), (st2.2.1 + (1 : Int32)), u6.2)))))))))))) 1000000 ((0 : Int32), (0 : Int32), S2)).bind (fun b2 => (some (b2.1, b2.2))))))
def q_X3_menSo : Room := { frames := 5, cells := 0, slots := 0, locals := 157 }
set_option maxHeartbeats 4000000 in
set_option maxRecDepth 100000 in
theorem c_X3_menSo (l : Launch) (G : gT) (h a1 a1_firms a1_kindsTold a1_places a1_crowds a1_pipsLeft a1_notHome h_spare h_told h_spare_firms h_spare_kindsTold h_spare_places h_spare_crowds h_spare_pipsLeft h_spare_notHome : Nat) (S0_points : Int32) (S0_home : Int32) (S0_men : Int32) (S0_turn : Int32) (S0_thrower : Int32) (S0_cube : Int32) (S0_owner : Int32) (S0_firms : Nat → Int32) (S0_kindsTold : Nat → Int32) (S0_places : Nat → Int32) (S0_crowds : Nat → Int32) (S0_pipsLeft : Nat → Int32) (S0_notHome : Nat → Int32) (S1 : Int32) (S2_points : Int32) (S2_home : Int32) (S2_men : Int32) (S2_turn : Int32) (S2_thrower : Int32) (S2_cube : Int32) (S2_owner : Int32) (S2_firms : Nat → Int32) (S2_kindsTold : Nat → Int32) (S2_places : Nat → Int32) (S2_crowds : Nat → Int32) (S2_pipsLeft : Nat → Int32) (S2_notHome : Nat → Int32) (S3 : Nat → Int32) (i2 : Int32) : CT l G yX3_menSo cX3_menSo 6 (some .int) q_X3_menSo [.ref h, .ref a1, .int i2] (wBD G a1 a1_firms a1_kindsTold a1_places a1_crowds a1_pipsLeft a1_notHome S0_points S0_home S0_men S0_turn S0_thrower S0_cube S0_owner S0_firms S0_kindsTold S0_places S0_crowds S0_pipsLeft S0_notHome ++ wFS G h h_spare h_told S1 ++ wBD G h_spare h_spare_firms h_spare_kindsTold h_spare_places h_spare_crowds h_spare_pipsLeft h_spare_notHome S2_points S2_home S2_men S2_turn S2_thrower S2_cube S2_owner S2_firms S2_kindsTold S2_places S2_crowds S2_pipsLeft S2_notHome ++ wIA G h_told 8 S3) (M_X3_menSo (S0_points, S0_home, S0_men, S0_turn, S0_thrower, S0_cube, S0_owner, S0_firms, S0_kindsTold, S0_places, S0_crowds, S0_pipsLeft, S0_notHome) S1 (S2_points, S2_home, S2_men, S2_turn, S2_thrower, S2_cube, S2_owner, S2_firms, S2_kindsTold, S2_places, S2_crowds, S2_pipsLeft, S2_notHome) S3 i2) (fun u => some (.int u.1)) (fun u => wBD G a1 a1_firms a1_kindsTold a1_places a1_crowds a1_pipsLeft a1_notHome S0_points S0_home S0_men S0_turn S0_thrower S0_cube S0_owner S0_firms S0_kindsTold S0_places S0_crowds S0_pipsLeft S0_notHome ++ wFS G h h_spare h_told S1 ++ wBD G h_spare h_spare_firms h_spare_kindsTold h_spare_places h_spare_crowds h_spare_pipsLeft h_spare_notHome u.2.1 u.2.2.1 u.2.2.2.1 u.2.2.2.2.1 u.2.2.2.2.2.1 u.2.2.2.2.2.2.1 u.2.2.2.2.2.2.2.1 u.2.2.2.2.2.2.2.2.1 u.2.2.2.2.2.2.2.2.2.1 u.2.2.2.2.2.2.2.2.2.2.1 u.2.2.2.2.2.2.2.2.2.2.2.1 u.2.2.2.2.2.2.2.2.2.2.2.2.1 u.2.2.2.2.2.2.2.2.2.2.2.2.2 ++ wIA G h_told 8 S3) := by
  refine CT.of (P := PX3_menSo) (by decide) dPX3_menSo (Nat.le_of_ble_eq_true rfl) ?_
  intro p e s m args below meth c A Q ls hne X RT Y hl
  have hl : lv_has ls 6 [(0, .ref h), (1, .ref a1), (2, .int i2)] := hl
  generalize hM : M_X3_menSo (S0_points, S0_home, S0_men, S0_turn, S0_thrower, S0_cube, S0_owner, S0_firms, S0_kindsTold, S0_places, S0_crowds, S0_pipsLeft, S0_notHome) S1 (S2_points, S2_home, S2_men, S2_turn, S2_thrower, S2_cube, S2_owner, S2_firms, S2_kindsTold, S2_places, S2_crowds, S2_pipsLeft, S2_notHome) S3 i2 = MM at hne RT
  unfold M_X3_menSo at hM
  refine r_iconst (pc' := 1) X (0 : Int32) 0 rfl rfl rfl ?_
  refine r_istore_n (pc' := 2) (L' := [(3, .int (0 : Int32)), (0, .ref h), (1, .ref a1), (2, .int i2)]) X hl rfl 1 rfl rfl (by decide) rfl (fun ls hl => ?_)
  refine r_aload_n (pc' := 3) X hl 2 rfl rfl 2 rfl rfl ?_
  refine r_aload_n (pc' := 4) X hl 2 rfl rfl 3 rfl rfl ?_
  refine r_getN (pc' := 7) (v := .int S0_thrower) X Y 4 rfl rfl fRX3_98 0 rfl rfl ?_
  refine r_iload_n (pc' := 8) X hl 3 rfl rfl 5 rfl rfl ?_
  refine r_callV0 (pc' := 11) (As := [.int S0_thrower, .int i2]) (rest := []) X Y 6 rfl rfl mRX3_101 (c_X2_menWhoCan l G a1 a1_firms a1_kindsTold a1_places a1_crowds a1_pipsLeft a1_notHome S0_points S0_home S0_men S0_turn S0_thrower S0_cube S0_owner S0_firms S0_kindsTold S0_places S0_crowds S0_pipsLeft S0_notHome S0_thrower i2) (mB hM hne) 0 rfl rfl [0, 1, 2, 3, 4, 5, 6] rfl rfl rfl (Nat.le_of_ble_eq_true rfl) ⟨rfl, rfl⟩ ⟨Nat.le_of_ble_eq_true rfl, Nat.le_of_ble_eq_true rfl⟩ ⟨Nat.zero_le _, Nat.zero_le _⟩ hl.1 (st' := fun u1 => [.int u1]) (fun _ => rfl) (fun u1 H locs huu1 Y => ?_)
  replace hM := mS hM huu1
  refine r_istore (pc' := 13) (L' := [(4, .int u1), (3, .int (0 : Int32)), (0, .ref h), (1, .ref a1), (2, .int i2)]) X hl 7 rfl rfl (by decide) rfl (fun ls hl => ?_)
  refine r_iconst (pc' := 14) X (0 : Int32) 8 rfl rfl rfl ?_
  refine r_istore (pc' := 16) (L' := [(5, .int (0 : Int32)), (4, .int u1), (3, .int (0 : Int32)), (0, .ref h), (1, .ref a1), (2, .int i2)]) X hl 9 rfl rfl (by decide) rfl (fun ls hl => ?_)
  obtain ⟨LL2, hL2, hne2, hX2⟩ := mL hM hne
  have KX2 : ∀ (b2_1 : Int32) (b2_2_points : Int32) (b2_2_home : Int32) (b2_2_men : Int32) (b2_2_turn : Int32) (b2_2_thrower : Int32) (b2_2_cube : Int32) (b2_2_owner : Int32) (b2_2_firms : Nat → Int32) (b2_2_kindsTold : Nat → Int32) (b2_2_places : Nat → Int32) (b2_2_crowds : Nat → Int32) (b2_2_pipsLeft : Nat → Int32) (b2_2_notHome : Nat → Int32) (H : Heap) (locs : List Loc) (ls : Array Slot), some (b2_1, (b2_2_points, b2_2_home, b2_2_men, b2_2_turn, b2_2_thrower, b2_2_cube, b2_2_owner, b2_2_firms, b2_2_kindsTold, b2_2_places, b2_2_crowds, b2_2_pipsLeft, b2_2_notHome)) = LL2 → rY G A s (wBD G a1 a1_firms a1_kindsTold a1_places a1_crowds a1_pipsLeft a1_notHome S0_points S0_home S0_men S0_turn S0_thrower S0_cube S0_owner S0_firms S0_kindsTold S0_places S0_crowds S0_pipsLeft S0_notHome ++ wFS G h h_spare h_told S1 ++ wBD G h_spare h_spare_firms h_spare_kindsTold h_spare_places h_spare_crowds h_spare_pipsLeft h_spare_notHome b2_2_points b2_2_home b2_2_men b2_2_turn b2_2_thrower b2_2_cube b2_2_owner b2_2_firms b2_2_kindsTold b2_2_places b2_2_crowds b2_2_pipsLeft b2_2_notHome ++ wIA G h_told 8 S3) H locs → lv_has ls 6 [(3, .int b2_1)] → W p l e q_X3_menSo s m args below meth c H locs 0 0 Q (F0 m 74 ls []) := by
    intro b2_1 b2_2_points b2_2_home b2_2_men b2_2_turn b2_2_thrower b2_2_cube b2_2_owner b2_2_firms b2_2_kindsTold b2_2_places b2_2_crowds b2_2_pipsLeft b2_2_notHome H locs ls hM Y hl
    replace hM := hX2 _ hM
    refine r_iload_n (pc' := 75) X hl 0 rfl rfl 41 rfl rfl ?_
    exact RT (b2_1, (b2_2_points, b2_2_home, b2_2_men, b2_2_turn, b2_2_thrower, b2_2_cube, b2_2_owner, b2_2_firms, b2_2_kindsTold, b2_2_places, b2_2_crowds, b2_2_pipsLeft, b2_2_notHome)) _ _ _ _ _ hM (Or.inl ⟨rfl, rfl, _, rfl⟩) (X.d (k := 42) rfl) Y
  refine lp_rule (I := fun (st2 : Int32 × Int32 × BD) => ∀ (H : Heap) (locs : List Loc) (ls : Array Slot), rY G A s (wBD G a1 a1_firms a1_kindsTold a1_places a1_crowds a1_pipsLeft a1_notHome S0_points S0_home S0_men S0_turn S0_thrower S0_cube S0_owner S0_firms S0_kindsTold S0_places S0_crowds S0_pipsLeft S0_notHome ++ wFS G h h_spare h_told S1 ++ wBD G h_spare h_spare_firms h_spare_kindsTold h_spare_places h_spare_crowds h_spare_pipsLeft h_spare_notHome st2.2.2.1 st2.2.2.2.1 st2.2.2.2.2.1 st2.2.2.2.2.2.1 st2.2.2.2.2.2.2.1 st2.2.2.2.2.2.2.2.1 st2.2.2.2.2.2.2.2.2.1 st2.2.2.2.2.2.2.2.2.2.1 st2.2.2.2.2.2.2.2.2.2.2.1 st2.2.2.2.2.2.2.2.2.2.2.2.1 st2.2.2.2.2.2.2.2.2.2.2.2.2.1 st2.2.2.2.2.2.2.2.2.2.2.2.2.2.1 st2.2.2.2.2.2.2.2.2.2.2.2.2.2.2 ++ wIA G h_told 8 S3) H locs → lv_has ls 6 [(0, .ref h), (1, .ref a1), (2, .int i2), (3, .int st2.1), (4, .int u1), (5, .int st2.2.1)] → W p l e q_X3_menSo s m args below meth c H locs 0 0 Q (F0 m 16 ls [])) hne2 (fun rec2 st2 IH2 hM => ?_) _ _ hL2 _ _ _ Y (lv_sub hl [3, 4, 5, 2, 1, 0] rfl)
  intro H locs ls Y hl
  obtain ⟨st2_1, st2_2_1, ⟨st2_2_2_points, st2_2_2_home, st2_2_2_men, st2_2_2_turn, st2_2_2_thrower, st2_2_2_cube, st2_2_2_owner, st2_2_2_firms, st2_2_2_kindsTold, st2_2_2_places, st2_2_2_crowds, st2_2_2_pipsLeft, st2_2_2_notHome⟩⟩ := st2
  replace Y : rY G A s (wBD G a1 a1_firms a1_kindsTold a1_places a1_crowds a1_pipsLeft a1_notHome S0_points S0_home S0_men S0_turn S0_thrower S0_cube S0_owner S0_firms S0_kindsTold S0_places S0_crowds S0_pipsLeft S0_notHome ++ wFS G h h_spare h_told S1 ++ wBD G h_spare h_spare_firms h_spare_kindsTold h_spare_places h_spare_crowds h_spare_pipsLeft h_spare_notHome st2_2_2_points st2_2_2_home st2_2_2_men st2_2_2_turn st2_2_2_thrower st2_2_2_cube st2_2_2_owner st2_2_2_firms st2_2_2_kindsTold st2_2_2_places st2_2_2_crowds st2_2_2_pipsLeft st2_2_2_notHome ++ wIA G h_told 8 S3) H locs := Y
  replace hl : lv_has ls 6 [(0, .ref h), (1, .ref a1), (2, .int i2), (3, .int st2_1), (4, .int u1), (5, .int st2_2_1)] := hl
  refine r_iload (pc' := 18) X hl 5 rfl 10 rfl rfl ?_
  refine r_aload_n (pc' := 19) X hl 1 rfl rfl 11 rfl rfl ?_
  refine r_getN (pc' := 22) (v := .int S0_men) X Y 12 rfl rfl fRX3_31 0 rfl rfl ?_
  refine r_icmp_ge (pc' := 25) X 74 13 rfl rfl (by decide) (fun c3 => ?_) (fun c3 => ?_)
  · replace hM := mI hM c3
    exact KX2 st2_1 st2_2_2_points st2_2_2_home st2_2_2_men st2_2_2_turn st2_2_2_thrower st2_2_2_cube st2_2_2_owner st2_2_2_firms st2_2_2_kindsTold st2_2_2_places st2_2_2_crowds st2_2_2_pipsLeft st2_2_2_notHome _ _ _ hM Y (lv_sub hl [3] rfl)
  · replace hM := mE hM c3
    refine r_iload (pc' := 27) X hl 4 rfl 14 rfl rfl ?_
    refine r_iconst (pc' := 28) X (1 : Int32) 15 rfl rfl rfl ?_
    refine r_iload (pc' := 30) X hl 5 rfl 16 rfl rfl ?_
    refine r_ishl (pc' := 31) X 17 rfl rfl ?_
    refine r_iand (pc' := 32) X 18 rfl rfl ?_
    refine r_if_eq (pc' := 35) X 68 19 rfl rfl (by decide) (fun c4 => ?_) (fun c4 => ?_)
    · replace hM := mI hM c4
      refine r_iinc (pc' := 71) (L' := [(5, .int (st2_2_1 + (1 : Int32))), (0, .ref h), (1, .ref a1), (2, .int i2), (3, .int st2_1), (4, .int u1)]) X (st2_2_1 + (1 : Int32)) hl 5 rfl rfl 39 rfl rfl (by decide) rfl (fun ls hl => ?_)
      refine r_goto X 16 40 rfl (by decide) ?_
      exact IH2 _ hM _ _ _ Y (lv_sub hl [1, 2, 3, 4, 5, 0] rfl)
    · replace hM := mE hM c4
      refine r_aload_n (pc' := 36) X hl 0 rfl rfl 20 rfl rfl ?_
      refine r_get (pc' := 39) (v := .ref h_spare) X Y 21 rfl rfl fRX3_12 7 rfl rfl ?_
      refine r_aload_n (pc' := 40) X hl 1 rfl rfl 22 rfl rfl ?_
      refine r_callV (pc' := 43) (As := [.ref a1]) (rest := []) (wr := (wFS G h h_spare h_told S1 ++ wIA G h_told 8 S3 : va_W)) X Y 23 rfl rfl mRX3_27 (c_X2_copyFrom l G h_spare a1 a1_firms a1_kindsTold a1_places a1_crowds a1_pipsLeft a1_notHome h_spare_firms h_spare_kindsTold h_spare_places h_spare_crowds h_spare_pipsLeft h_spare_notHome S0_points S0_home S0_men S0_turn S0_thrower S0_cube S0_owner S0_firms S0_kindsTold S0_places S0_crowds S0_pipsLeft S0_notHome st2_2_2_points st2_2_2_home st2_2_2_men st2_2_2_turn st2_2_2_thrower st2_2_2_cube st2_2_2_owner st2_2_2_firms st2_2_2_kindsTold st2_2_2_places st2_2_2_crowds st2_2_2_pipsLeft st2_2_2_notHome) (mB hM hne2) 8 rfl rfl [0, 1, 2, 3, 4, 5, 6, 8, 9, 10, 11, 12, 13, 14] [7, 15] [2, 3, 4, 5, 6, 7, 8, 0, 9, 10, 11, 12, 13, 14, 15, 1] rfl rfl ⟨rfl, rfl, rfl⟩ rfl (w2 := fun u5 => wBD G a1 a1_firms a1_kindsTold a1_places a1_crowds a1_pipsLeft a1_notHome S0_points S0_home S0_men S0_turn S0_thrower S0_cube S0_owner S0_firms S0_kindsTold S0_places S0_crowds S0_pipsLeft S0_notHome ++ wFS G h h_spare h_told S1 ++ wBD G h_spare h_spare_firms h_spare_kindsTold h_spare_places h_spare_crowds h_spare_pipsLeft h_spare_notHome u5.1 u5.2.1 u5.2.2.1 u5.2.2.2.1 u5.2.2.2.2.1 u5.2.2.2.2.2.1 u5.2.2.2.2.2.2.1 u5.2.2.2.2.2.2.2.1 u5.2.2.2.2.2.2.2.2.1 u5.2.2.2.2.2.2.2.2.2.1 u5.2.2.2.2.2.2.2.2.2.2.1 u5.2.2.2.2.2.2.2.2.2.2.2.1 u5.2.2.2.2.2.2.2.2.2.2.2.2 ++ wIA G h_told 8 S3) (fun _ => rfl) rfl (Nat.le_of_ble_eq_true rfl) ⟨rfl, rfl⟩ ⟨Nat.le_of_ble_eq_true rfl, Nat.le_of_ble_eq_true rfl⟩ ⟨Nat.zero_le _, Nat.zero_le _⟩ hl.1 (st' := fun u5 => []) (fun _ => rfl) (fun u5 H locs huu5 Y => ?_)
      obtain ⟨u5_points, u5_home, u5_men, u5_turn, u5_thrower, u5_cube, u5_owner, u5_firms, u5_kindsTold, u5_places, u5_crowds, u5_pipsLeft, u5_notHome⟩ := u5
      replace Y : rY G A s (wBD G a1 a1_firms a1_kindsTold a1_places a1_crowds a1_pipsLeft a1_notHome S0_points S0_home S0_men S0_turn S0_thrower S0_cube S0_owner S0_firms S0_kindsTold S0_places S0_crowds S0_pipsLeft S0_notHome ++ wFS G h h_spare h_told S1 ++ wBD G h_spare h_spare_firms h_spare_kindsTold h_spare_places h_spare_crowds h_spare_pipsLeft h_spare_notHome u5_points u5_home u5_men u5_turn u5_thrower u5_cube u5_owner u5_firms u5_kindsTold u5_places u5_crowds u5_pipsLeft u5_notHome ++ wIA G h_told 8 S3) H locs := Y
      replace hM := mS hM huu5
      show W p l e q_X3_menSo s m args below meth c H locs 0 0 Q (F0 m 43 ls [])
      refine r_aload_n (pc' := 44) X hl 0 rfl rfl 24 rfl rfl ?_
      refine r_get (pc' := 47) (v := .ref h_spare) X Y 25 rfl rfl fRX3_12 7 rfl rfl ?_
      refine r_iload (pc' := 49) X hl 5 rfl 26 rfl rfl ?_
      refine r_iload_n (pc' := 50) X hl 2 rfl rfl 27 rfl rfl ?_
      refine r_callV (pc' := 53) (As := [.int st2_2_1, .int i2]) (rest := []) (wr := (wBD G a1 a1_firms a1_kindsTold a1_places a1_crowds a1_pipsLeft a1_notHome S0_points S0_home S0_men S0_turn S0_thrower S0_cube S0_owner S0_firms S0_kindsTold S0_places S0_crowds S0_pipsLeft S0_notHome ++ wFS G h h_spare h_told S1 ++ wIA G h_told 8 S3 : va_W)) X Y 28 rfl rfl mRX3_52 (c_X2_go l G h_spare h_spare_firms h_spare_kindsTold h_spare_places h_spare_crowds h_spare_pipsLeft h_spare_notHome u5_points u5_home u5_men u5_turn u5_thrower u5_cube u5_owner u5_firms u5_kindsTold u5_places u5_crowds u5_pipsLeft u5_notHome st2_2_1 i2) (mB hM hne2) 8 rfl rfl [8, 9, 10, 11, 12, 13, 14] [0, 1, 2, 3, 4, 5, 6, 7, 15] [0, 1, 2, 3, 4, 5, 6, 7, 9, 10, 11, 12, 13, 14, 15, 8] rfl rfl ⟨rfl, rfl, rfl⟩ rfl (w2 := fun u6 => wBD G a1 a1_firms a1_kindsTold a1_places a1_crowds a1_pipsLeft a1_notHome S0_points S0_home S0_men S0_turn S0_thrower S0_cube S0_owner S0_firms S0_kindsTold S0_places S0_crowds S0_pipsLeft S0_notHome ++ wFS G h h_spare h_told S1 ++ wBD G h_spare h_spare_firms h_spare_kindsTold h_spare_places h_spare_crowds h_spare_pipsLeft h_spare_notHome u6.2.1 u6.2.2.1 u6.2.2.2.1 u6.2.2.2.2.1 u6.2.2.2.2.2.1 u6.2.2.2.2.2.2.1 u6.2.2.2.2.2.2.2.1 u6.2.2.2.2.2.2.2.2.1 u6.2.2.2.2.2.2.2.2.2.1 u6.2.2.2.2.2.2.2.2.2.2.1 u6.2.2.2.2.2.2.2.2.2.2.2.1 u6.2.2.2.2.2.2.2.2.2.2.2.2.1 u6.2.2.2.2.2.2.2.2.2.2.2.2.2 ++ wIA G h_told 8 S3) (fun _ => rfl) rfl (Nat.le_of_ble_eq_true rfl) ⟨rfl, rfl⟩ ⟨Nat.le_of_ble_eq_true rfl, Nat.le_of_ble_eq_true rfl⟩ ⟨Nat.zero_le _, Nat.zero_le _⟩ hl.1 (st' := fun u6 => [.int u6.1]) (fun _ => rfl) (fun u6 H locs huu6 Y => ?_)
      obtain ⟨u6_1, ⟨u6_2_points, u6_2_home, u6_2_men, u6_2_turn, u6_2_thrower, u6_2_cube, u6_2_owner, u6_2_firms, u6_2_kindsTold, u6_2_places, u6_2_crowds, u6_2_pipsLeft, u6_2_notHome⟩⟩ := u6
      replace Y : rY G A s (wBD G a1 a1_firms a1_kindsTold a1_places a1_crowds a1_pipsLeft a1_notHome S0_points S0_home S0_men S0_turn S0_thrower S0_cube S0_owner S0_firms S0_kindsTold S0_places S0_crowds S0_pipsLeft S0_notHome ++ wFS G h h_spare h_told S1 ++ wBD G h_spare h_spare_firms h_spare_kindsTold h_spare_places h_spare_crowds h_spare_pipsLeft h_spare_notHome u6_2_points u6_2_home u6_2_men u6_2_turn u6_2_thrower u6_2_cube u6_2_owner u6_2_firms u6_2_kindsTold u6_2_places u6_2_crowds u6_2_pipsLeft u6_2_notHome ++ wIA G h_told 8 S3) H locs := Y
      replace hM := mS hM huu6
      show W p l e q_X3_menSo s m args below meth c H locs 0 0 Q (F0 m 53 ls [.int u6_1])
      refine r_pop (pc' := 54) X 29 rfl rfl rfl ?_
      refine r_aload_n (pc' := 55) X hl 0 rfl rfl 30 rfl rfl ?_
      refine r_callV0 (pc' := 58) (As := []) (rest := []) X Y 31 rfl rfl mRX3_94 (c_X3_isAsTold l G h h_spare h_told h_spare_firms h_spare_kindsTold h_spare_places h_spare_crowds h_spare_pipsLeft h_spare_notHome S1 u6_2_points u6_2_home u6_2_men u6_2_turn u6_2_thrower u6_2_cube u6_2_owner u6_2_firms u6_2_kindsTold u6_2_places u6_2_crowds u6_2_pipsLeft u6_2_notHome S3) (mB hM hne2) 7 rfl rfl [7, 8, 9, 10, 11, 12, 13, 14, 15] rfl rfl rfl (Nat.le_of_ble_eq_true rfl) ⟨rfl, rfl⟩ ⟨Nat.le_of_ble_eq_true rfl, Nat.le_of_ble_eq_true rfl⟩ ⟨Nat.zero_le _, Nat.zero_le _⟩ hl.1 (st' := fun u7 => [.int u7]) (fun _ => rfl) (fun u7 H locs huu7 Y => ?_)
      replace hM := mS hM huu7
      refine r_if_eq (pc' := 61) X 68 32 rfl rfl (by decide) (fun c8 => ?_) (fun c8 => ?_)
      · replace hM := mI hM c8
        refine r_iinc (pc' := 71) (L' := [(5, .int (st2_2_1 + (1 : Int32))), (0, .ref h), (1, .ref a1), (2, .int i2), (3, .int st2_1), (4, .int u1)]) X (st2_2_1 + (1 : Int32)) hl 5 rfl rfl 39 rfl rfl (by decide) rfl (fun ls hl => ?_)
        refine r_goto X 16 40 rfl (by decide) ?_
        exact IH2 _ hM _ _ _ Y (lv_sub hl [1, 2, 3, 4, 5, 0] rfl)
      · replace hM := mE hM c8
        refine r_iload_n (pc' := 62) X hl 3 rfl rfl 33 rfl rfl ?_
        refine r_iconst (pc' := 63) X (1 : Int32) 34 rfl rfl rfl ?_
        refine r_iload (pc' := 65) X hl 5 rfl 35 rfl rfl ?_
        refine r_ishl (pc' := 66) X 36 rfl rfl ?_
        refine r_ior (pc' := 67) X 37 rfl rfl ?_
        refine r_istore_n (pc' := 68) (L' := [(3, .int (st2_1 ||| ((1 : Int32) <<< (st2_2_1 &&& 31)))), (0, .ref h), (1, .ref a1), (2, .int i2), (4, .int u1), (5, .int st2_2_1)]) X hl rfl 38 rfl rfl (by decide) rfl (fun ls hl => ?_)
        refine r_iinc (pc' := 71) (L' := [(5, .int (st2_2_1 + (1 : Int32))), (3, .int (st2_1 ||| ((1 : Int32) <<< (st2_2_1 &&& 31)))), (0, .ref h), (1, .ref a1), (2, .int i2), (4, .int u1)]) X (st2_2_1 + (1 : Int32)) hl 5 rfl rfl 39 rfl rfl (by decide) rfl (fun ls hl => ?_)
        refine r_goto X 16 40 rfl (by decide) ?_
        exact IH2 _ hM _ _ _ Y (lv_sub hl [2, 3, 4, 1, 5, 0] rfl)

def M_X3_kindsSo (S0 : FS) (S1 : BD) (S2 : BD) (S3 : IA) (i2 : Int32) (i3 : Int32) : Option (Int32 × BD) :=
  ((lp (σ := Int32 × Int32 × BD) (β := Int32 × BD) (fun rec1 st1 => (if (6 : Int32) ≤ st1.2.1 then (some (st1.1, st1.2.2)) else ((M_X2_copyFrom S1 st1.2.2).bind (fun u3 => (if inb i2 8 = true then ((M_X2_turnByRule ((bd_s_kindsTold u3 (upd (bd_kindsTold u3) (i2).toNatClampNeg st1.2.1))) i3).bind (fun u5 => ((M_X3_isAsTold S0 u5.2 S3).bind (fun u6 => (if u6 = 0 then (rec1 (st1.1, (st1.2.1 + (1 : Int32)), u5.2)) else (rec1 ((st1.1 ||| ((1 : Int32) <<< (st1.2.1 &&& 31))), (st1.2.1 + (1 : Int32)), u5.2))))))) else none))))) 1000000 ((0 : Int32), (1 : Int32), S2)).bind (fun b1 => (some (b1.1, b1.2))))
def q_X3_kindsSo : Room := { frames := 6, cells := 0, slots := 0, locals := 180 }
set_option maxHeartbeats 4000000 in
set_option maxRecDepth 100000 in
theorem c_X3_kindsSo (l : Launch) (G : gT) (h a1 h_spare h_told a1_firms a1_kindsTold a1_places a1_crowds a1_pipsLeft a1_notHome h_spare_firms h_spare_kindsTold h_spare_places h_spare_crowds h_spare_pipsLeft h_spare_notHome : Nat) (S0 : Int32) (S1_points : Int32) (S1_home : Int32) (S1_men : Int32) (S1_turn : Int32) (S1_thrower : Int32) (S1_cube : Int32) (S1_owner : Int32) (S1_firms : Nat → Int32) (S1_kindsTold : Nat → Int32) (S1_places : Nat → Int32) (S1_crowds : Nat → Int32) (S1_pipsLeft : Nat → Int32) (S1_notHome : Nat → Int32) (S2_points : Int32) (S2_home : Int32) (S2_men : Int32) (S2_turn : Int32) (S2_thrower : Int32) (S2_cube : Int32) (S2_owner : Int32) (S2_firms : Nat → Int32) (S2_kindsTold : Nat → Int32) (S2_places : Nat → Int32) (S2_crowds : Nat → Int32) (S2_pipsLeft : Nat → Int32) (S2_notHome : Nat → Int32) (S3 : Nat → Int32) (i2 : Int32) (i3 : Int32) : CT l G yX3_kindsSo cX3_kindsSo 6 (some .int) q_X3_kindsSo [.ref h, .ref a1, .int i2, .int i3] (wFS G h h_spare h_told S0 ++ wBD G a1 a1_firms a1_kindsTold a1_places a1_crowds a1_pipsLeft a1_notHome S1_points S1_home S1_men S1_turn S1_thrower S1_cube S1_owner S1_firms S1_kindsTold S1_places S1_crowds S1_pipsLeft S1_notHome ++ wBD G h_spare h_spare_firms h_spare_kindsTold h_spare_places h_spare_crowds h_spare_pipsLeft h_spare_notHome S2_points S2_home S2_men S2_turn S2_thrower S2_cube S2_owner S2_firms S2_kindsTold S2_places S2_crowds S2_pipsLeft S2_notHome ++ wIA G h_told 8 S3) (M_X3_kindsSo S0 (S1_points, S1_home, S1_men, S1_turn, S1_thrower, S1_cube, S1_owner, S1_firms, S1_kindsTold, S1_places, S1_crowds, S1_pipsLeft, S1_notHome) (S2_points, S2_home, S2_men, S2_turn, S2_thrower, S2_cube, S2_owner, S2_firms, S2_kindsTold, S2_places, S2_crowds, S2_pipsLeft, S2_notHome) S3 i2 i3) (fun u => some (.int u.1)) (fun u => wFS G h h_spare h_told S0 ++ wBD G a1 a1_firms a1_kindsTold a1_places a1_crowds a1_pipsLeft a1_notHome S1_points S1_home S1_men S1_turn S1_thrower S1_cube S1_owner S1_firms S1_kindsTold S1_places S1_crowds S1_pipsLeft S1_notHome ++ wBD G h_spare h_spare_firms h_spare_kindsTold h_spare_places h_spare_crowds h_spare_pipsLeft h_spare_notHome u.2.1 u.2.2.1 u.2.2.2.1 u.2.2.2.2.1 u.2.2.2.2.2.1 u.2.2.2.2.2.2.1 u.2.2.2.2.2.2.2.1 u.2.2.2.2.2.2.2.2.1 u.2.2.2.2.2.2.2.2.2.1 u.2.2.2.2.2.2.2.2.2.2.1 u.2.2.2.2.2.2.2.2.2.2.2.1 u.2.2.2.2.2.2.2.2.2.2.2.2.1 u.2.2.2.2.2.2.2.2.2.2.2.2.2 ++ wIA G h_told 8 S3) := by
  refine CT.of (P := PX3_kindsSo) (by decide) dPX3_kindsSo (Nat.le_of_ble_eq_true rfl) ?_
  intro p e s m args below meth c A Q ls hne X RT Y hl
  have hl : lv_has ls 6 [(0, .ref h), (1, .ref a1), (2, .int i2), (3, .int i3)] := hl
  generalize hM : M_X3_kindsSo S0 (S1_points, S1_home, S1_men, S1_turn, S1_thrower, S1_cube, S1_owner, S1_firms, S1_kindsTold, S1_places, S1_crowds, S1_pipsLeft, S1_notHome) (S2_points, S2_home, S2_men, S2_turn, S2_thrower, S2_cube, S2_owner, S2_firms, S2_kindsTold, S2_places, S2_crowds, S2_pipsLeft, S2_notHome) S3 i2 i3 = MM at hne RT
  unfold M_X3_kindsSo at hM
  refine r_iconst (pc' := 1) X (0 : Int32) 0 rfl rfl rfl ?_
  refine r_istore (pc' := 3) (L' := [(4, .int (0 : Int32)), (0, .ref h), (1, .ref a1), (2, .int i2), (3, .int i3)]) X hl 1 rfl rfl (by decide) rfl (fun ls hl => ?_)
  refine r_iconst (pc' := 4) X (1 : Int32) 2 rfl rfl rfl ?_
  refine r_istore (pc' := 6) (L' := [(5, .int (1 : Int32)), (4, .int (0 : Int32)), (0, .ref h), (1, .ref a1), (2, .int i2), (3, .int i3)]) X hl 3 rfl rfl (by decide) rfl (fun ls hl => ?_)
  obtain ⟨LL1, hL1, hne1, hX1⟩ := mL hM hne
  have KX1 : ∀ (b1_1 : Int32) (b1_2_points : Int32) (b1_2_home : Int32) (b1_2_men : Int32) (b1_2_turn : Int32) (b1_2_thrower : Int32) (b1_2_cube : Int32) (b1_2_owner : Int32) (b1_2_firms : Nat → Int32) (b1_2_kindsTold : Nat → Int32) (b1_2_places : Nat → Int32) (b1_2_crowds : Nat → Int32) (b1_2_pipsLeft : Nat → Int32) (b1_2_notHome : Nat → Int32) (H : Heap) (locs : List Loc) (ls : Array Slot), some (b1_1, (b1_2_points, b1_2_home, b1_2_men, b1_2_turn, b1_2_thrower, b1_2_cube, b1_2_owner, b1_2_firms, b1_2_kindsTold, b1_2_places, b1_2_crowds, b1_2_pipsLeft, b1_2_notHome)) = LL1 → rY G A s (wFS G h h_spare h_told S0 ++ wBD G a1 a1_firms a1_kindsTold a1_places a1_crowds a1_pipsLeft a1_notHome S1_points S1_home S1_men S1_turn S1_thrower S1_cube S1_owner S1_firms S1_kindsTold S1_places S1_crowds S1_pipsLeft S1_notHome ++ wBD G h_spare h_spare_firms h_spare_kindsTold h_spare_places h_spare_crowds h_spare_pipsLeft h_spare_notHome b1_2_points b1_2_home b1_2_men b1_2_turn b1_2_thrower b1_2_cube b1_2_owner b1_2_firms b1_2_kindsTold b1_2_places b1_2_crowds b1_2_pipsLeft b1_2_notHome ++ wIA G h_told 8 S3) H locs → lv_has ls 6 [(4, .int b1_1)] → W p l e q_X3_kindsSo s m args below meth c H locs 0 0 Q (F0 m 63 ls []) := by
    intro b1_1 b1_2_points b1_2_home b1_2_men b1_2_turn b1_2_thrower b1_2_cube b1_2_owner b1_2_firms b1_2_kindsTold b1_2_places b1_2_crowds b1_2_pipsLeft b1_2_notHome H locs ls hM Y hl
    replace hM := hX1 _ hM
    refine r_iload (pc' := 65) X hl 0 rfl 33 rfl rfl ?_
    exact RT (b1_1, (b1_2_points, b1_2_home, b1_2_men, b1_2_turn, b1_2_thrower, b1_2_cube, b1_2_owner, b1_2_firms, b1_2_kindsTold, b1_2_places, b1_2_crowds, b1_2_pipsLeft, b1_2_notHome)) _ _ _ _ _ hM (Or.inl ⟨rfl, rfl, _, rfl⟩) (X.d (k := 34) rfl) Y
  refine lp_rule (I := fun (st1 : Int32 × Int32 × BD) => ∀ (H : Heap) (locs : List Loc) (ls : Array Slot), rY G A s (wFS G h h_spare h_told S0 ++ wBD G a1 a1_firms a1_kindsTold a1_places a1_crowds a1_pipsLeft a1_notHome S1_points S1_home S1_men S1_turn S1_thrower S1_cube S1_owner S1_firms S1_kindsTold S1_places S1_crowds S1_pipsLeft S1_notHome ++ wBD G h_spare h_spare_firms h_spare_kindsTold h_spare_places h_spare_crowds h_spare_pipsLeft h_spare_notHome st1.2.2.1 st1.2.2.2.1 st1.2.2.2.2.1 st1.2.2.2.2.2.1 st1.2.2.2.2.2.2.1 st1.2.2.2.2.2.2.2.1 st1.2.2.2.2.2.2.2.2.1 st1.2.2.2.2.2.2.2.2.2.1 st1.2.2.2.2.2.2.2.2.2.2.1 st1.2.2.2.2.2.2.2.2.2.2.2.1 st1.2.2.2.2.2.2.2.2.2.2.2.2.1 st1.2.2.2.2.2.2.2.2.2.2.2.2.2.1 st1.2.2.2.2.2.2.2.2.2.2.2.2.2.2 ++ wIA G h_told 8 S3) H locs → lv_has ls 6 [(0, .ref h), (1, .ref a1), (2, .int i2), (3, .int i3), (4, .int st1.1), (5, .int st1.2.1)] → W p l e q_X3_kindsSo s m args below meth c H locs 0 0 Q (F0 m 6 ls [])) hne1 (fun rec1 st1 IH1 hM => ?_) _ _ hL1 _ _ _ Y (lv_sub hl [2, 3, 4, 5, 1, 0] rfl)
  intro H locs ls Y hl
  obtain ⟨st1_1, st1_2_1, ⟨st1_2_2_points, st1_2_2_home, st1_2_2_men, st1_2_2_turn, st1_2_2_thrower, st1_2_2_cube, st1_2_2_owner, st1_2_2_firms, st1_2_2_kindsTold, st1_2_2_places, st1_2_2_crowds, st1_2_2_pipsLeft, st1_2_2_notHome⟩⟩ := st1
  replace Y : rY G A s (wFS G h h_spare h_told S0 ++ wBD G a1 a1_firms a1_kindsTold a1_places a1_crowds a1_pipsLeft a1_notHome S1_points S1_home S1_men S1_turn S1_thrower S1_cube S1_owner S1_firms S1_kindsTold S1_places S1_crowds S1_pipsLeft S1_notHome ++ wBD G h_spare h_spare_firms h_spare_kindsTold h_spare_places h_spare_crowds h_spare_pipsLeft h_spare_notHome st1_2_2_points st1_2_2_home st1_2_2_men st1_2_2_turn st1_2_2_thrower st1_2_2_cube st1_2_2_owner st1_2_2_firms st1_2_2_kindsTold st1_2_2_places st1_2_2_crowds st1_2_2_pipsLeft st1_2_2_notHome ++ wIA G h_told 8 S3) H locs := Y
  replace hl : lv_has ls 6 [(0, .ref h), (1, .ref a1), (2, .int i2), (3, .int i3), (4, .int st1_1), (5, .int st1_2_1)] := hl
  refine r_iload (pc' := 8) X hl 5 rfl 4 rfl rfl ?_
  refine r_bipush (pc' := 10) X (6 : Int32) 5 rfl rfl rfl ?_
  refine r_icmp_ge (pc' := 13) X 63 6 rfl rfl (by decide) (fun c2 => ?_) (fun c2 => ?_)
  · replace hM := mI hM c2
    exact KX1 st1_1 st1_2_2_points st1_2_2_home st1_2_2_men st1_2_2_turn st1_2_2_thrower st1_2_2_cube st1_2_2_owner st1_2_2_firms st1_2_2_kindsTold st1_2_2_places st1_2_2_crowds st1_2_2_pipsLeft st1_2_2_notHome _ _ _ hM Y (lv_sub hl [4] rfl)
  · replace hM := mE hM c2
    refine r_aload_n (pc' := 14) X hl 0 rfl rfl 7 rfl rfl ?_
    refine r_get (pc' := 17) (v := .ref h_spare) X Y 8 rfl rfl fRX3_12 0 rfl rfl ?_
    refine r_aload_n (pc' := 18) X hl 1 rfl rfl 9 rfl rfl ?_
    refine r_callV (pc' := 21) (As := [.ref a1]) (rest := []) (wr := (wFS G h h_spare h_told S0 ++ wIA G h_told 8 S3 : va_W)) X Y 10 rfl rfl mRX3_27 (c_X2_copyFrom l G h_spare a1 a1_firms a1_kindsTold a1_places a1_crowds a1_pipsLeft a1_notHome h_spare_firms h_spare_kindsTold h_spare_places h_spare_crowds h_spare_pipsLeft h_spare_notHome S1_points S1_home S1_men S1_turn S1_thrower S1_cube S1_owner S1_firms S1_kindsTold S1_places S1_crowds S1_pipsLeft S1_notHome st1_2_2_points st1_2_2_home st1_2_2_men st1_2_2_turn st1_2_2_thrower st1_2_2_cube st1_2_2_owner st1_2_2_firms st1_2_2_kindsTold st1_2_2_places st1_2_2_crowds st1_2_2_pipsLeft st1_2_2_notHome) (mB hM hne1) 8 rfl rfl [1, 2, 3, 4, 5, 6, 7, 8, 9, 10, 11, 12, 13, 14] [0, 15] [0, 2, 3, 4, 5, 6, 7, 8, 9, 10, 11, 12, 13, 14, 15, 1] rfl rfl ⟨rfl, rfl, rfl⟩ rfl (w2 := fun u3 => wFS G h h_spare h_told S0 ++ wBD G a1 a1_firms a1_kindsTold a1_places a1_crowds a1_pipsLeft a1_notHome S1_points S1_home S1_men S1_turn S1_thrower S1_cube S1_owner S1_firms S1_kindsTold S1_places S1_crowds S1_pipsLeft S1_notHome ++ wBD G h_spare h_spare_firms h_spare_kindsTold h_spare_places h_spare_crowds h_spare_pipsLeft h_spare_notHome u3.1 u3.2.1 u3.2.2.1 u3.2.2.2.1 u3.2.2.2.2.1 u3.2.2.2.2.2.1 u3.2.2.2.2.2.2.1 u3.2.2.2.2.2.2.2.1 u3.2.2.2.2.2.2.2.2.1 u3.2.2.2.2.2.2.2.2.2.1 u3.2.2.2.2.2.2.2.2.2.2.1 u3.2.2.2.2.2.2.2.2.2.2.2.1 u3.2.2.2.2.2.2.2.2.2.2.2.2 ++ wIA G h_told 8 S3) (fun _ => rfl) rfl (Nat.le_of_ble_eq_true rfl) ⟨rfl, rfl⟩ ⟨Nat.le_of_ble_eq_true rfl, Nat.le_of_ble_eq_true rfl⟩ ⟨Nat.zero_le _, Nat.zero_le _⟩ hl.1 (st' := fun u3 => []) (fun _ => rfl) (fun u3 H locs huu3 Y => ?_)
    obtain ⟨u3_points, u3_home, u3_men, u3_turn, u3_thrower, u3_cube, u3_owner, u3_firms, u3_kindsTold, u3_places, u3_crowds, u3_pipsLeft, u3_notHome⟩ := u3
    replace Y : rY G A s (wFS G h h_spare h_told S0 ++ wBD G a1 a1_firms a1_kindsTold a1_places a1_crowds a1_pipsLeft a1_notHome S1_points S1_home S1_men S1_turn S1_thrower S1_cube S1_owner S1_firms S1_kindsTold S1_places S1_crowds S1_pipsLeft S1_notHome ++ wBD G h_spare h_spare_firms h_spare_kindsTold h_spare_places h_spare_crowds h_spare_pipsLeft h_spare_notHome u3_points u3_home u3_men u3_turn u3_thrower u3_cube u3_owner u3_firms u3_kindsTold u3_places u3_crowds u3_pipsLeft u3_notHome ++ wIA G h_told 8 S3) H locs := Y
    replace hM := mS hM huu3
    show W p l e q_X3_kindsSo s m args below meth c H locs 0 0 Q (F0 m 21 ls [])
    refine r_aload_n (pc' := 22) X hl 0 rfl rfl 11 rfl rfl ?_
    refine r_get (pc' := 25) (v := .ref h_spare) X Y 12 rfl rfl fRX3_12 0 rfl rfl ?_
    refine r_getN (pc' := 28) (v := .ref h_spare_kindsTold) X Y 13 rfl rfl fRX3_104 8 rfl rfl ?_
    refine r_iload_n (pc' := 29) X hl 2 rfl rfl 14 rfl rfl ?_
    refine r_iload (pc' := 31) X hl 5 rfl 15 rfl rfl ?_
    obtain ⟨g4, hM⟩ := mG hM hne1
    refine r_iast (pc' := 32) (ws' := wFS G h h_spare h_told S0 ++ wBD G a1 a1_firms a1_kindsTold a1_places a1_crowds a1_pipsLeft a1_notHome S1_points S1_home S1_men S1_turn S1_thrower S1_cube S1_owner S1_firms S1_kindsTold S1_places S1_crowds S1_pipsLeft S1_notHome ++ wBD G h_spare h_spare_firms h_spare_kindsTold h_spare_places h_spare_crowds h_spare_pipsLeft h_spare_notHome u3_points u3_home u3_men u3_turn u3_thrower u3_cube u3_owner u3_firms (upd u3_kindsTold (i2).toNatClampNeg st1_2_1) u3_places u3_crowds u3_pipsLeft u3_notHome ++ wIA G h_told 8 S3) X Y 16 rfl rfl 10 rfl (vin g4) rfl (fun H locs Y => ?_)
    refine r_aload_n (pc' := 33) X hl 0 rfl rfl 17 rfl rfl ?_
    refine r_get (pc' := 36) (v := .ref h_spare) X Y 18 rfl rfl fRX3_12 0 rfl rfl ?_
    refine r_iload_n (pc' := 37) X hl 3 rfl rfl 19 rfl rfl ?_
    refine r_callV (pc' := 40) (As := [.int i3]) (rest := []) (wr := (wFS G h h_spare h_told S0 ++ wBD G a1 a1_firms a1_kindsTold a1_places a1_crowds a1_pipsLeft a1_notHome S1_points S1_home S1_men S1_turn S1_thrower S1_cube S1_owner S1_firms S1_kindsTold S1_places S1_crowds S1_pipsLeft S1_notHome ++ wIA G h_told 8 S3 : va_W)) X Y 20 rfl rfl mRX3_91 (c_X2_turnByRule l G h_spare h_spare_firms h_spare_kindsTold h_spare_places h_spare_crowds h_spare_pipsLeft h_spare_notHome u3_points u3_home u3_men u3_turn u3_thrower u3_cube u3_owner u3_firms ((upd u3_kindsTold (i2).toNatClampNeg st1_2_1)) u3_places u3_crowds u3_pipsLeft u3_notHome i3) (mB hM hne1) 8 rfl rfl [8, 9, 10, 11, 12, 13, 14] [0, 1, 2, 3, 4, 5, 6, 7, 15] [0, 1, 2, 3, 4, 5, 6, 7, 9, 10, 11, 12, 13, 14, 15, 8] rfl rfl ⟨rfl, rfl, rfl⟩ rfl (w2 := fun u5 => wFS G h h_spare h_told S0 ++ wBD G a1 a1_firms a1_kindsTold a1_places a1_crowds a1_pipsLeft a1_notHome S1_points S1_home S1_men S1_turn S1_thrower S1_cube S1_owner S1_firms S1_kindsTold S1_places S1_crowds S1_pipsLeft S1_notHome ++ wBD G h_spare h_spare_firms h_spare_kindsTold h_spare_places h_spare_crowds h_spare_pipsLeft h_spare_notHome u5.2.1 u5.2.2.1 u5.2.2.2.1 u5.2.2.2.2.1 u5.2.2.2.2.2.1 u5.2.2.2.2.2.2.1 u5.2.2.2.2.2.2.2.1 u5.2.2.2.2.2.2.2.2.1 u5.2.2.2.2.2.2.2.2.2.1 u5.2.2.2.2.2.2.2.2.2.2.1 u5.2.2.2.2.2.2.2.2.2.2.2.1 u5.2.2.2.2.2.2.2.2.2.2.2.2.1 u5.2.2.2.2.2.2.2.2.2.2.2.2.2 ++ wIA G h_told 8 S3) (fun _ => rfl) rfl (Nat.le_of_ble_eq_true rfl) ⟨rfl, rfl⟩ ⟨Nat.le_of_ble_eq_true rfl, Nat.le_of_ble_eq_true rfl⟩ ⟨Nat.zero_le _, Nat.zero_le _⟩ hl.1 (st' := fun u5 => [.int u5.1]) (fun _ => rfl) (fun u5 H locs huu5 Y => ?_)
    obtain ⟨u5_1, ⟨u5_2_points, u5_2_home, u5_2_men, u5_2_turn, u5_2_thrower, u5_2_cube, u5_2_owner, u5_2_firms, u5_2_kindsTold, u5_2_places, u5_2_crowds, u5_2_pipsLeft, u5_2_notHome⟩⟩ := u5
    replace Y : rY G A s (wFS G h h_spare h_told S0 ++ wBD G a1 a1_firms a1_kindsTold a1_places a1_crowds a1_pipsLeft a1_notHome S1_points S1_home S1_men S1_turn S1_thrower S1_cube S1_owner S1_firms S1_kindsTold S1_places S1_crowds S1_pipsLeft S1_notHome ++ wBD G h_spare h_spare_firms h_spare_kindsTold h_spare_places h_spare_crowds h_spare_pipsLeft h_spare_notHome u5_2_points u5_2_home u5_2_men u5_2_turn u5_2_thrower u5_2_cube u5_2_owner u5_2_firms u5_2_kindsTold u5_2_places u5_2_crowds u5_2_pipsLeft u5_2_notHome ++ wIA G h_told 8 S3) H locs := Y
    replace hM := mS hM huu5
    show W p l e q_X3_kindsSo s m args below meth c H locs 0 0 Q (F0 m 40 ls [.int u5_1])
    refine r_pop (pc' := 41) X 21 rfl rfl rfl ?_
    refine r_aload_n (pc' := 42) X hl 0 rfl rfl 22 rfl rfl ?_
    refine r_callV0 (pc' := 45) (As := []) (rest := []) X Y 23 rfl rfl mRX3_94 (c_X3_isAsTold l G h h_spare h_told h_spare_firms h_spare_kindsTold h_spare_places h_spare_crowds h_spare_pipsLeft h_spare_notHome S0 u5_2_points u5_2_home u5_2_men u5_2_turn u5_2_thrower u5_2_cube u5_2_owner u5_2_firms u5_2_kindsTold u5_2_places u5_2_crowds u5_2_pipsLeft u5_2_notHome S3) (mB hM hne1) 0 rfl rfl [0, 8, 9, 10, 11, 12, 13, 14, 15] rfl rfl rfl (Nat.le_of_ble_eq_true rfl) ⟨rfl, rfl⟩ ⟨Nat.le_of_ble_eq_true rfl, Nat.le_of_ble_eq_true rfl⟩ ⟨Nat.zero_le _, Nat.zero_le _⟩ hl.1 (st' := fun u6 => [.int u6]) (fun _ => rfl) (fun u6 H locs huu6 Y => ?_)
    replace hM := mS hM huu6
    refine r_if_eq (pc' := 48) X 57 24 rfl rfl (by decide) (fun c7 => ?_) (fun c7 => ?_)
    · replace hM := mI hM c7
      refine r_iinc (pc' := 60) (L' := [(5, .int (st1_2_1 + (1 : Int32))), (0, .ref h), (1, .ref a1), (2, .int i2), (3, .int i3), (4, .int st1_1)]) X (st1_2_1 + (1 : Int32)) hl 5 rfl rfl 31 rfl rfl (by decide) rfl (fun ls hl => ?_)
      refine r_goto X 6 32 rfl (by decide) ?_
      exact IH1 _ hM _ _ _ Y (lv_sub hl [1, 2, 3, 4, 5, 0] rfl)
    · replace hM := mE hM c7
      refine r_iload (pc' := 50) X hl 4 rfl 25 rfl rfl ?_
      refine r_iconst (pc' := 51) X (1 : Int32) 26 rfl rfl rfl ?_
      refine r_iload (pc' := 53) X hl 5 rfl 27 rfl rfl ?_
      refine r_ishl (pc' := 54) X 28 rfl rfl ?_
      refine r_ior (pc' := 55) X 29 rfl rfl ?_
      refine r_istore (pc' := 57) (L' := [(4, .int (st1_1 ||| ((1 : Int32) <<< (st1_2_1 &&& 31)))), (0, .ref h), (1, .ref a1), (2, .int i2), (3, .int i3), (5, .int st1_2_1)]) X hl 30 rfl rfl (by decide) rfl (fun ls hl => ?_)
      refine r_iinc (pc' := 60) (L' := [(5, .int (st1_2_1 + (1 : Int32))), (4, .int (st1_1 ||| ((1 : Int32) <<< (st1_2_1 &&& 31)))), (0, .ref h), (1, .ref a1), (2, .int i2), (3, .int i3)]) X (st1_2_1 + (1 : Int32)) hl 5 rfl rfl 31 rfl rfl (by decide) rfl (fun ls hl => ?_)
      refine r_goto X 6 32 rfl (by decide) ?_
      exact IH1 _ hM _ _ _ Y (lv_sub hl [2, 3, 4, 5, 1, 0] rfl)

def M_X3_endOfGame (S0 : FS) (S1 : BD) (S2 : BD) (i2 : Int32) (i3 : Int32) : Option (BD) :=
  ((M_X2_copyFrom S1 S2).bind (fun u1 => ((lp (σ := Int64 × Int32 × BD) (β := BD) (fun rec2 st2 => (if i2 ≤ st2.2.1 then (some st2.2.2) else ((M_X2_winner st2.2.2).bind (fun u4 => (if u4 = (-1000000 : Int32) then ((M_X2_turnByRule st2.2.2 (((1 : Int32) + ((((st2.1 * (16807 : Int64)) - (st2.1 * (16807 : Int64)) / (2147483647 : Int64) * (2147483647 : Int64)) - ((st2.1 * (16807 : Int64)) - (st2.1 * (16807 : Int64)) / (2147483647 : Int64) * (2147483647 : Int64)) / (6 : Int64) * (6 : Int64))).toInt32))).bind (fun u6 => (rec2 (((st2.1 * (16807 : Int64)) - (st2.1 * (16807 : Int64)) / (2147483647 : Int64) * (2147483647 : Int64)), (st2.2.1 + (1 : Int32)), u6.2)))) else (some st2.2.2)))))) 1000000 ((i3).toInt64, (0 : Int32), u1)).bind (fun b2 => (some b2)))))
def q_X3_endOfGame : Room := { frames := 6, cells := 0, slots := 0, locals := 180 }
set_option maxHeartbeats 4000000 in
set_option maxRecDepth 100000 in
theorem c_X3_endOfGame (l : Launch) (G : gT) (h a1 h_spare h_told a1_firms a1_kindsTold a1_places a1_crowds a1_pipsLeft a1_notHome h_spare_firms h_spare_kindsTold h_spare_places h_spare_crowds h_spare_pipsLeft h_spare_notHome : Nat) (S0 : Int32) (S1_points : Int32) (S1_home : Int32) (S1_men : Int32) (S1_turn : Int32) (S1_thrower : Int32) (S1_cube : Int32) (S1_owner : Int32) (S1_firms : Nat → Int32) (S1_kindsTold : Nat → Int32) (S1_places : Nat → Int32) (S1_crowds : Nat → Int32) (S1_pipsLeft : Nat → Int32) (S1_notHome : Nat → Int32) (S2_points : Int32) (S2_home : Int32) (S2_men : Int32) (S2_turn : Int32) (S2_thrower : Int32) (S2_cube : Int32) (S2_owner : Int32) (S2_firms : Nat → Int32) (S2_kindsTold : Nat → Int32) (S2_places : Nat → Int32) (S2_crowds : Nat → Int32) (S2_pipsLeft : Nat → Int32) (S2_notHome : Nat → Int32) (i2 : Int32) (i3 : Int32) : CT l G yX3_endOfGame cX3_endOfGame 7 (some (.object "TableFirms$Board")) q_X3_endOfGame [.ref h, .ref a1, .int i2, .int i3] (wFS G h h_spare h_told S0 ++ wBD G a1 a1_firms a1_kindsTold a1_places a1_crowds a1_pipsLeft a1_notHome S1_points S1_home S1_men S1_turn S1_thrower S1_cube S1_owner S1_firms S1_kindsTold S1_places S1_crowds S1_pipsLeft S1_notHome ++ wBD G h_spare h_spare_firms h_spare_kindsTold h_spare_places h_spare_crowds h_spare_pipsLeft h_spare_notHome S2_points S2_home S2_men S2_turn S2_thrower S2_cube S2_owner S2_firms S2_kindsTold S2_places S2_crowds S2_pipsLeft S2_notHome) (M_X3_endOfGame S0 (S1_points, S1_home, S1_men, S1_turn, S1_thrower, S1_cube, S1_owner, S1_firms, S1_kindsTold, S1_places, S1_crowds, S1_pipsLeft, S1_notHome) (S2_points, S2_home, S2_men, S2_turn, S2_thrower, S2_cube, S2_owner, S2_firms, S2_kindsTold, S2_places, S2_crowds, S2_pipsLeft, S2_notHome) i2 i3) (fun u => some (.ref h_spare)) (fun u => wFS G h h_spare h_told S0 ++ wBD G a1 a1_firms a1_kindsTold a1_places a1_crowds a1_pipsLeft a1_notHome S1_points S1_home S1_men S1_turn S1_thrower S1_cube S1_owner S1_firms S1_kindsTold S1_places S1_crowds S1_pipsLeft S1_notHome ++ wBD G h_spare h_spare_firms h_spare_kindsTold h_spare_places h_spare_crowds h_spare_pipsLeft h_spare_notHome u.1 u.2.1 u.2.2.1 u.2.2.2.1 u.2.2.2.2.1 u.2.2.2.2.2.1 u.2.2.2.2.2.2.1 u.2.2.2.2.2.2.2.1 u.2.2.2.2.2.2.2.2.1 u.2.2.2.2.2.2.2.2.2.1 u.2.2.2.2.2.2.2.2.2.2.1 u.2.2.2.2.2.2.2.2.2.2.2.1 u.2.2.2.2.2.2.2.2.2.2.2.2) := by
  refine CT.of (P := PX3_endOfGame) (by decide) dPX3_endOfGame (Nat.le_of_ble_eq_true rfl) ?_
  intro p e s m args below meth c A Q ls hne X RT Y hl
  have hl : lv_has ls 7 [(0, .ref h), (1, .ref a1), (2, .int i2), (3, .int i3)] := hl
  generalize hM : M_X3_endOfGame S0 (S1_points, S1_home, S1_men, S1_turn, S1_thrower, S1_cube, S1_owner, S1_firms, S1_kindsTold, S1_places, S1_crowds, S1_pipsLeft, S1_notHome) (S2_points, S2_home, S2_men, S2_turn, S2_thrower, S2_cube, S2_owner, S2_firms, S2_kindsTold, S2_places, S2_crowds, S2_pipsLeft, S2_notHome) i2 i3 = MM at hne RT
  unfold M_X3_endOfGame at hM
  refine r_aload_n (pc' := 1) X hl 0 rfl rfl 0 rfl rfl ?_
  refine r_get (pc' := 4) (v := .ref h_spare) X Y 1 rfl rfl fRX3_12 0 rfl rfl ?_
  refine r_aload_n (pc' := 5) X hl 1 rfl rfl 2 rfl rfl ?_
  refine r_callV (pc' := 8) (As := [.ref a1]) (rest := []) (wr := (wFS G h h_spare h_told S0 : va_W)) X Y 3 rfl rfl mRX3_27 (c_X2_copyFrom l G h_spare a1 a1_firms a1_kindsTold a1_places a1_crowds a1_pipsLeft a1_notHome h_spare_firms h_spare_kindsTold h_spare_places h_spare_crowds h_spare_pipsLeft h_spare_notHome S1_points S1_home S1_men S1_turn S1_thrower S1_cube S1_owner S1_firms S1_kindsTold S1_places S1_crowds S1_pipsLeft S1_notHome S2_points S2_home S2_men S2_turn S2_thrower S2_cube S2_owner S2_firms S2_kindsTold S2_places S2_crowds S2_pipsLeft S2_notHome) (mB hM hne) 8 rfl rfl [1, 2, 3, 4, 5, 6, 7, 8, 9, 10, 11, 12, 13, 14] [0] [0, 1, 2, 3, 4, 5, 6, 7, 8, 9, 10, 11, 12, 13, 14] rfl rfl ⟨rfl, rfl, rfl⟩ rfl (w2 := fun u1 => wFS G h h_spare h_told S0 ++ wBD G a1 a1_firms a1_kindsTold a1_places a1_crowds a1_pipsLeft a1_notHome S1_points S1_home S1_men S1_turn S1_thrower S1_cube S1_owner S1_firms S1_kindsTold S1_places S1_crowds S1_pipsLeft S1_notHome ++ wBD G h_spare h_spare_firms h_spare_kindsTold h_spare_places h_spare_crowds h_spare_pipsLeft h_spare_notHome u1.1 u1.2.1 u1.2.2.1 u1.2.2.2.1 u1.2.2.2.2.1 u1.2.2.2.2.2.1 u1.2.2.2.2.2.2.1 u1.2.2.2.2.2.2.2.1 u1.2.2.2.2.2.2.2.2.1 u1.2.2.2.2.2.2.2.2.2.1 u1.2.2.2.2.2.2.2.2.2.2.1 u1.2.2.2.2.2.2.2.2.2.2.2.1 u1.2.2.2.2.2.2.2.2.2.2.2.2) (fun _ => rfl) rfl (Nat.le_of_ble_eq_true rfl) ⟨rfl, rfl⟩ ⟨Nat.le_of_ble_eq_true rfl, Nat.le_of_ble_eq_true rfl⟩ ⟨Nat.zero_le _, Nat.zero_le _⟩ hl.1 (st' := fun u1 => []) (fun _ => rfl) (fun u1 H locs huu1 Y => ?_)
  obtain ⟨u1_points, u1_home, u1_men, u1_turn, u1_thrower, u1_cube, u1_owner, u1_firms, u1_kindsTold, u1_places, u1_crowds, u1_pipsLeft, u1_notHome⟩ := u1
  replace Y : rY G A s (wFS G h h_spare h_told S0 ++ wBD G a1 a1_firms a1_kindsTold a1_places a1_crowds a1_pipsLeft a1_notHome S1_points S1_home S1_men S1_turn S1_thrower S1_cube S1_owner S1_firms S1_kindsTold S1_places S1_crowds S1_pipsLeft S1_notHome ++ wBD G h_spare h_spare_firms h_spare_kindsTold h_spare_places h_spare_crowds h_spare_pipsLeft h_spare_notHome u1_points u1_home u1_men u1_turn u1_thrower u1_cube u1_owner u1_firms u1_kindsTold u1_places u1_crowds u1_pipsLeft u1_notHome) H locs := Y
  replace hM := mS hM huu1
  show W p l e q_X3_endOfGame s m args below meth c H locs 0 0 Q (F0 m 8 ls [])
  refine r_iload_n (pc' := 9) X hl 3 rfl rfl 4 rfl rfl ?_
  refine r_i2l (pc' := 10) X 5 rfl rfl ?_
  refine r_lstore (pc' := 12) (L' := [(4, .long (i3).toInt64), (0, .ref h), (1, .ref a1), (2, .int i2), (3, .int i3)]) X hl 6 rfl rfl (by decide) rfl (fun ls hl => ?_)
  refine r_iconst (pc' := 13) X (0 : Int32) 7 rfl rfl rfl ?_
  refine r_istore (pc' := 15) (L' := [(6, .int (0 : Int32)), (4, .long (i3).toInt64), (0, .ref h), (1, .ref a1), (2, .int i2), (3, .int i3)]) X hl 8 rfl rfl (by decide) rfl (fun ls hl => ?_)
  obtain ⟨LL2, hL2, hne2, hX2⟩ := mL hM hne
  have KX2 : ∀ (b2_points : Int32) (b2_home : Int32) (b2_men : Int32) (b2_turn : Int32) (b2_thrower : Int32) (b2_cube : Int32) (b2_owner : Int32) (b2_firms : Nat → Int32) (b2_kindsTold : Nat → Int32) (b2_places : Nat → Int32) (b2_crowds : Nat → Int32) (b2_pipsLeft : Nat → Int32) (b2_notHome : Nat → Int32) (H : Heap) (locs : List Loc) (ls : Array Slot), some (b2_points, b2_home, b2_men, b2_turn, b2_thrower, b2_cube, b2_owner, b2_firms, b2_kindsTold, b2_places, b2_crowds, b2_pipsLeft, b2_notHome) = LL2 → rY G A s (wFS G h h_spare h_told S0 ++ wBD G a1 a1_firms a1_kindsTold a1_places a1_crowds a1_pipsLeft a1_notHome S1_points S1_home S1_men S1_turn S1_thrower S1_cube S1_owner S1_firms S1_kindsTold S1_places S1_crowds S1_pipsLeft S1_notHome ++ wBD G h_spare h_spare_firms h_spare_kindsTold h_spare_places h_spare_crowds h_spare_pipsLeft h_spare_notHome b2_points b2_home b2_men b2_turn b2_thrower b2_cube b2_owner b2_firms b2_kindsTold b2_places b2_crowds b2_pipsLeft b2_notHome) H locs → lv_has ls 7 [(0, .ref h)] → W p l e q_X3_endOfGame s m args below meth c H locs 0 0 Q (F0 m 68 ls []) := by
    intro b2_points b2_home b2_men b2_turn b2_thrower b2_cube b2_owner b2_firms b2_kindsTold b2_places b2_crowds b2_pipsLeft b2_notHome H locs ls hM Y hl
    replace hM := hX2 _ hM
    refine r_aload_n (pc' := 69) X hl 0 rfl rfl 35 rfl rfl ?_
    refine r_get (pc' := 72) (v := .ref h_spare) X Y 36 rfl rfl fRX3_12 0 rfl rfl ?_
    exact RT (b2_points, b2_home, b2_men, b2_turn, b2_thrower, b2_cube, b2_owner, b2_firms, b2_kindsTold, b2_places, b2_crowds, b2_pipsLeft, b2_notHome) _ _ _ _ _ hM (Or.inr (Or.inr (Or.inr (Or.inr ⟨_, rfl, rfl, _, rfl⟩)))) (X.d (k := 37) rfl) Y
  refine lp_rule (I := fun (st2 : Int64 × Int32 × BD) => ∀ (H : Heap) (locs : List Loc) (ls : Array Slot), rY G A s (wFS G h h_spare h_told S0 ++ wBD G a1 a1_firms a1_kindsTold a1_places a1_crowds a1_pipsLeft a1_notHome S1_points S1_home S1_men S1_turn S1_thrower S1_cube S1_owner S1_firms S1_kindsTold S1_places S1_crowds S1_pipsLeft S1_notHome ++ wBD G h_spare h_spare_firms h_spare_kindsTold h_spare_places h_spare_crowds h_spare_pipsLeft h_spare_notHome st2.2.2.1 st2.2.2.2.1 st2.2.2.2.2.1 st2.2.2.2.2.2.1 st2.2.2.2.2.2.2.1 st2.2.2.2.2.2.2.2.1 st2.2.2.2.2.2.2.2.2.1 st2.2.2.2.2.2.2.2.2.2.1 st2.2.2.2.2.2.2.2.2.2.2.1 st2.2.2.2.2.2.2.2.2.2.2.2.1 st2.2.2.2.2.2.2.2.2.2.2.2.2.1 st2.2.2.2.2.2.2.2.2.2.2.2.2.2.1 st2.2.2.2.2.2.2.2.2.2.2.2.2.2.2) H locs → lv_has ls 7 [(0, .ref h), (2, .int i2), (4, .long st2.1), (6, .int st2.2.1)] → W p l e q_X3_endOfGame s m args below meth c H locs 0 0 Q (F0 m 15 ls [])) hne2 (fun rec2 st2 IH2 hM => ?_) _ _ hL2 _ _ _ Y (lv_sub hl [2, 4, 1, 0] rfl)
  intro H locs ls Y hl
  obtain ⟨st2_1, st2_2_1, ⟨st2_2_2_points, st2_2_2_home, st2_2_2_men, st2_2_2_turn, st2_2_2_thrower, st2_2_2_cube, st2_2_2_owner, st2_2_2_firms, st2_2_2_kindsTold, st2_2_2_places, st2_2_2_crowds, st2_2_2_pipsLeft, st2_2_2_notHome⟩⟩ := st2
  replace Y : rY G A s (wFS G h h_spare h_told S0 ++ wBD G a1 a1_firms a1_kindsTold a1_places a1_crowds a1_pipsLeft a1_notHome S1_points S1_home S1_men S1_turn S1_thrower S1_cube S1_owner S1_firms S1_kindsTold S1_places S1_crowds S1_pipsLeft S1_notHome ++ wBD G h_spare h_spare_firms h_spare_kindsTold h_spare_places h_spare_crowds h_spare_pipsLeft h_spare_notHome st2_2_2_points st2_2_2_home st2_2_2_men st2_2_2_turn st2_2_2_thrower st2_2_2_cube st2_2_2_owner st2_2_2_firms st2_2_2_kindsTold st2_2_2_places st2_2_2_crowds st2_2_2_pipsLeft st2_2_2_notHome) H locs := Y
  replace hl : lv_has ls 7 [(0, .ref h), (2, .int i2), (4, .long st2_1), (6, .int st2_2_1)] := hl
  refine r_iload (pc' := 17) X hl 3 rfl 9 rfl rfl ?_
  refine r_iload_n (pc' := 18) X hl 1 rfl rfl 10 rfl rfl ?_
  refine r_icmp_ge (pc' := 21) X 68 11 rfl rfl (by decide) (fun c3 => ?_) (fun c3 => ?_)
  · replace hM := mI hM c3
    exact KX2 st2_2_2_points st2_2_2_home st2_2_2_men st2_2_2_turn st2_2_2_thrower st2_2_2_cube st2_2_2_owner st2_2_2_firms st2_2_2_kindsTold st2_2_2_places st2_2_2_crowds st2_2_2_pipsLeft st2_2_2_notHome _ _ _ hM Y (lv_sub hl [0] rfl)
  · replace hM := mE hM c3
    refine r_aload_n (pc' := 22) X hl 0 rfl rfl 12 rfl rfl ?_
    refine r_get (pc' := 25) (v := .ref h_spare) X Y 13 rfl rfl fRX3_12 0 rfl rfl ?_
    refine r_callV0 (pc' := 28) (As := []) (rest := []) X Y 14 rfl rfl mRX3_107 (c_X2_winner l G h_spare h_spare_firms h_spare_kindsTold h_spare_places h_spare_crowds h_spare_pipsLeft h_spare_notHome st2_2_2_points st2_2_2_home st2_2_2_men st2_2_2_turn st2_2_2_thrower st2_2_2_cube st2_2_2_owner st2_2_2_firms st2_2_2_kindsTold st2_2_2_places st2_2_2_crowds st2_2_2_pipsLeft st2_2_2_notHome) (mB hM hne2) 8 rfl rfl [8, 9, 10, 11, 12, 13, 14] rfl rfl rfl (Nat.le_of_ble_eq_true rfl) ⟨rfl, rfl⟩ ⟨Nat.le_of_ble_eq_true rfl, Nat.le_of_ble_eq_true rfl⟩ ⟨Nat.zero_le _, Nat.zero_le _⟩ hl.1 (st' := fun u4 => [.int u4]) (fun _ => rfl) (fun u4 H locs huu4 Y => ?_)
    replace hM := mS hM huu4
    refine r_ldc (pc' := 30) X mw154 15 rfl rfl ?_
    refine r_icmp_ne (pc' := 33) X 68 16 rfl rfl (by decide) (fun c5 => ?_) (fun c5 => ?_)
    · replace hM := mE hM c5
      exact KX2 st2_2_2_points st2_2_2_home st2_2_2_men st2_2_2_turn st2_2_2_thrower st2_2_2_cube st2_2_2_owner st2_2_2_firms st2_2_2_kindsTold st2_2_2_places st2_2_2_crowds st2_2_2_pipsLeft st2_2_2_notHome _ _ _ hM Y (lv_sub hl [0] rfl)
    · replace hM := mI hM c5
      refine r_lload (pc' := 35) X hl 2 rfl 17 rfl rfl ?_
      refine r_ldc2 (pc' := 38) X mw206 18 rfl rfl ?_
      refine r_lmul (pc' := 39) X 19 rfl rfl ?_
      refine r_ldc2 (pc' := 42) X mw207 20 rfl rfl ?_
      refine r_lrem (pc' := 43) X 21 rfl rfl (by decide) ?_
      refine r_lstore (pc' := 45) (L' := [(4, .long ((st2_1 * (16807 : Int64)) - (st2_1 * (16807 : Int64)) / (2147483647 : Int64) * (2147483647 : Int64))), (0, .ref h), (2, .int i2), (6, .int st2_2_1)]) X hl 22 rfl rfl (by decide) rfl (fun ls hl => ?_)
      refine r_aload_n (pc' := 46) X hl 1 rfl rfl 23 rfl rfl ?_
      refine r_get (pc' := 49) (v := .ref h_spare) X Y 24 rfl rfl fRX3_12 0 rfl rfl ?_
      refine r_iconst (pc' := 50) X (1 : Int32) 25 rfl rfl rfl ?_
      refine r_lload (pc' := 52) X hl 0 rfl 26 rfl rfl ?_
      refine r_ldc2 (pc' := 55) X mw189 27 rfl rfl ?_
      refine r_lrem (pc' := 56) X 28 rfl rfl (by decide) ?_
      refine r_l2i (pc' := 57) X 29 rfl rfl ?_
      refine r_iadd (pc' := 58) X 30 rfl rfl ?_
      refine r_callV (pc' := 61) (As := [.int ((1 : Int32) + ((((st2_1 * (16807 : Int64)) - (st2_1 * (16807 : Int64)) / (2147483647 : Int64) * (2147483647 : Int64)) - ((st2_1 * (16807 : Int64)) - (st2_1 * (16807 : Int64)) / (2147483647 : Int64) * (2147483647 : Int64)) / (6 : Int64) * (6 : Int64))).toInt32)]) (rest := []) (wr := (wFS G h h_spare h_told S0 ++ wBD G a1 a1_firms a1_kindsTold a1_places a1_crowds a1_pipsLeft a1_notHome S1_points S1_home S1_men S1_turn S1_thrower S1_cube S1_owner S1_firms S1_kindsTold S1_places S1_crowds S1_pipsLeft S1_notHome : va_W)) X Y 31 rfl rfl mRX3_91 (c_X2_turnByRule l G h_spare h_spare_firms h_spare_kindsTold h_spare_places h_spare_crowds h_spare_pipsLeft h_spare_notHome st2_2_2_points st2_2_2_home st2_2_2_men st2_2_2_turn st2_2_2_thrower st2_2_2_cube st2_2_2_owner st2_2_2_firms st2_2_2_kindsTold st2_2_2_places st2_2_2_crowds st2_2_2_pipsLeft st2_2_2_notHome (((1 : Int32) + ((((st2_1 * (16807 : Int64)) - (st2_1 * (16807 : Int64)) / (2147483647 : Int64) * (2147483647 : Int64)) - ((st2_1 * (16807 : Int64)) - (st2_1 * (16807 : Int64)) / (2147483647 : Int64) * (2147483647 : Int64)) / (6 : Int64) * (6 : Int64))).toInt32))) (mB hM hne2) 8 rfl rfl [8, 9, 10, 11, 12, 13, 14] [0, 1, 2, 3, 4, 5, 6, 7] [0, 1, 2, 3, 4, 5, 6, 7, 8, 9, 10, 11, 12, 13, 14] rfl rfl ⟨rfl, rfl, rfl⟩ rfl (w2 := fun u6 => wFS G h h_spare h_told S0 ++ wBD G a1 a1_firms a1_kindsTold a1_places a1_crowds a1_pipsLeft a1_notHome S1_points S1_home S1_men S1_turn S1_thrower S1_cube S1_owner S1_firms S1_kindsTold S1_places S1_crowds S1_pipsLeft S1_notHome ++ wBD G h_spare h_spare_firms h_spare_kindsTold h_spare_places h_spare_crowds h_spare_pipsLeft h_spare_notHome u6.2.1 u6.2.2.1 u6.2.2.2.1 u6.2.2.2.2.1 u6.2.2.2.2.2.1 u6.2.2.2.2.2.2.1 u6.2.2.2.2.2.2.2.1 u6.2.2.2.2.2.2.2.2.1 u6.2.2.2.2.2.2.2.2.2.1 u6.2.2.2.2.2.2.2.2.2.2.1 u6.2.2.2.2.2.2.2.2.2.2.2.1 u6.2.2.2.2.2.2.2.2.2.2.2.2.1 u6.2.2.2.2.2.2.2.2.2.2.2.2.2) (fun _ => rfl) rfl (Nat.le_of_ble_eq_true rfl) ⟨rfl, rfl⟩ ⟨Nat.le_of_ble_eq_true rfl, Nat.le_of_ble_eq_true rfl⟩ ⟨Nat.zero_le _, Nat.zero_le _⟩ hl.1 (st' := fun u6 => [.int u6.1]) (fun _ => rfl) (fun u6 H locs huu6 Y => ?_)
      obtain ⟨u6_1, ⟨u6_2_points, u6_2_home, u6_2_men, u6_2_turn, u6_2_thrower, u6_2_cube, u6_2_owner, u6_2_firms, u6_2_kindsTold, u6_2_places, u6_2_crowds, u6_2_pipsLeft, u6_2_notHome⟩⟩ := u6
      replace Y : rY G A s (wFS G h h_spare h_told S0 ++ wBD G a1 a1_firms a1_kindsTold a1_places a1_crowds a1_pipsLeft a1_notHome S1_points S1_home S1_men S1_turn S1_thrower S1_cube S1_owner S1_firms S1_kindsTold S1_places S1_crowds S1_pipsLeft S1_notHome ++ wBD G h_spare h_spare_firms h_spare_kindsTold h_spare_places h_spare_crowds h_spare_pipsLeft h_spare_notHome u6_2_points u6_2_home u6_2_men u6_2_turn u6_2_thrower u6_2_cube u6_2_owner u6_2_firms u6_2_kindsTold u6_2_places u6_2_crowds u6_2_pipsLeft u6_2_notHome) H locs := Y
      replace hM := mS hM huu6
      show W p l e q_X3_endOfGame s m args below meth c H locs 0 0 Q (F0 m 61 ls [.int u6_1])
      refine r_pop (pc' := 62) X 32 rfl rfl rfl ?_
      refine r_iinc (pc' := 65) (L' := [(6, .int (st2_2_1 + (1 : Int32))), (4, .long ((st2_1 * (16807 : Int64)) - (st2_1 * (16807 : Int64)) / (2147483647 : Int64) * (2147483647 : Int64))), (0, .ref h), (2, .int i2)]) X (st2_2_1 + (1 : Int32)) hl 3 rfl rfl 33 rfl rfl (by decide) rfl (fun ls hl => ?_)
      refine r_goto X 15 34 rfl (by decide) ?_
      exact IH2 _ hM _ _ _ Y (lv_sub hl [2, 3, 1, 0] rfl)
