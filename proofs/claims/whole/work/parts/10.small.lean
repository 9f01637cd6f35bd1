def M_J7_fill_53178 (n : Nat) (S0 : IA) (i1 : Int32) : Option (IA) :=
  (lp (σ := Int32 × (Nat → Int32)) (β := IA) (fun rec1 st1 => (if (Int32.ofNat n) ≤ st1.1 then (some st1.2) else (if inb st1.1 n = true then (rec1 ((st1.1 + (1 : Int32)), (upd st1.2 (st1.1).toNatClampNeg i1))) else none))) 1000000 ((0 : Int32), S0))
def q_J7_fill_53178 : Room := { frames := 1, cells := 0, slots := 0, locals := 60 }
set_option maxHeartbeats 4000000 in
set_option maxRecDepth 100000 in
theorem c_J7_fill_53178 (l : Launch) (G : gT) (a0 n : Nat) (S0 : Nat → Int32) (i1 : Int32) : CT l G yJ7_fill_53178 cJ7_fill_53178 4 none q_J7_fill_53178 [.ref a0, .int i1] (wIA G a0 n S0) (M_J7_fill_53178 n S0 i1) (fun u => none) (fun u => wIA G a0 n u) := by
  refine CT.of (P := PJ7_fill_53178) (by decide) dPJ7_fill_53178 (Nat.le_of_ble_eq_true rfl) ?_
  intro p e s m args below meth c A Q ls hne X RT Y hl
  have hl : lv_has ls 4 [(0, .ref a0), (1, .int i1)] := hl
  generalize hM : M_J7_fill_53178 n S0 i1 = MM at hne RT
  unfold M_J7_fill_53178 at hM
  refine r_iconst (pc' := 1) X (0 : Int32) 0 rfl rfl rfl ?_
  refine r_istore_n (pc' := 2) (L' := [(2, .int (0 : Int32)), (0, .ref a0), (1, .int i1)]) X hl rfl 1 rfl rfl (by decide) rfl (fun ls hl => ?_)
  refine r_aload_n (pc' := 3) X hl 1 rfl rfl 2 rfl rfl ?_
  refine r_alen (pc' := 4) X Y 3 rfl rfl 0 (Int32.ofNat n) rfl rfl ?_
  refine r_istore_n (pc' := 5) (L' := [(3, .int (Int32.ofNat n)), (2, .int (0 : Int32)), (0, .ref a0), (1, .int i1)]) X hl rfl 4 rfl rfl (by decide) rfl (fun ls hl => ?_)
  refine lp_rule (I := fun (st1 : Int32 × (Nat → Int32)) => ∀ (H : Heap) (locs : List Loc) (ls : Array Slot), rY G A s (wIA G a0 n st1.2) H locs → lv_has ls 4 [(0, .ref a0), (1, .int i1), (2, .int st1.1), (3, .int (Int32.ofNat n))] → W p l e q_J7_fill_53178 s m args below meth c H locs 0 0 Q (F0 m 5 ls [])) hne (fun rec1 st1 IH1 hM => ?_) _ _ hM _ _ _ Y (lv_sub hl [2, 3, 1, 0] rfl)
  intro H locs ls Y hl
  obtain ⟨st1_1, st1_2⟩ := st1
  replace Y : rY G A s (wIA G a0 n st1_2) H locs := Y
  replace hl : lv_has ls 4 [(0, .ref a0), (1, .int i1), (2, .int st1_1), (3, .int (Int32.ofNat n))] := hl
  refine r_iload_n (pc' := 6) X hl 2 rfl rfl 5 rfl rfl ?_
  refine r_iload_n (pc' := 7) X hl 3 rfl rfl 6 rfl rfl ?_
  refine r_icmp_ge (pc' := 10) X 20 7 rfl rfl (by decide) (fun c2 => ?_) (fun c2 => ?_)
  · replace hM := mI hM c2
    exact RT st1_2 _ _ _ _ _ hM (Or.inr (Or.inr (Or.inr (Or.inl ⟨rfl, rfl, rfl⟩)))) (X.d (k := 14) rfl) Y
  · replace hM := mE hM c2
    refine r_aload_n (pc' := 11) X hl 0 rfl rfl 8 rfl rfl ?_
    refine r_iload_n (pc' := 12) X hl 2 rfl rfl 9 rfl rfl ?_
    refine r_iload_n (pc' := 13) X hl 1 rfl rfl 10 rfl rfl ?_
    obtain ⟨g3, hM⟩ := mG hM hne
    refine r_iast (pc' := 14) (ws' := wIA G a0 n (upd st1_2 (st1_1).toNatClampNeg i1)) X Y 11 rfl rfl 0 rfl (vin g3) rfl (fun H locs Y => ?_)
    refine r_iinc (pc' := 17) (L' := [(2, .int (st1_1 + (1 : Int32))), (0, .ref a0), (1, .int i1), (3, .int (Int32.ofNat n))]) X (st1_1 + (1 : Int32)) hl 2 rfl rfl 12 rfl rfl (by decide) rfl (fun ls hl => ?_)
    refine r_goto X 5 13 rfl (by decide) ?_
    exact IH1 _ hM _ _ _ Y (lv_sub hl [1, 2, 0, 3] rfl)

def M_X7_isKind (i0 : Int32) (i1 : Int32) : Option (Int32) :=
  ((lp (σ := Int32 × Int32) (β := Int32) (fun rec1 st1 => (if (6 : Int32) ≤ st1.2 then (some st1.1) else (if st1.1 = i1 then (some st1.1) else (if inb st1.1 6 = true then (rec1 ((kx0 (st1.1).toNatClampNeg), (st1.2 + (1 : Int32)))) else none)))) 1000000 (i0, (0 : Int32))).bind (fun b1 => (if b1 = i1 then (some (1 : Int32)) else (some (0 : Int32)))))
def q_X7_isKind : Room := { frames := 1, cells := 0, slots := 0, locals := 60 }
set_option maxHeartbeats 4000000 in
set_option maxRecDepth 100000 in
theorem c_X7_isKind (l : Launch) (G : gT) (i0 : Int32) (i1 : Int32) : CT l G yX7_isKind cX7_isKind 4 (some .boolean) q_X7_isKind [.int i0, .int i1] ([]) (M_X7_isKind i0 i1) (fun u => some (.int u)) (fun u => []) := by
  refine CT.of (P := PX7_isKind) (by decide) dPX7_isKind (Nat.le_of_ble_eq_true rfl) ?_
  intro p e s m args below meth c A Q ls hne X RT Y hl
  have hl : lv_has ls 4 [(0, .int i0), (1, .int i1)] := hl
  generalize hM : M_X7_isKind i0 i1 = MM at hne RT
  unfold M_X7_isKind at hM
  refine r_iload_n (pc' := 1) X hl 0 rfl rfl 0 rfl rfl ?_
  refine r_istore_n (pc' := 2) (L' := [(2, .int i0), (0, .int i0), (1, .int i1)]) X hl rfl 1 rfl rfl (by decide) rfl (fun ls hl => ?_)
  refine r_iconst (pc' := 3) X (0 : Int32) 2 rfl rfl rfl ?_
  refine r_istore_n (pc' := 4) (L' := [(3, .int (0 : Int32)), (2, .int i0), (0, .int i0), (1, .int i1)]) X hl rfl 3 rfl rfl (by decide) rfl (fun ls hl => ?_)
  obtain ⟨LL1, hL1, hne1, hX1⟩ := mL hM hne
  have KX1 : ∀ (b1 : Int32) (H : Heap) (locs : List Loc) (ls : Array Slot), some b1 = LL1 → rY G A s ([]) H locs → lv_has ls 4 [(1, .int i1), (2, .int b1)] → W p l e q_X7_isKind s m args below meth c H locs 0 0 Q (F0 m 27 ls []) := by
    intro b1 H locs ls hM Y hl
    replace hM := hX1 _ hM
    refine r_iload_n (pc' := 28) X hl 1 rfl rfl 16 rfl rfl ?_
    refine r_iload_n (pc' := 29) X hl 0 rfl rfl 17 rfl rfl ?_
    refine r_icmp_ne (pc' := 32) X 36 18 rfl rfl (by decide) (fun c2 => ?_) (fun c2 => ?_)
    · replace hM := mE hM c2
      refine r_iconst (pc' := 37) X (0 : Int32) 21 rfl rfl rfl ?_
      exact RT (0 : Int32) _ _ _ _ _ hM (Or.inr (Or.inl ⟨rfl, rfl, _, rfl, nb (Or.inl rfl)⟩)) (X.d (k := 22) rfl) Y
    · replace hM := mI hM c2
      refine r_iconst (pc' := 33) X (1 : Int32) 19 rfl rfl rfl ?_
      refine r_goto X 37 20 rfl (by decide) ?_
      exact RT (1 : Int32) _ _ _ _ _ hM (Or.inr (Or.inl ⟨rfl, rfl, _, rfl, nb (Or.inr rfl)⟩)) (X.d (k := 22) rfl) Y
  refine lp_rule (I := fun (st1 : Int32 × Int32) => ∀ (H : Heap) (locs : List Loc) (ls : Array Slot), rY G A s ([]) H locs → lv_has ls 4 [(1, .int i1), (2, .int st1.1), (3, .int st1.2)] → W p l e q_X7_isKind s m args below meth c H locs 0 0 Q (F0 m 4 ls [])) hne1 (fun rec1 st1 IH1 hM => ?_) _ _ hL1 _ _ _ Y (lv_sub hl [3, 1, 0] rfl)
  intro H locs ls Y hl
  obtain ⟨st1_1, st1_2⟩ := st1
  replace Y : rY G A s ([]) H locs := Y
  replace hl : lv_has ls 4 [(1, .int i1), (2, .int st1_1), (3, .int st1_2)] := hl
  refine r_iload_n (pc' := 5) X hl 2 rfl rfl 4 rfl rfl ?_
  refine r_bipush (pc' := 7) X (6 : Int32) 5 rfl rfl rfl ?_
  refine r_icmp_ge (pc' := 10) X 27 6 rfl rfl (by decide) (fun c3 => ?_) (fun c3 => ?_)
  · replace hM := mI hM c3
    exact KX1 st1_1 _ _ _ hM Y (lv_sub hl [0, 1] rfl)
  · replace hM := mE hM c3
    refine r_iload_n (pc' := 11) X hl 1 rfl rfl 7 rfl rfl ?_
    refine r_iload_n (pc' := 12) X hl 0 rfl rfl 8 rfl rfl ?_
    refine r_icmp_eq (pc' := 15) X 27 9 rfl rfl (by decide) (fun c4 => ?_) (fun c4 => ?_)
    · replace hM := mI hM c4
      exact KX1 st1_1 _ _ _ hM Y (lv_sub hl [0, 1] rfl)
    · replace hM := mE hM c4
      refine r_gets_kab (pc' := 18) X Y 10 rfl rfl mw103 ?_
      refine r_iload_n (pc' := 19) X hl 1 rfl rfl 11 rfl rfl ?_
      obtain ⟨g5, hM⟩ := mG hM hne1
      refine r_sld_kab (pc' := 20) X Y 12 rfl rfl (vin g5) ?_
      refine r_istore_n (pc' := 21) (L' := [(2, .int (kx0 (st1_1).toNatClampNeg)), (1, .int i1), (3, .int st1_2)]) X hl rfl 13 rfl rfl (by decide) rfl (fun ls hl => ?_)
      refine r_iinc (pc' := 24) (L' := [(3, .int (st1_2 + (1 : Int32))), (2, .int (kx0 (st1_1).toNatClampNeg)), (1, .int i1)]) X (st1_2 + (1 : Int32)) hl 2 rfl rfl 14 rfl rfl (by decide) rfl (fun ls hl => ?_)
      refine r_goto X 4 15 rfl (by decide) ?_
      exact IH1 _ hM _ _ _ Y (lv_sub hl [2, 1, 0] rfl)

def M_X7_power (i0 : Int64) (i2 : Int32) : Option (Int64) :=
  ((lp (σ := Int64 × Int32) (β := Int64) (fun rec1 st1 => (if i2 ≤ st1.2 then (some st1.1) else (rec1 ((st1.1 * i0), (st1.2 + (1 : Int32)))))) 1000000 ((1 : Int64), (0 : Int32))).bind (fun b1 => (some b1)))
def q_X7_power : Room := { frames := 1, cells := 0, slots := 0, locals := 60 }
set_option maxHeartbeats 4000000 in
set_option maxRecDepth 100000 in
theorem c_X7_power (l : Launch) (G : gT) (i0 : Int64) (i2 : Int32) : CT l G yX7_power cX7_power 6 (some .long) q_X7_power [.long i0, .int i2] ([]) (M_X7_power i0 i2) (fun u => some (.long u)) (fun u => []) := by
  refine CT.of (P := PX7_power) (by decide) dPX7_power (Nat.le_of_ble_eq_true rfl) ?_
  intro p e s m args below meth c A Q ls hne X RT Y hl
  have hl : lv_has ls 6 [(0, .long i0), (2, .int i2)] := hl
  generalize hM : M_X7_power i0 i2 = MM at hne RT
  unfold M_X7_power at hM
  refine r_lconst (pc' := 1) X (1 : Int64) 0 rfl rfl rfl ?_
  refine r_lstore_n (pc' := 2) (L' := [(3, .long (1 : Int64)), (0, .long i0), (2, .int i2)]) X hl rfl 1 rfl rfl (by decide) rfl (fun ls hl => ?_)
  refine r_iconst (pc' := 3) X (0 : Int32) 2 rfl rfl rfl ?_
  refine r_istore (pc' := 5) (L' := [(5, .int (0 : Int32)), (3, .long (1 : Int64)), (0, .long i0), (2, .int i2)]) X hl 3 rfl rfl (by decide) rfl (fun ls hl => ?_)
  obtain ⟨LL1, hL1, hne1, hX1⟩ := mL hM hne
  have KX1 : ∀ (b1 : Int64) (H : Heap) (locs : List Loc) (ls : Array Slot), some b1 = LL1 → rY G A s ([]) H locs → lv_has ls 6 [(3, .long b1)] → W p l e q_X7_power s m args below meth c H locs 0 0 Q (F0 m 21 ls []) := by
    intro b1 H locs ls hM Y hl
    replace hM := hX1 _ hM
    refine r_lload_n (pc' := 22) X hl 0 rfl rfl 13 rfl rfl ?_
    exact RT b1 _ _ _ _ _ hM (Or.inr (Or.inr (Or.inl ⟨rfl, rfl, _, rfl⟩))) (X.d (k := 14) rfl) Y
  refine lp_rule (I := fun (st1 : Int64 × Int32) => ∀ (H : Heap) (locs : List Loc) (ls : Array Slot), rY G A s ([]) H locs → lv_has ls 6 [(0, .long i0), (2, .int i2), (3, .long st1.1), (5, .int st1.2)] → W p l e q_X7_power s m args below meth c H locs 0 0 Q (F0 m 5 ls [])) hne1 (fun rec1 st1 IH1 hM => ?_) _ _ hL1 _ _ _ Y (lv_sub hl [2, 3, 1, 0] rfl)
  intro H locs ls Y hl
  obtain ⟨st1_1, st1_2⟩ := st1
  replace Y : rY G A s ([]) H locs := Y
  replace hl : lv_has ls 6 [(0, .long i0), (2, .int i2), (3, .long st1_1), (5, .int st1_2)] := hl
  refine r_iload (pc' := 7) X hl 3 rfl 4 rfl rfl ?_
  refine r_iload_n (pc' := 8) X hl 1 rfl rfl 5 rfl rfl ?_
  refine r_icmp_ge (pc' := 11) X 21 6 rfl rfl (by decide) (fun c2 => ?_) (fun c2 => ?_)
  · replace hM := mI hM c2
    exact KX1 st1_1 _ _ _ hM Y (lv_sub hl [2] rfl)
  · replace hM := mE hM c2
    refine r_lload_n (pc' := 12) X hl 2 rfl rfl 7 rfl rfl ?_
    refine r_lload_n (pc' := 13) X hl 0 rfl rfl 8 rfl rfl ?_
    refine r_lmul (pc' := 14) X 9 rfl rfl ?_
    refine r_lstore_n (pc' := 15) (L' := [(3, .long (st1_1 * i0)), (0, .long i0), (2, .int i2), (5, .int st1_2)]) X hl rfl 10 rfl rfl (by decide) rfl (fun ls hl => ?_)
    refine r_iinc (pc' := 18) (L' := [(5, .int (st1_2 + (1 : Int32))), (3, .long (st1_1 * i0)), (0, .long i0), (2, .int i2)]) X (st1_2 + (1 : Int32)) hl 3 rfl rfl 11 rfl rfl (by decide) rfl (fun ls hl => ?_)
    refine r_goto X 5 12 rfl (by decide) ?_
    exact IH1 _ hM _ _ _ Y (lv_sub hl [2, 3, 1, 0] rfl)

def M_X7_within (i0 : Int32) (i1 : Int32) (i2 : Int32) : Option (Int32) :=
  (if i0 < i1 then (some (0 : Int32)) else (if i2 < i0 then (some (0 : Int32)) else (some (1 : Int32))))
def q_X7_within : Room := { frames := 1, cells := 0, slots := 0, locals := 60 }
set_option maxHeartbeats 4000000 in
set_option maxRecDepth 100000 in
theorem c_X7_within (l : Launch) (G : gT) (i0 : Int32) (i1 : Int32) (i2 : Int32) : CT l G yX7_within cX7_within 3 (some .boolean) q_X7_within [.int i0, .int i1, .int i2] ([]) (M_X7_within i0 i1 i2) (fun u => some (.int u)) (fun u => []) := by
  refine CT.of (P := PX7_within) (by decide) dPX7_within (Nat.le_of_ble_eq_true rfl) ?_
  intro p e s m args below meth c A Q ls hne X RT Y hl
  have hl : lv_has ls 3 [(0, .int i0), (1, .int i1), (2, .int i2)] := hl
  generalize hM : M_X7_within i0 i1 i2 = MM at hne RT
  unfold M_X7_within at hM
  refine r_iload_n (pc' := 1) X hl 0 rfl rfl 0 rfl rfl ?_
  refine r_iload_n (pc' := 2) X hl 1 rfl rfl 1 rfl rfl ?_
  refine r_icmp_lt (pc' := 5) X 14 2 rfl rfl (by decide) (fun c1 => ?_) (fun c1 => ?_)
  · replace hM := mI hM c1
    refine r_iconst (pc' := 15) X (0 : Int32) 8 rfl rfl rfl ?_
    exact RT (0 : Int32) _ _ _ _ _ hM (Or.inr (Or.inl ⟨rfl, rfl, _, rfl, nb (Or.inl rfl)⟩)) (X.d (k := 9) rfl) Y
  · replace hM := mE hM c1
    refine r_iload_n (pc' := 6) X hl 0 rfl rfl 3 rfl rfl ?_
    refine r_iload_n (pc' := 7) X hl 2 rfl rfl 4 rfl rfl ?_
    refine r_icmp_gt (pc' := 10) X 14 5 rfl rfl (by decide) (fun c2 => ?_) (fun c2 => ?_)
    · replace hM := mI hM c2
      refine r_iconst (pc' := 15) X (0 : Int32) 8 rfl rfl rfl ?_
      exact RT (0 : Int32) _ _ _ _ _ hM (Or.inr (Or.inl ⟨rfl, rfl, _, rfl, nb (Or.inl rfl)⟩)) (X.d (k := 9) rfl) Y
    · replace hM := mE hM c2
      refine r_iconst (pc' := 11) X (1 : Int32) 6 rfl rfl rfl ?_
      refine r_goto X 15 7 rfl (by decide) ?_
      exact RT (1 : Int32) _ _ _ _ _ hM (Or.inr (Or.inl ⟨rfl, rfl, _, rfl, nb (Or.inr rfl)⟩)) (X.d (k := 9) rfl) Y

def M_X5_isMissing (S0 : RW) (i1 : Int32) : Option (Int32) :=
  (if inb i1 8 = true then (if ((rw_lanes S0) (i1).toNatClampNeg) = (-1 : Int32) then (some (1 : Int32)) else (some (0 : Int32))) else none)
def q_X5_isMissing : Room := { frames := 1, cells := 0, slots := 0, locals := 60 }
set_option maxHeartbeats 4000000 in
set_option maxRecDepth 100000 in
theorem c_X5_isMissing (l : Launch) (G : gT) (h h_lanes h_sizes h_items : Nat) (S0_lanes : Nat → Int32) (S0_sizes : Nat → Int32) (S0_items : Nat → Int32) (i1 : Int32) : CT l G yX5_isMissing cX5_isMissing 2 (some .boolean) q_X5_isMissing [.ref h, .int i1] (wRW G h h_lanes h_sizes h_items S0_lanes S0_sizes S0_items) (M_X5_isMissing (S0_lanes, S0_sizes, S0_items) i1) (fun u => some (.int u)) (fun u => wRW G h h_lanes h_sizes h_items S0_lanes S0_sizes S0_items) := by
  refine CT.of (P := PX5_isMissing) (by decide) dPX5_isMissing (Nat.le_of_ble_eq_true rfl) ?_
  intro p e s m args below meth c A Q ls hne X RT Y hl
  have hl : lv_has ls 2 [(0, .ref h), (1, .int i1)] := hl
  generalize hM : M_X5_isMissing (S0_lanes, S0_sizes, S0_items) i1 = MM at hne RT
  unfold M_X5_isMissing at hM
  refine r_aload_n (pc' := 1) X hl 0 rfl rfl 0 rfl rfl ?_
  refine r_get (pc' := 4) (v := .ref h_lanes) X Y 1 rfl rfl fRX5_11 0 rfl rfl ?_
  refine r_iload_n (pc' := 5) X hl 1 rfl rfl 2 rfl rfl ?_
  obtain ⟨g1, hM⟩ := mG hM hne
  refine r_iald (pc' := 6) X Y 3 rfl rfl 1 rfl (vin g1) ?_
  refine r_iconst (pc' := 7) X (-1 : Int32) 4 rfl rfl rfl ?_
  refine r_icmp_ne (pc' := 10) X 14 5 rfl rfl (by decide) (fun c2 => ?_) (fun c2 => ?_)
  · replace hM := mE hM c2
    refine r_iconst (pc' := 15) X (0 : Int32) 8 rfl rfl rfl ?_
    exact RT (0 : Int32) _ _ _ _ _ hM (Or.inr (Or.inl ⟨rfl, rfl, _, rfl, nb (Or.inl rfl)⟩)) (X.d (k := 9) rfl) Y
  · replace hM := mI hM c2
    refine r_iconst (pc' := 11) X (1 : Int32) 6 rfl rfl rfl ?_
    refine r_goto X 15 7 rfl (by decide) ?_
    exact RT (1 : Int32) _ _ _ _ _ hM (Or.inr (Or.inl ⟨rfl, rfl, _, rfl, nb (Or.inr rfl)⟩)) (X.d (k := 9) rfl) Y

def M_X5_present (S0 : RW) : Option (Int32) :=
  ((lp (σ := Int32 × Int32) (β := Int32) (fun rec1 st1 => (if (8 : Int32) ≤ st1.2 then (some st1.1) else ((M_X5_isMissing S0 st1.2).bind (fun u3 => (if u3 = 0 then (rec1 ((st1.1 + (1 : Int32)), (st1.2 + (1 : Int32)))) else (rec1 (st1.1, (st1.2 + (1 : Int32))))))))) 1000000 ((0 : Int32), (0 : Int32))).bind (fun b1 => (some b1)))
def q_X5_present : Room := { frames := 2, cells := 0, slots := 0, locals := 81 }
set_option maxHeartbeats 4000000 in
set_option maxRecDepth 100000 in
theorem c_X5_present (l : Launch) (G : gT) (h h_lanes h_sizes h_items : Nat) (S0_lanes : Nat → Int32) (S0_sizes : Nat → Int32) (S0_items : Nat → Int32) : CT l G yX5_present cX5_present 3 (some .int) q_X5_present [.ref h] (wRW G h h_lanes h_sizes h_items S0_lanes S0_sizes S0_items) (M_X5_present (S0_lanes, S0_sizes, S0_items)) (fun u => some (.int u)) (fun u => wRW G h h_lanes h_sizes h_items S0_lanes S0_sizes S0_items) := by
  refine CT.of (P := PX5_present) (by decide) dPX5_present (Nat.le_of_ble_eq_true rfl) ?_
  intro p e s m args below meth c A Q ls hne X RT Y hl
  have hl : lv_has ls 3 [(0, .ref h)] := hl
  generalize hM : M_X5_present (S0_lanes, S0_sizes, S0_items) = MM at hne RT
  unfold M_X5_present at hM
  refine r_iconst (pc' := 1) X (0 : Int32) 0 rfl rfl rfl ?_
  refine r_istore_n (pc' := 2) (L' := [(1, .int (0 : Int32)), (0, .ref h)]) X hl rfl 1 rfl rfl (by decide) rfl (fun ls hl => ?_)
  refine r_iconst (pc' := 3) X (0 : Int32) 2 rfl rfl rfl ?_
  refine r_istore_n (pc' := 4) (L' := [(2, .int (0 : Int32)), (1, .int (0 : Int32)), (0, .ref h)]) X hl rfl 3 rfl rfl (by decide) rfl (fun ls hl => ?_)
  obtain ⟨LL1, hL1, hne1, hX1⟩ := mL hM hne
  have KX1 : ∀ (b1 : Int32) (H : Heap) (locs : List Loc) (ls : Array Slot), some b1 = LL1 → rY G A s (wRW G h h_lanes h_sizes h_items S0_lanes S0_sizes S0_items) H locs → lv_has ls 3 [(1, .int b1)] → W p l e q_X5_present s m args below meth c H locs 0 0 Q (F0 m 27 ls []) := by
    intro b1 H locs ls hM Y hl
    replace hM := hX1 _ hM
    refine r_iload_n (pc' := 28) X hl 0 rfl rfl 14 rfl rfl ?_
    exact RT b1 _ _ _ _ _ hM (Or.inl ⟨rfl, rfl, _, rfl⟩) (X.d (k := 15) rfl) Y
  refine lp_rule (I := fun (st1 : Int32 × Int32) => ∀ (H : Heap) (locs : List Loc) (ls : Array Slot), rY G A s (wRW G h h_lanes h_sizes h_items S0_lanes S0_sizes S0_items) H locs → lv_has ls 3 [(0, .ref h), (1, .int st1.1), (2, .int st1.2)] → W p l e q_X5_present s m args below meth c H locs 0 0 Q (F0 m 4 ls [])) hne1 (fun rec1 st1 IH1 hM => ?_) _ _ hL1 _ _ _ Y (lv_sub hl [2, 1, 0] rfl)
  intro H locs ls Y hl
  obtain ⟨st1_1, st1_2⟩ := st1
  replace Y : rY G A s (wRW G h h_lanes h_sizes h_items S0_lanes S0_sizes S0_items) H locs := Y
  replace hl : lv_has ls 3 [(0, .ref h), (1, .int st1_1), (2, .int st1_2)] := hl
  refine r_iload_n (pc' := 5) X hl 2 rfl rfl 4 rfl rfl ?_
  refine r_bipush (pc' := 7) X (8 : Int32) 5 rfl rfl rfl ?_
  refine r_icmp_ge (pc' := 10) X 27 6 rfl rfl (by decide) (fun c2 => ?_) (fun c2 => ?_)
  · replace hM := mI hM c2
    exact KX1 st1_1 _ _ _ hM Y (lv_sub hl [1] rfl)
  · replace hM := mE hM c2
    refine r_aload_n (pc' := 11) X hl 0 rfl rfl 7 rfl rfl ?_
    refine r_iload_n (pc' := 12) X hl 2 rfl rfl 8 rfl rfl ?_
    refine r_callV0 (pc' := 15) (As := [.int st1_2]) (rest := []) X Y 9 rfl rfl mRX5_21 (c_X5_isMissing l G h h_lanes h_sizes h_items S0_lanes S0_sizes S0_items st1_2) (mB hM hne1) 0 rfl rfl [0, 1, 2, 3] rfl rfl rfl (Nat.le_of_ble_eq_true rfl) ⟨rfl, rfl⟩ ⟨Nat.le_of_ble_eq_true rfl, Nat.le_of_ble_eq_true rfl⟩ ⟨Nat.zero_le _, Nat.zero_le _⟩ hl.1 (st' := fun u3 => [.int u3]) (fun _ => rfl) (fun u3 H locs huu3 Y => ?_)
    replace hM := mS hM huu3
    refine r_if_ne (pc' := 18) X 21 10 rfl rfl (by decide) (fun c4 => ?_) (fun c4 => ?_)
    · replace hM := mE hM c4
      refine r_iinc (pc' := 24) (L' := [(2, .int (st1_2 + (1 : Int32))), (0, .ref h), (1, .int st1_1)]) X (st1_2 + (1 : Int32)) hl 2 rfl rfl 12 rfl rfl (by decide) rfl (fun ls hl => ?_)
      refine r_goto X 4 13 rfl (by decide) ?_
      exact IH1 _ hM _ _ _ Y (lv_sub hl [1, 2, 0] rfl)
    · replace hM := mI hM c4
      refine r_iinc (pc' := 21) (L' := [(1, .int (st1_1 + (1 : Int32))), (0, .ref h), (2, .int st1_2)]) X (st1_1 + (1 : Int32)) hl 1 rfl rfl 11 rfl rfl (by decide) rfl (fun ls hl => ?_)
      refine r_iinc (pc' := 24) (L' := [(2, .int (st1_2 + (1 : Int32))), (1, .int (st1_1 + (1 : Int32))), (0, .ref h)]) X (st1_2 + (1 : Int32)) hl 2 rfl rfl 12 rfl rfl (by decide) rfl (fun ls hl => ?_)
      refine r_goto X 4 13 rfl (by decide) ?_
      exact IH1 _ hM _ _ _ Y (lv_sub hl [2, 1, 0] rfl)

def M_X5_make (S0 : RW) (i1 : Int32) (i2 : Int32) (i3 : Int32) : Option (RW) :=
  (if inb i1 8 = true then (lp (σ := Int32 × (Nat → Int32)) (β := RW) (fun rec2 st2 => (if i3 ≤ st2.1 then (some ((upd (rw_lanes S0) (i1).toNatClampNeg i2), (upd (rw_sizes S0) (i1).toNatClampNeg i3), st2.2)) else (if inb ((i1 * (40 : Int32)) + st2.1) 320 = true then (rec2 ((st2.1 + (1 : Int32)), (upd st2.2 (((i1 * (40 : Int32)) + st2.1)).toNatClampNeg (0 : Int32)))) else none))) 1000000 ((0 : Int32), (rw_items S0))) else none)
def q_X5_make : Room := { frames := 1, cells := 0, slots := 0, locals := 60 }
set_option maxHeartbeats 4000000 in
set_option maxRecDepth 100000 in
theorem c_X5_make (l : Launch) (G : gT) (h h_lanes h_sizes h_items : Nat) (S0_lanes : Nat → Int32) (S0_sizes : Nat → Int32) (S0_items : Nat → Int32) (i1 : Int32) (i2 : Int32) (i3 : Int32) : CT l G yX5_make cX5_make 5 none q_X5_make [.ref h, .int i1, .int i2, .int i3] (wRW G h h_lanes h_sizes h_items S0_lanes S0_sizes S0_items) (M_X5_make (S0_lanes, S0_sizes, S0_items) i1 i2 i3) (fun u => none) (fun u => wRW G h h_lanes h_sizes h_items u.1 u.2.1 u.2.2) := by
  refine CT.of (P := PX5_make) (by decide) dPX5_make (Nat.le_of_ble_eq_true rfl) ?_
  intro p e s m args below meth c A Q ls hne X RT Y hl
  have hl : lv_has ls 5 [(0, .ref h), (1, .int i1), (2, .int i2), (3, .int i3)] := hl
  generalize hM : M_X5_make (S0_lanes, S0_sizes, S0_items) i1 i2 i3 = MM at hne RT
  unfold M_X5_make at hM
  refine r_aload_n (pc' := 1) X hl 0 rfl rfl 0 rfl rfl ?_
  refine r_get (pc' := 4) (v := .ref h_lanes) X Y 1 rfl rfl fRX5_11 0 rfl rfl ?_
  refine r_iload_n (pc' := 5) X hl 1 rfl rfl 2 rfl rfl ?_
  refine r_iload_n (pc' := 6) X hl 2 rfl rfl 3 rfl rfl ?_
  obtain ⟨g1, hM⟩ := mG hM hne
  refine r_iast (pc' := 7) (ws' := wRW G h h_lanes h_sizes h_items (upd S0_lanes (i1).toNatClampNeg i2) S0_sizes S0_items) X Y 4 rfl rfl 1 rfl (vin g1) rfl (fun H locs Y => ?_)
  refine r_aload_n (pc' := 8) X hl 0 rfl rfl 5 rfl rfl ?_
  refine r_get (pc' := 11) (v := .ref h_sizes) X Y 6 rfl rfl fRX5_15 0 rfl rfl ?_
  refine r_iload_n (pc' := 12) X hl 1 rfl rfl 7 rfl rfl ?_
  refine r_iload_n (pc' := 13) X hl 3 rfl rfl 8 rfl rfl ?_
  refine r_iast (pc' := 14) (ws' := wRW G h h_lanes h_sizes h_items (upd S0_lanes (i1).toNatClampNeg i2) (upd S0_sizes (i1).toNatClampNeg i3) S0_items) X Y 9 rfl rfl 2 rfl (vin g1) rfl (fun H locs Y => ?_)
  refine r_iconst (pc' := 15) X (0 : Int32) 10 rfl rfl rfl ?_
  refine r_istore (pc' := 17) (L' := [(4, .int (0 : Int32)), (0, .ref h), (1, .int i1), (2, .int i2), (3, .int i3)]) X hl 11 rfl rfl (by decide) rfl (fun ls hl => ?_)
  refine lp_rule (I := fun (st2 : Int32 × (Nat → Int32)) => ∀ (H : Heap) (locs : List Loc) (ls : Array Slot), rY G A s (wRW G h h_lanes h_sizes h_items (upd S0_lanes (i1).toNatClampNeg i2) (upd S0_sizes (i1).toNatClampNeg i3) st2.2) H locs → lv_has ls 5 [(0, .ref h), (1, .int i1), (3, .int i3), (4, .int st2.1)] → W p l e q_X5_make s m args below meth c H locs 0 0 Q (F0 m 17 ls [])) hne (fun rec2 st2 IH2 hM => ?_) _ _ hM _ _ _ Y (lv_sub hl [1, 2, 4, 0] rfl)
  intro H locs ls Y hl
  obtain ⟨st2_1, st2_2⟩ := st2
  replace Y : rY G A s (wRW G h h_lanes h_sizes h_items (upd S0_lanes (i1).toNatClampNeg i2) (upd S0_sizes (i1).toNatClampNeg i3) st2_2) H locs := Y
  replace hl : lv_has ls 5 [(0, .ref h), (1, .int i1), (3, .int i3), (4, .int st2_1)] := hl
  refine r_iload (pc' := 19) X hl 3 rfl 12 rfl rfl ?_
  refine r_iload_n (pc' := 20) X hl 2 rfl rfl 13 rfl rfl ?_
  refine r_icmp_ge (pc' := 23) X 42 14 rfl rfl (by decide) (fun c3 => ?_) (fun c3 => ?_)
  · replace hM := mI hM c3
    exact RT ((upd S0_lanes (i1).toNatClampNeg i2), (upd S0_sizes (i1).toNatClampNeg i3), st2_2) _ _ _ _ _ hM (Or.inr (Or.inr (Or.inr (Or.inl ⟨rfl, rfl, rfl⟩)))) (X.d (k := 26) rfl) Y
  · replace hM := mE hM c3
    refine r_aload_n (pc' := 24) X hl 0 rfl rfl 15 rfl rfl ?_
    refine r_get (pc' := 27) (v := .ref h_items) X Y 16 rfl rfl fRX5_18 0 rfl rfl ?_
    refine r_iload_n (pc' := 28) X hl 1 rfl rfl 17 rfl rfl ?_
    refine r_bipush (pc' := 30) X (40 : Int32) 18 rfl rfl rfl ?_
    refine r_imul (pc' := 31) X 19 rfl rfl ?_
    refine r_iload (pc' := 33) X hl 3 rfl 20 rfl rfl ?_
    refine r_iadd (pc' := 34) X 21 rfl rfl ?_
    refine r_iconst (pc' := 35) X (0 : Int32) 22 rfl rfl rfl ?_
    obtain ⟨g4, hM⟩ := mG hM hne
    refine r_iast (pc' := 36) (ws' := wRW G h h_lanes h_sizes h_items (upd S0_lanes (i1).toNatClampNeg i2) (upd S0_sizes (i1).toNatClampNeg i3) (upd st2_2 (((i1 * (40 : Int32)) + st2_1)).toNatClampNeg (0 : Int32))) X Y 23 rfl rfl 3 rfl (vin g4) rfl (fun H locs Y => ?_)
    refine r_iinc (pc' := 39) (L' := [(4, .int (st2_1 + (1 : Int32))), (0, .ref h), (1, .int i1), (3, .int i3)]) X (st2_1 + (1 : Int32)) hl 3 rfl rfl 24 rfl rfl (by decide) rfl (fun ls hl => ?_)
    refine r_goto X 17 25 rfl (by decide) ?_
    exact IH2 _ hM _ _ _ Y (lv_sub hl [1, 2, 3, 0] rfl)

def M_X5_remove (S0 : RW) (i1 : Int32) : Option (Int32 × RW) :=
  (if inb i1 8 = true then (some (((rw_sizes S0) (i1).toNatClampNeg), (rw_s_lanes S0 (upd (rw_lanes S0) (i1).toNatClampNeg (-1 : Int32))))) else none)
def q_X5_remove : Room := { frames := 1, cells := 0, slots := 0, locals := 60 }
set_option maxHeartbeats 4000000 in
set_option maxRecDepth 100000 in
theorem c_X5_remove (l : Launch) (G : gT) (h h_lanes h_sizes h_items : Nat) (S0_lanes : Nat → Int32) (S0_sizes : Nat → Int32) (S0_items : Nat → Int32) (i1 : Int32) : CT l G yX5_remove cX5_remove 2 (some .int) q_X5_remove [.ref h, .int i1] (wRW G h h_lanes h_sizes h_items S0_lanes S0_sizes S0_items) (M_X5_remove (S0_lanes, S0_sizes, S0_items) i1) (fun u => some (.int u.1)) (fun u => wRW G h h_lanes h_sizes h_items u.2.1 u.2.2.1 u.2.2.2) := by
  refine CT.of (P := PX5_remove) (by decide) dPX5_remove (Nat.le_of_ble_eq_true rfl) ?_
  intro p e s m args below meth c A Q ls hne X RT Y hl
  have hl : lv_has ls 2 [(0, .ref h), (1, .int i1)] := hl
  generalize hM : M_X5_remove (S0_lanes, S0_sizes, S0_items) i1 = MM at hne RT
  unfold M_X5_remove at hM
  refine r_aload_n (pc' := 1) X hl 0 rfl rfl 0 rfl rfl ?_
  refine r_get (pc' := 4) (v := .ref h_lanes) X Y 1 rfl rfl fRX5_11 0 rfl rfl ?_
  refine r_iload_n (pc' := 5) X hl 1 rfl rfl 2 rfl rfl ?_
  refine r_iconst (pc' := 6) X (-1 : Int32) 3 rfl rfl rfl ?_
  obtain ⟨g1, hM⟩ := mG hM hne
  refine r_iast (pc' := 7) (ws' := wRW G h h_lanes h_sizes h_items (upd S0_lanes (i1).toNatClampNeg (-1 : Int32)) S0_sizes S0_items) X Y 4 rfl rfl 1 rfl (vin g1) rfl (fun H locs Y => ?_)
  refine r_aload_n (pc' := 8) X hl 0 rfl rfl 5 rfl rfl ?_
  refine r_get (pc' := 11) (v := .ref h_sizes) X Y 6 rfl rfl fRX5_15 0 rfl rfl ?_
  refine r_iload_n (pc' := 12) X hl 1 rfl rfl 7 rfl rfl ?_
  refine r_iald (pc' := 13) X Y 8 rfl rfl 2 rfl (vin g1) ?_
  exact RT ((S0_sizes (i1).toNatClampNeg), ((upd S0_lanes (i1).toNatClampNeg (-1 : Int32)), S0_sizes, S0_items)) _ _ _ _ _ hM (Or.inl ⟨rfl, rfl, _, rfl⟩) (X.d (k := 9) rfl) Y

def M_X5_hasItems (S0 : RW) (i1 : Int32) (i2 : Int32) (i3 : Int32) : Option (Int32) :=
  (if i2 < 0 then (some (0 : Int32)) else (if i3 < 0 then (some (0 : Int32)) else (if inb i1 8 = true then (if (((rw_sizes S0) (i1).toNatClampNeg) - i2) < i3 then (some (0 : Int32)) else (some (1 : Int32))) else none)))
def q_X5_hasItems : Room := { frames := 1, cells := 0, slots := 0, locals := 60 }
set_option maxHeartbeats 4000000 in
set_option maxRecDepth 100000 in
theorem c_X5_hasItems (l : Launch) (G : gT) (h h_lanes h_sizes h_items : Nat) (S0_lanes : Nat → Int32) (S0_sizes : Nat → Int32) (S0_items : Nat → Int32) (i1 : Int32) (i2 : Int32) (i3 : Int32) : CT l G yX5_hasItems cX5_hasItems 4 (some .boolean) q_X5_hasItems [.ref h, .int i1, .int i2, .int i3] (wRW G h h_lanes h_sizes h_items S0_lanes S0_sizes S0_items) (M_X5_hasItems (S0_lanes, S0_sizes, S0_items) i1 i2 i3) (fun u => some (.int u)) (fun u => wRW G h h_lanes h_sizes h_items S0_lanes S0_sizes S0_items) := by
  refine CT.of (P := PX5_hasItems) (by decide) dPX5_hasItems (Nat.le_of_ble_eq_true rfl) ?_
  intro p e s m args below meth c A Q ls hne X RT Y hl
  have hl : lv_has ls 4 [(0, .ref h), (1, .int i1), (2, .int i2), (3, .int i3)] := hl
  generalize hM : M_X5_hasItems (S0_lanes, S0_sizes, S0_items) i1 i2 i3 = MM at hne RT
  unfold M_X5_hasItems at hM
  refine r_iload_n (pc' := 1) X hl 2 rfl rfl 0 rfl rfl ?_
  refine r_if_lt (pc' := 4) X 24 1 rfl rfl (by decide) (fun c1 => ?_) (fun c1 => ?_)
  · replace hM := mI hM c1
    refine r_iconst (pc' := 25) X (0 : Int32) 14 rfl rfl rfl ?_
    exact RT (0 : Int32) _ _ _ _ _ hM (Or.inr (Or.inl ⟨rfl, rfl, _, rfl, nb (Or.inl rfl)⟩)) (X.d (k := 15) rfl) Y
  · replace hM := mE hM c1
    refine r_iload_n (pc' := 5) X hl 3 rfl rfl 2 rfl rfl ?_
    refine r_if_lt (pc' := 8) X 24 3 rfl rfl (by decide) (fun c2 => ?_) (fun c2 => ?_)
    · replace hM := mI hM c2
      refine r_iconst (pc' := 25) X (0 : Int32) 14 rfl rfl rfl ?_
      exact RT (0 : Int32) _ _ _ _ _ hM (Or.inr (Or.inl ⟨rfl, rfl, _, rfl, nb (Or.inl rfl)⟩)) (X.d (k := 15) rfl) Y
    · replace hM := mE hM c2
      refine r_iload_n (pc' := 9) X hl 3 rfl rfl 4 rfl rfl ?_
      refine r_aload_n (pc' := 10) X hl 0 rfl rfl 5 rfl rfl ?_
      refine r_get (pc' := 13) (v := .ref h_sizes) X Y 6 rfl rfl fRX5_15 0 rfl rfl ?_
      refine r_iload_n (pc' := 14) X hl 1 rfl rfl 7 rfl rfl ?_
      obtain ⟨g3, hM⟩ := mG hM hne
      refine r_iald (pc' := 15) X Y 8 rfl rfl 2 rfl (vin g3) ?_
      refine r_iload_n (pc' := 16) X hl 2 rfl rfl 9 rfl rfl ?_
      refine r_isub (pc' := 17) X 10 rfl rfl ?_
      refine r_icmp_gt (pc' := 20) X 24 11 rfl rfl (by decide) (fun c4 => ?_) (fun c4 => ?_)
      · replace hM := mI hM c4
        refine r_iconst (pc' := 25) X (0 : Int32) 14 rfl rfl rfl ?_
        exact RT (0 : Int32) _ _ _ _ _ hM (Or.inr (Or.inl ⟨rfl, rfl, _, rfl, nb (Or.inl rfl)⟩)) (X.d (k := 15) rfl) Y
      · replace hM := mE hM c4
        refine r_iconst (pc' := 21) X (1 : Int32) 12 rfl rfl rfl ?_
        refine r_goto X 25 13 rfl (by decide) ?_
        exact RT (1 : Int32) _ _ _ _ _ hM (Or.inr (Or.inl ⟨rfl, rfl, _, rfl, nb (Or.inr rfl)⟩)) (X.d (k := 15) rfl) Y

def M_X5_findingFrom (S0 : RW) (i1 : Int32) (i2 : Int32) (i3 : Int32) : Option (Int32) :=
  ((M_X5_isMissing S0 i1).bind (fun u1 => (if u1 = 0 then ((M_X5_hasItems S0 i1 i2 i3).bind (fun u3 => (if u3 = 0 then (some (2 : Int32)) else (some (0 : Int32))))) else (some (1 : Int32)))))
def q_X5_findingFrom : Room := { frames := 2, cells := 0, slots := 0, locals := 83 }
set_option maxHeartbeats 4000000 in
set_option maxRecDepth 100000 in
theorem c_X5_findingFrom (l : Launch) (G : gT) (h h_lanes h_sizes h_items : Nat) (S0_lanes : Nat → Int32) (S0_sizes : Nat → Int32) (S0_items : Nat → Int32) (i1 : Int32) (i2 : Int32) (i3 : Int32) : CT l G yX5_findingFrom cX5_findingFrom 4 (some .int) q_X5_findingFrom [.ref h, .int i1, .int i2, .int i3] (wRW G h h_lanes h_sizes h_items S0_lanes S0_sizes S0_items) (M_X5_findingFrom (S0_lanes, S0_sizes, S0_items) i1 i2 i3) (fun u => some (.int u)) (fun u => wRW G h h_lanes h_sizes h_items S0_lanes S0_sizes S0_items) := by
  refine CT.of (P := PX5_findingFrom) (by decide) dPX5_findingFrom (Nat.le_of_ble_eq_true rfl) ?_
  intro p e s m args below meth c A Q ls hne X RT Y hl
  have hl : lv_has ls 4 [(0, .ref h), (1, .int i1), (2, .int i2), (3, .int i3)] := hl
  generalize hM : M_X5_findingFrom (S0_lanes, S0_sizes, S0_items) i1 i2 i3 = MM at hne RT
  unfold M_X5_findingFrom at hM
  refine r_aload_n (pc' := 1) X hl 0 rfl rfl 0 rfl rfl ?_
  refine r_iload_n (pc' := 2) X hl 1 rfl rfl 1 rfl rfl ?_
  refine r_callV0 (pc' := 5) (As := [.int i1]) (rest := []) X Y 2 rfl rfl mRX5_21 (c_X5_isMissing l G h h_lanes h_sizes h_items S0_lanes S0_sizes S0_items i1) (mB hM hne) 0 rfl rfl [0, 1, 2, 3] rfl rfl rfl (Nat.le_of_ble_eq_true rfl) ⟨rfl, rfl⟩ ⟨Nat.le_of_ble_eq_true rfl, Nat.le_of_ble_eq_true rfl⟩ ⟨Nat.zero_le _, Nat.zero_le _⟩ hl.1 (st' := fun u1 => [.int u1]) (fun _ => rfl) (fun u1 H locs huu1 Y => ?_)
  replace hM := mS hM huu1
  refine r_if_eq (pc' := 8) X 10 3 rfl rfl (by decide) (fun c2 => ?_) (fun c2 => ?_)
  · replace hM := mI hM c2
    refine r_aload_n (pc' := 11) X hl 0 rfl rfl 6 rfl rfl ?_
    refine r_iload_n (pc' := 12) X hl 1 rfl rfl 7 rfl rfl ?_
    refine r_iload_n (pc' := 13) X hl 2 rfl rfl 8 rfl rfl ?_
    refine r_iload_n (pc' := 14) X hl 3 rfl rfl 9 rfl rfl ?_
    refine r_callV0 (pc' := 17) (As := [.int i1, .int i2, .int i3]) (rest := []) X Y 10 rfl rfl mRX5_25 (c_X5_hasItems l G h h_lanes h_sizes h_items S0_lanes S0_sizes S0_items i1 i2 i3) (mB hM hne) 0 rfl rfl [0, 1, 2, 3] rfl rfl rfl (Nat.le_of_ble_eq_true rfl) ⟨rfl, rfl⟩ ⟨Nat.le_of_ble_eq_true rfl, Nat.le_of_ble_eq_true rfl⟩ ⟨Nat.zero_le _, Nat.zero_le _⟩ hl.1 (st' := fun u3 => [.int u3]) (fun _ => rfl) (fun u3 H locs huu3 Y => ?_)
    replace hM := mS hM huu3
    refine r_if_eq (pc' := 20) X 24 11 rfl rfl (by decide) (fun c4 => ?_) (fun c4 => ?_)
    · replace hM := mI hM c4
      refine r_iconst (pc' := 25) X (2 : Int32) 14 rfl rfl rfl ?_
      exact RT (2 : Int32) _ _ _ _ _ hM (Or.inl ⟨rfl, rfl, _, rfl⟩) (X.d (k := 15) rfl) Y
    · replace hM := mE hM c4
      refine r_iconst (pc' := 21) X (0 : Int32) 12 rfl rfl rfl ?_
      refine r_goto X 25 13 rfl (by decide) ?_
      exact RT (0 : Int32) _ _ _ _ _ hM (Or.inl ⟨rfl, rfl, _, rfl⟩) (X.d (k := 15) rfl) Y
  · replace hM := mE hM c2
    refine r_iconst (pc' := 9) X (1 : Int32) 4 rfl rfl rfl ?_
    exact RT (1 : Int32) _ _ _ _ _ hM (Or.inl ⟨rfl, rfl, _, rfl⟩) (X.d (k := 5) rfl) Y

def M_X5_copyFinding (S0 : RW) (i1 : Int32) (i2 : Int32) (i3 : Int32) (i4 : Int32) (i5 : Int32) : Option (Int32) :=
  ((M_X5_isMissing S0 i1).bind (fun u1 => (if u1 = 0 then ((M_X5_isMissing S0 i3).bind (fun u3 => (if u3 = 0 then (if inb i1 8 = true then (if inb i3 8 = true then (if ((rw_lanes S0) (i1).toNatClampNeg) = ((rw_lanes S0) (i3).toNatClampNeg) then ((M_X5_hasItems S0 i1 i2 i5).bind (fun u8 => (if u8 = 0 then (some (2 : Int32)) else ((M_X5_hasItems S0 i3 i4 i5).bind (fun u10 => (if u10 = 0 then (some (2 : Int32)) else (some (0 : Int32)))))))) else (some (5 : Int32))) else none) else none) else (some (1 : Int32))))) else (some (1 : Int32)))))
def q_X5_copyFinding : Room := { frames := 2, cells := 0, slots := 0, locals := 83 }
set_option maxHeartbeats 4000000 in
set_option maxRecDepth 100000 in
theorem c_X5_copyFinding (l : Launch) (G : gT) (h h_lanes h_sizes h_items : Nat) (S0_lanes : Nat → Int32) (S0_sizes : Nat → Int32) (S0_items : Nat → Int32) (i1 : Int32) (i2 : Int32) (i3 : Int32) (i4 : Int32) (i5 : Int32) : CT l G yX5_copyFinding cX5_copyFinding 6 (some .int) q_X5_copyFinding [.ref h, .int i1, .int i2, .int i3, .int i4, .int i5] (wRW G h h_lanes h_sizes h_items S0_lanes S0_sizes S0_items) (M_X5_copyFinding (S0_lanes, S0_sizes, S0_items) i1 i2 i3 i4 i5) (fun u => some (.int u)) (fun u => wRW G h h_lanes h_sizes h_items S0_lanes S0_sizes S0_items) := by
  refine CT.of (P := PX5_copyFinding) (by decide) dPX5_copyFinding (Nat.le_of_ble_eq_true rfl) ?_
  intro p e s m args below meth c A Q ls hne X RT Y hl
  have hl : lv_has ls 6 [(0, .ref h), (1, .int i1), (2, .int i2), (3, .int i3), (4, .int i4), (5, .int i5)] := hl
  generalize hM : M_X5_copyFinding (S0_lanes, S0_sizes, S0_items) i1 i2 i3 i4 i5 = MM at hne RT
  unfold M_X5_copyFinding at hM
  refine r_aload_n (pc' := 1) X hl 0 rfl rfl 0 rfl rfl ?_
  refine r_iload_n (pc' := 2) X hl 1 rfl rfl 1 rfl rfl ?_
  refine r_callV0 (pc' := 5) (As := [.int i1]) (rest := []) X Y 2 rfl rfl mRX5_21 (c_X5_isMissing l G h h_lanes h_sizes h_items S0_lanes S0_sizes S0_items i1) (mB hM hne) 0 rfl rfl [0, 1, 2, 3] rfl rfl rfl (Nat.le_of_ble_eq_true rfl) ⟨rfl, rfl⟩ ⟨Nat.le_of_ble_eq_true rfl, Nat.le_of_ble_eq_true rfl⟩ ⟨Nat.zero_le _, Nat.zero_le _⟩ hl.1 (st' := fun u1 => [.int u1]) (fun _ => rfl) (fun u1 H locs huu1 Y => ?_)
  replace hM := mS hM huu1
  refine r_if_ne (pc' := 8) X 16 3 rfl rfl (by decide) (fun c2 => ?_) (fun c2 => ?_)
  · replace hM := mE hM c2
    refine r_iconst (pc' := 17) X (1 : Int32) 8 rfl rfl rfl ?_
    exact RT (1 : Int32) _ _ _ _ _ hM (Or.inl ⟨rfl, rfl, _, rfl⟩) (X.d (k := 9) rfl) Y
  · replace hM := mI hM c2
    refine r_aload_n (pc' := 9) X hl 0 rfl rfl 4 rfl rfl ?_
    refine r_iload_n (pc' := 10) X hl 3 rfl rfl 5 rfl rfl ?_
    refine r_callV0 (pc' := 13) (As := [.int i3]) (rest := []) X Y 6 rfl rfl mRX5_21 (c_X5_isMissing l G h h_lanes h_sizes h_items S0_lanes S0_sizes S0_items i3) (mB hM hne) 0 rfl rfl [0, 1, 2, 3] rfl rfl rfl (Nat.le_of_ble_eq_true rfl) ⟨rfl, rfl⟩ ⟨Nat.le_of_ble_eq_true rfl, Nat.le_of_ble_eq_true rfl⟩ ⟨Nat.zero_le _, Nat.zero_le _⟩ hl.1 (st' := fun u3 => [.int u3]) (fun _ => rfl) (fun u3 H locs huu3 Y => ?_)
    replace hM := mS hM huu3
    refine r_if_eq (pc' := 16) X 18 7 rfl rfl (by decide) (fun c4 => ?_) (fun c4 => ?_)
    · replace hM := mI hM c4
      refine r_aload_n (pc' := 19) X hl 0 rfl rfl 10 rfl rfl ?_
      refine r_get (pc' := 22) (v := .ref h_lanes) X Y 11 rfl rfl fRX5_11 0 rfl rfl ?_
      refine r_iload_n (pc' := 23) X hl 1 rfl rfl 12 rfl rfl ?_
      obtain ⟨g5, hM⟩ := mG hM hne
      refine r_iald (pc' := 24) X Y 13 rfl rfl 1 rfl (vin g5) ?_
      refine r_aload_n (pc' := 25) X hl 0 rfl rfl 14 rfl rfl ?_
      refine r_get (pc' := 28) (v := .ref h_lanes) X Y 15 rfl rfl fRX5_11 0 rfl rfl ?_
      refine r_iload_n (pc' := 29) X hl 3 rfl rfl 16 rfl rfl ?_
      obtain ⟨g6, hM⟩ := mG hM hne
      refine r_iald (pc' := 30) X Y 17 rfl rfl 1 rfl (vin g6) ?_
      refine r_icmp_eq (pc' := 33) X 35 18 rfl rfl (by decide) (fun c7 => ?_) (fun c7 => ?_)
      · replace hM := mI hM c7
        refine r_aload_n (pc' := 36) X hl 0 rfl rfl 21 rfl rfl ?_
        refine r_iload_n (pc' := 37) X hl 1 rfl rfl 22 rfl rfl ?_
        refine r_iload_n (pc' := 38) X hl 2 rfl rfl 23 rfl rfl ?_
        refine r_iload (pc' := 40) X hl 5 rfl 24 rfl rfl ?_
        refine r_callV0 (pc' := 43) (As := [.int i1, .int i2, .int i5]) (rest := []) X Y 25 rfl rfl mRX5_25 (c_X5_hasItems l G h h_lanes h_sizes h_items S0_lanes S0_sizes S0_items i1 i2 i5) (mB hM hne) 0 rfl rfl [0, 1, 2, 3] rfl rfl rfl (Nat.le_of_ble_eq_true rfl) ⟨rfl, rfl⟩ ⟨Nat.le_of_ble_eq_true rfl, Nat.le_of_ble_eq_true rfl⟩ ⟨Nat.zero_le _, Nat.zero_le _⟩ hl.1 (st' := fun u8 => [.int u8]) (fun _ => rfl) (fun u8 H locs huu8 Y => ?_)
        replace hM := mS hM huu8
        refine r_if_eq (pc' := 46) X 62 26 rfl rfl (by decide) (fun c9 => ?_) (fun c9 => ?_)
        · replace hM := mI hM c9
          refine r_iconst (pc' := 63) X (2 : Int32) 35 rfl rfl rfl ?_
          exact RT (2 : Int32) _ _ _ _ _ hM (Or.inl ⟨rfl, rfl, _, rfl⟩) (X.d (k := 36) rfl) Y
        · replace hM := mE hM c9
          refine r_aload_n (pc' := 47) X hl 0 rfl rfl 27 rfl rfl ?_
          refine r_iload_n (pc' := 48) X hl 3 rfl rfl 28 rfl rfl ?_
          refine r_iload (pc' := 50) X hl 4 rfl 29 rfl rfl ?_
          refine r_iload (pc' := 52) X hl 5 rfl 30 rfl rfl ?_
          refine r_callV0 (pc' := 55) (As := [.int i3, .int i4, .int i5]) (rest := []) X Y 31 rfl rfl mRX5_25 (c_X5_hasItems l G h h_lanes h_sizes h_items S0_lanes S0_sizes S0_items i3 i4 i5) (mB hM hne) 0 rfl rfl [0, 1, 2, 3] rfl rfl rfl (Nat.le_of_ble_eq_true rfl) ⟨rfl, rfl⟩ ⟨Nat.le_of_ble_eq_true rfl, Nat.le_of_ble_eq_true rfl⟩ ⟨Nat.zero_le _, Nat.zero_le _⟩ hl.1 (st' := fun u10 => [.int u10]) (fun _ => rfl) (fun u10 H locs huu10 Y => ?_)
          replace hM := mS hM huu10
          refine r_if_eq (pc' := 58) X 62 32 rfl rfl (by decide) (fun c11 => ?_) (fun c11 => ?_)
          · replace hM := mI hM c11
            refine r_iconst (pc' := 63) X (2 : Int32) 35 rfl rfl rfl ?_
            exact RT (2 : Int32) _ _ _ _ _ hM (Or.inl ⟨rfl, rfl, _, rfl⟩) (X.d (k := 36) rfl) Y
          · replace hM := mE hM c11
            refine r_iconst (pc' := 59) X (0 : Int32) 33 rfl rfl rfl ?_
            refine r_goto X 63 34 rfl (by decide) ?_
            exact RT (0 : Int32) _ _ _ _ _ hM (Or.inl ⟨rfl, rfl, _, rfl⟩) (X.d (k := 36) rfl) Y
      · replace hM := mE hM c7
        refine r_iconst (pc' := 34) X (5 : Int32) 19 rfl rfl rfl ?_
        exact RT (5 : Int32) _ _ _ _ _ hM (Or.inl ⟨rfl, rfl, _, rfl⟩) (X.d (k := 20) rfl) Y
    · replace hM := mE hM c4
      refine r_iconst (pc' := 17) X (1 : Int32) 8 rfl rfl rfl ?_
      exact RT (1 : Int32) _ _ _ _ _ hM (Or.inl ⟨rfl, rfl, _, rfl⟩) (X.d (k := 9) rfl) Y

def M_X5_write (S0 : RW) (i1 : Int32) (i2 : Int32) (i3 : Int32) : Option (Int32 × RW) :=
  (if inb i1 8 = true then (jn (σ := Int32) (fun v2 => (if inb ((i1 * (40 : Int32)) + i2) 320 = true then (some (v2, (rw_s_items S0 (upd (rw_items S0) (((i1 * (40 : Int32)) + i2)).toNatClampNeg v2)))) else none)) (fun J2 => (if ((rw_lanes S0) (i1).toNatClampNeg) = 0 then (J2 (i3).toInt8.toInt32) else (if ((rw_lanes S0) (i1).toNatClampNeg) = (1 : Int32) then (J2 (i3).toInt16.toInt32) else (J2 i3))))) else none)
def q_X5_write : Room := { frames := 1, cells := 0, slots := 0, locals := 60 }
set_option maxHeartbeats 4000000 in
set_option maxRecDepth 100000 in
theorem c_X5_write (l : Launch) (G : gT) (h h_lanes h_sizes h_items : Nat) (S0_lanes : Nat → Int32) (S0_sizes : Nat → Int32) (S0_items : Nat → Int32) (i1 : Int32) (i2 : Int32) (i3 : Int32) : CT l G yX5_write cX5_write 5 (some .int) q_X5_write [.ref h, .int i1, .int i2, .int i3] (wRW G h h_lanes h_sizes h_items S0_lanes S0_sizes S0_items) (M_X5_write (S0_lanes, S0_sizes, S0_items) i1 i2 i3) (fun u => some (.int u.1)) (fun u => wRW G h h_lanes h_sizes h_items u.2.1 u.2.2.1 u.2.2.2) := by
  refine CT.of (P := PX5_write) (by decide) dPX5_write (Nat.le_of_ble_eq_true rfl) ?_
  intro p e s m args below meth c A Q ls hne X RT Y hl
  have hl : lv_has ls 5 [(0, .ref h), (1, .int i1), (2, .int i2), (3, .int i3)] := hl
  generalize hM : M_X5_write (S0_lanes, S0_sizes, S0_items) i1 i2 i3 = MM at hne RT
  unfold M_X5_write at hM
  refine r_iload_n (pc' := 1) X hl 3 rfl rfl 0 rfl rfl ?_
  refine r_istore (pc' := 3) (L' := [(4, .int i3), (0, .ref h), (1, .int i1), (2, .int i2), (3, .int i3)]) X hl 1 rfl rfl (by decide) rfl (fun ls hl => ?_)
  refine r_aload_n (pc' := 4) X hl 1 rfl rfl 2 rfl rfl ?_
  refine r_get (pc' := 7) (v := .ref h_lanes) X Y 3 rfl rfl fRX5_11 0 rfl rfl ?_
  refine r_iload_n (pc' := 8) X hl 2 rfl rfl 4 rfl rfl ?_
  obtain ⟨g1, hM⟩ := mG hM hne
  refine r_iald (pc' := 9) X Y 5 rfl rfl 1 rfl (vin g1) ?_
  obtain ⟨J2, hJ2, hM⟩ := mJ hM
  have KJ2 : ∀ (v2 : Int32) (H : Heap) (locs : List Loc) (ls : Array Slot), J2 v2 = MM → rY G A s (wRW G h h_lanes h_sizes h_items S0_lanes S0_sizes S0_items) H locs → lv_has ls 5 [(0, .ref h), (1, .int i1), (2, .int i2), (4, .int v2)] → W p l e q_X5_write s m args below meth c H locs 0 0 Q (F0 m 33 ls []) := by
    intro v2 H locs ls hM Y hl
    replace hM := (hJ2 _).symm.trans hM
    refine r_aload_n (pc' := 34) X hl 0 rfl rfl 20 rfl rfl ?_
    refine r_get (pc' := 37) (v := .ref h_items) X Y 21 rfl rfl fRX5_18 0 rfl rfl ?_
    refine r_iload_n (pc' := 38) X hl 1 rfl rfl 22 rfl rfl ?_
    refine r_bipush (pc' := 40) X (40 : Int32) 23 rfl rfl rfl ?_
    refine r_imul (pc' := 41) X 24 rfl rfl ?_
    refine r_iload_n (pc' := 42) X hl 2 rfl rfl 25 rfl rfl ?_
    refine r_iadd (pc' := 43) X 26 rfl rfl ?_
    refine r_iload (pc' := 45) X hl 3 rfl 27 rfl rfl ?_
    obtain ⟨g3, hM⟩ := mG hM hne
    refine r_iast (pc' := 46) (ws' := wRW G h h_lanes h_sizes h_items S0_lanes S0_sizes (upd S0_items (((i1 * (40 : Int32)) + i2)).toNatClampNeg v2)) X Y 28 rfl rfl 3 rfl (vin g3) rfl (fun H locs Y => ?_)
    refine r_iload (pc' := 48) X hl 3 rfl 29 rfl rfl ?_
    exact RT (v2, (S0_lanes, S0_sizes, (upd S0_items (((i1 * (40 : Int32)) + i2)).toNatClampNeg v2))) _ _ _ _ _ hM (Or.inl ⟨rfl, rfl, _, rfl⟩) (X.d (k := 30) rfl) Y
  refine r_if_ne (pc' := 12) X 19 6 rfl rfl (by decide) (fun c4 => ?_) (fun c4 => ?_)
  · replace hM := mE hM c4
    refine r_aload_n (pc' := 20) X hl 1 rfl rfl 11 rfl rfl ?_
    refine r_get (pc' := 23) (v := .ref h_lanes) X Y 12 rfl rfl fRX5_11 0 rfl rfl ?_
    refine r_iload_n (pc' := 24) X hl 2 rfl rfl 13 rfl rfl ?_
    refine r_iald (pc' := 25) X Y 14 rfl rfl 1 rfl (vin g1) ?_
    refine r_iconst (pc' := 26) X (1 : Int32) 15 rfl rfl rfl ?_
    refine r_icmp_ne (pc' := 29) X 33 16 rfl rfl (by decide) (fun c5 => ?_) (fun c5 => ?_)
    · replace hM := mE hM c5
      exact KJ2 i3 _ _ _ hM Y (lv_sub hl [1, 2, 3, 0] rfl)
    · replace hM := mI hM c5
      refine r_iload_n (pc' := 30) X hl 4 rfl rfl 17 rfl rfl ?_
      refine r_i2s (pc' := 31) X 18 rfl rfl ?_
      refine r_istore (pc' := 33) (L' := [(4, .int (i3).toInt16.toInt32), (0, .ref h), (1, .int i1), (2, .int i2), (3, .int i3)]) X hl 19 rfl rfl (by decide) rfl (fun ls hl => ?_)
      exact KJ2 ((i3).toInt16.toInt32) _ _ _ hM Y (lv_sub hl [1, 2, 3, 0] rfl)
  · replace hM := mI hM c4
    refine r_iload_n (pc' := 13) X hl 4 rfl rfl 7 rfl rfl ?_
    refine r_i2b (pc' := 14) X 8 rfl rfl ?_
    refine r_istore (pc' := 16) (L' := [(4, .int (i3).toInt8.toInt32), (0, .ref h), (1, .int i1), (2, .int i2), (3, .int i3)]) X hl 9 rfl rfl (by decide) rfl (fun ls hl => ?_)
    refine r_goto X 33 10 rfl (by decide) ?_
    exact KJ2 ((i3).toInt8.toInt32) _ _ _ hM Y (lv_sub hl [1, 2, 3, 0] rfl)

def M_X5_carry (S0 : RW) (i1 : Int32) (i2 : Int32) (i3 : Int32) (i4 : Int32) (i5 : Int32) : Option (RW) :=
  (if ((¬ ((i1 * (40 : Int32)) + i2) < 0 ∧ ¬ ((i3 * (40 : Int32)) + i4) < 0 ∧ ¬ i5 < 0) ∧ (((i1 * (40 : Int32)) + i2)).toNatClampNeg + (i5).toNatClampNeg ≤ 320 ∧ (((i3 * (40 : Int32)) + i4)).toNatClampNeg + (i5).toNatClampNeg ≤ 320) then (some (rw_s_items S0 (va_cpy (rw_items S0) (rw_items S0) (((i1 * (40 : Int32)) + i2)).toNatClampNeg (((i3 * (40 : Int32)) + i4)).toNatClampNeg (i5).toNatClampNeg))) else none)
def q_X5_carry : Room := { frames := 1, cells := 0, slots := 0, locals := 60 }
set_option maxHeartbeats 4000000 in
set_option maxRecDepth 100000 in
theorem c_X5_carry (l : Launch) (G : gT) (h h_lanes h_sizes h_items : Nat) (S0_lanes : Nat → Int32) (S0_sizes : Nat → Int32) (S0_items : Nat → Int32) (i1 : Int32) (i2 : Int32) (i3 : Int32) (i4 : Int32) (i5 : Int32) : CT l G yX5_carry cX5_carry 6 none q_X5_carry [.ref h, .int i1, .int i2, .int i3, .int i4, .int i5] (wRW G h h_lanes h_sizes h_items S0_lanes S0_sizes S0_items) (M_X5_carry (S0_lanes, S0_sizes, S0_items) i1 i2 i3 i4 i5) (fun u => none) (fun u => wRW G h h_lanes h_sizes h_items u.1 u.2.1 u.2.2) := by
  refine CT.of (P := PX5_carry) (by decide) dPX5_carry (Nat.le_of_ble_eq_true rfl) ?_
  intro p e s m args below meth c A Q ls hne X RT Y hl
  have hl : lv_has ls 6 [(0, .ref h), (1, .int i1), (2, .int i2), (3, .int i3), (4, .int i4), (5, .int i5)] := hl
  generalize hM : M_X5_carry (S0_lanes, S0_sizes, S0_items) i1 i2 i3 i4 i5 = MM at hne RT
  unfold M_X5_carry at hM
  refine r_aload_n (pc' := 1) X hl 0 rfl rfl 0 rfl rfl ?_
  refine r_get (pc' := 4) (v := .ref h_items) X Y 1 rfl rfl fRX5_18 0 rfl rfl ?_
  refine r_iload_n (pc' := 5) X hl 1 rfl rfl 2 rfl rfl ?_
  refine r_bipush (pc' := 7) X (40 : Int32) 3 rfl rfl rfl ?_
  refine r_imul (pc' := 8) X 4 rfl rfl ?_
  refine r_iload_n (pc' := 9) X hl 2 rfl rfl 5 rfl rfl ?_
  refine r_iadd (pc' := 10) X 6 rfl rfl ?_
  refine r_aload_n (pc' := 11) X hl 0 rfl rfl 7 rfl rfl ?_
  refine r_get (pc' := 14) (v := .ref h_items) X Y 8 rfl rfl fRX5_18 0 rfl rfl ?_
  refine r_iload_n (pc' := 15) X hl 3 rfl rfl 9 rfl rfl ?_
  refine r_bipush (pc' := 17) X (40 : Int32) 10 rfl rfl rfl ?_
  refine r_imul (pc' := 18) X 11 rfl rfl ?_
  refine r_iload (pc' := 20) X hl 4 rfl 12 rfl rfl ?_
  refine r_iadd (pc' := 21) X 13 rfl rfl ?_
  refine r_iload (pc' := 23) X hl 5 rfl 14 rfl rfl ?_
  obtain ⟨g1, hM⟩ := mG hM hne
  refine r_copyi (pc' := 26) (ws' := wRW G h h_lanes h_sizes h_items S0_lanes S0_sizes (va_cpy S0_items S0_items (((i1 * (40 : Int32)) + i2)).toNatClampNeg (((i3 * (40 : Int32)) + i4)).toNatClampNeg (i5).toNatClampNeg)) X Y 15 rfl rfl ⟨mw280, mw11, mw12, mw13⟩ 3 3 rfl rfl hl.1 g1 ⟨Nat.le_of_ble_eq_true rfl, Nat.le_of_ble_eq_true rfl⟩ rfl (fun H locs Y => ?_)
  exact RT (S0_lanes, S0_sizes, (va_cpy S0_items S0_items (((i1 * (40 : Int32)) + i2)).toNatClampNeg (((i3 * (40 : Int32)) + i4)).toNatClampNeg (i5).toNatClampNeg)) _ _ _ _ _ hM (Or.inr (Or.inr (Or.inr (Or.inl ⟨rfl, rfl, rfl⟩)))) (X.d (k := 16) rfl) Y

def M_X5_read (n : Nat) (S0 : RW) (S1 : IA) (i1 : Int32) (i2 : Int32) (i3 : Int32) : Option (IA) :=
  (if ((¬ ((i1 * (40 : Int32)) + i2) < 0 ∧ ¬ (0 : Int32) < 0 ∧ ¬ i3 < 0) ∧ (((i1 * (40 : Int32)) + i2)).toNatClampNeg + (i3).toNatClampNeg ≤ 320 ∧ ((0 : Int32)).toNatClampNeg + (i3).toNatClampNeg ≤ n) then (some (va_cpy (rw_items S0) S1 (((i1 * (40 : Int32)) + i2)).toNatClampNeg ((0 : Int32)).toNatClampNeg (i3).toNatClampNeg)) else none)
def q_X5_read : Room := { frames := 1, cells := 0, slots := 0, locals := 60 }
set_option maxHeartbeats 4000000 in
set_option maxRecDepth 100000 in
theorem c_X5_read (l : Launch) (G : gT) (h a4 h_lanes h_sizes h_items n : Nat) (S0_lanes : Nat → Int32) (S0_sizes : Nat → Int32) (S0_items : Nat → Int32) (S1 : Nat → Int32) (i1 : Int32) (i2 : Int32) (i3 : Int32) : CT l G yX5_read cX5_read 5 none q_X5_read [.ref h, .int i1, .int i2, .int i3, .ref a4] (wRW G h h_lanes h_sizes h_items S0_lanes S0_sizes S0_items ++ wIA G a4 n S1) (M_X5_read n (S0_lanes, S0_sizes, S0_items) S1 i1 i2 i3) (fun u => none) (fun u => wRW G h h_lanes h_sizes h_items S0_lanes S0_sizes S0_items ++ wIA G a4 n u) := by
  refine CT.of (P := PX5_read) (by decide) dPX5_read (Nat.le_of_ble_eq_true rfl) ?_
  intro p e s m args below meth c A Q ls hne X RT Y hl
  have hl : lv_has ls 5 [(0, .ref h), (1, .int i1), (2, .int i2), (3, .int i3), (4, .ref a4)] := hl
  generalize hM : M_X5_read n (S0_lanes, S0_sizes, S0_items) S1 i1 i2 i3 = MM at hne RT
  unfold M_X5_read at hM
  refine r_aload_n (pc' := 1) X hl 0 rfl rfl 0 rfl rfl ?_
  refine r_get (pc' := 4) (v := .ref h_items) X Y 1 rfl rfl fRX5_18 0 rfl rfl ?_
  refine r_iload_n (pc' := 5) X hl 1 rfl rfl 2 rfl rfl ?_
  refine r_bipush (pc' := 7) X (40 : Int32) 3 rfl rfl rfl ?_
  refine r_imul (pc' := 8) X 4 rfl rfl ?_
  refine r_iload_n (pc' := 9) X hl 2 rfl rfl 5 rfl rfl ?_
  refine r_iadd (pc' := 10) X 6 rfl rfl ?_
  refine r_aload (pc' := 12) X hl 4 rfl 7 rfl rfl ?_
  refine r_iconst (pc' := 13) X (0 : Int32) 8 rfl rfl rfl ?_
  refine r_iload_n (pc' := 14) X hl 3 rfl rfl 9 rfl rfl ?_
  obtain ⟨g1, hM⟩ := mG hM hne
  refine r_copyi (pc' := 17) (ws' := wRW G h h_lanes h_sizes h_items S0_lanes S0_sizes S0_items ++ wIA G a4 n (va_cpy S0_items S1 (((i1 * (40 : Int32)) + i2)).toNatClampNeg ((0 : Int32)).toNatClampNeg (i3).toNatClampNeg)) X Y 10 rfl rfl ⟨mw280, mw11, mw12, mw13⟩ 3 4 rfl rfl hl.1 g1 ⟨Nat.le_of_ble_eq_true rfl, Nat.le_of_ble_eq_true rfl⟩ rfl (fun H locs Y => ?_)
  exact RT (va_cpy S0_items S1 (((i1 * (40 : Int32)) + i2)).toNatClampNeg ((0 : Int32)).toNatClampNeg (i3).toNatClampNeg) _ _ _ _ _ hM (Or.inr (Or.inr (Or.inr (Or.inl ⟨rfl, rfl, rfl⟩)))) (X.d (k := 11) rfl) Y

def M_X6_append (S0 : TP) (S1 : IA) (i1 : Int32) : Option (Int32 × TP × IA) :=
  (if S0 < (90 : Int32) then (if inb S0 90 = true then (some ((S0 + (1 : Int32)), (S0 + (1 : Int32)), (upd S1 (S0).toNatClampNeg i1))) else none) else (some ((-1000003 : Int32), S0, S1)))
def q_X6_append : Room := { frames := 1, cells := 0, slots := 0, locals := 60 }
set_option maxHeartbeats 4000000 in
set_option maxRecDepth 100000 in
theorem c_X6_append (l : Launch) (G : gT) (h h_bytes : Nat) (S0 : Int32) (S1 : Nat → Int32) (i1 : Int32) : CT l G yX6_append cX6_append 2 (some .int) q_X6_append [.ref h, .int i1] (wTP G h h_bytes S0 ++ wIA G h_bytes 90 S1) (M_X6_append S0 S1 i1) (fun u => some (.int u.1)) (fun u => wTP G h h_bytes u.2.1 ++ wIA G h_bytes 90 u.2.2) := by
  refine CT.of (P := PX6_append) (by decide) dPX6_append (Nat.le_of_ble_eq_true rfl) ?_
  intro p e s m args below meth c A Q ls hne X RT Y hl
  have hl : lv_has ls 2 [(0, .ref h), (1, .int i1)] := hl
  generalize hM : M_X6_append S0 S1 i1 = MM at hne RT
  unfold M_X6_append at hM
  refine r_aload_n (pc' := 1) X hl 0 rfl rfl 0 rfl rfl ?_
  refine r_get (pc' := 4) (v := .int S0) X Y 1 rfl rfl fRX6_15 0 rfl rfl ?_
  refine r_bipush (pc' := 6) X (90 : Int32) 2 rfl rfl rfl ?_
  refine r_icmp_lt (pc' := 9) X 12 3 rfl rfl (by decide) (fun c1 => ?_) (fun c1 => ?_)
  · replace hM := mI hM c1
    refine r_aload_n (pc' := 13) X hl 0 rfl rfl 6 rfl rfl ?_
    refine r_get (pc' := 16) (v := .ref h_bytes) X Y 7 rfl rfl fRX6_11 0 rfl rfl ?_
    refine r_aload_n (pc' := 17) X hl 0 rfl rfl 8 rfl rfl ?_
    refine r_get (pc' := 20) (v := .int S0) X Y 9 rfl rfl fRX6_15 0 rfl rfl ?_
    refine r_iload_n (pc' := 21) X hl 1 rfl rfl 10 rfl rfl ?_
    obtain ⟨g2, hM⟩ := mG hM hne
    refine r_iast (pc' := 22) (ws' := wTP G h h_bytes S0 ++ wIA G h_bytes 90 (upd S1 (S0).toNatClampNeg i1)) X Y 11 rfl rfl 1 rfl (vin g2) rfl (fun H locs Y => ?_)
    refine r_aload_n (pc' := 23) X hl 0 rfl rfl 12 rfl rfl ?_
    refine r_dup (pc' := 24) X 13 rfl rfl rfl ?_
    refine r_get (pc' := 27) (v := .int S0) X Y 14 rfl rfl fRX6_15 0 rfl rfl ?_
    refine r_iconst (pc' := 28) X (1 : Int32) 15 rfl rfl rfl ?_
    refine r_iadd (pc' := 29) X 16 rfl rfl ?_
    refine r_put (pc' := 32) (ws' := wTP G h h_bytes (S0 + (1 : Int32)) ++ wIA G h_bytes 90 (upd S1 (S0).toNatClampNeg i1)) X Y 17 rfl rfl fRX6_15 0 rfl rfl rfl (Nat.le_of_ble_eq_true rfl) rfl (fun H locs Y => ?_)
    refine r_aload_n (pc' := 33) X hl 0 rfl rfl 18 rfl rfl ?_
    refine r_get (pc' := 36) (v := .int (S0 + (1 : Int32))) X Y 19 rfl rfl fRX6_15 0 rfl rfl ?_
    exact RT ((S0 + (1 : Int32)), (S0 + (1 : Int32)), (upd S1 (S0).toNatClampNeg i1)) _ _ _ _ _ hM (Or.inl ⟨rfl, rfl, _, rfl⟩) (X.d (k := 20) rfl) Y
  · replace hM := mE hM c1
    refine r_ldc (pc' := 11) X mw287 4 rfl rfl ?_
    exact RT ((-1000003 : Int32), S0, S1) _ _ _ _ _ hM (Or.inl ⟨rfl, rfl, _, rfl⟩) (X.d (k := 5) rfl) Y

def M_X6_clear (S0 : TP) : Option (TP) :=
  (some (0 : Int32))
def q_X6_clear : Room := { frames := 1, cells := 0, slots := 0, locals := 60 }
set_option maxHeartbeats 4000000 in
set_option maxRecDepth 100000 in
theorem c_X6_clear (l : Launch) (G : gT) (h h_bytes : Nat) (S0 : Int32) : CT l G yX6_clear cX6_clear 1 none q_X6_clear [.ref h] (wTP G h h_bytes S0) (M_X6_clear S0) (fun u => none) (fun u => wTP G h h_bytes u) := by
  refine CT.of (P := PX6_clear) (by decide) dPX6_clear (Nat.le_of_ble_eq_true rfl) ?_
  intro p e s m args below meth c A Q ls hne X RT Y hl
  have hl : lv_has ls 1 [(0, .ref h)] := hl
  generalize hM : M_X6_clear S0 = MM at hne RT
  unfold M_X6_clear at hM
  refine r_aload_n (pc' := 1) X hl 0 rfl rfl 0 rfl rfl ?_
  refine r_iconst (pc' := 2) X (0 : Int32) 1 rfl rfl rfl ?_
  refine r_put (pc' := 5) (ws' := wTP G h h_bytes (0 : Int32)) X Y 2 rfl rfl fRX6_15 0 rfl rfl rfl (Nat.le_of_ble_eq_true rfl) rfl (fun H locs Y => ?_)
  exact RT (0 : Int32) _ _ _ _ _ hM (Or.inr (Or.inr (Or.inr (Or.inl ⟨rfl, rfl, rfl⟩)))) (X.d (k := 3) rfl) Y
