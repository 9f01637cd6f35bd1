def PL_head : List (Nat × Instr × Nat) := [(0, .new 7, 3), (3, .dup, 1), (4, .invokespecial 9, 3), (7, .astore_n 1, 1), (8, .new 10, 3), (11, .dup, 1), (12, .invokespecial 12, 3), (15, .astore_n 2, 1), (16, .iconst 0, 1), (17, .istore_n 3, 1), (18, .iload_n 3, 1), (19, .aload_n 0, 1), (20, .arraylength, 1), (21, .bipush 6, 2), (23, .isub, 1), (24, .if_icmp .gt 1233, 3), (27, .aload_n 0, 1), (28, .iload_n 3, 1), (29, .iaload, 1), (30, .bipush 63, 2), (32, .iand, 1), (33, .tableswitch 1218 0 35 #[159, 202, 245, 308, 331, 354, 367, 380, 393, 416, 449, 462, 495, 528, 561, 584, 607, 640, 663, 686, 719, 762, 785, 808, 841, 884, 937, 981, 1024, 1047, 1070, 1093, 1126, 1159, 1182, 1205], 159), (1251, .iinc 3 6, 3), (1254, .goto (-1236), 3), (1257, .iconst 1, 1), (1258, .ireturn, 1)]
set_option maxRecDepth 20000 in
theorem dPL_head : ∀ q ∈ PL_head, decode code q.1 = .ok q.2 := by decide +kernel
theorem len6 {k n : Nat} (hk : k ≤ n) (hn : n ≤ 384) : (nI n - 6 : Int32) < nI k ↔ n < k + 6 := by
  have e6 : (6 : Int32).toInt = 6 := by decide
  have e1 : (nI n - 6 : Int32).toInt = (n : Int) - 6 := by
    rw [Int32.toInt_sub, nI_toInt (by omega), e6]
    exact fb_bmod (by omega) (by omega)
  rw [Int32.lt_iff_toInt_lt, e1, nI_toInt (by omega)]
  omega
theorem lS_of {b Ls : Nat} {xs : Nat → Int32} {s : State} {A : Nat → Prop} {k : Nat} (hb : va_X b Ls xs s s.heap ∧ b < s.heap.size ∧ ¬ A b) (hk : k + 6 ≤ Ls) (hL : Ls ≤ 384) : lS b Ls xs (nI k) (fun j => xs (k + j)) s A := by
  refine ⟨hb, fun j hj => ?_⟩
  have e : nI k + Int32.ofNat j = nI (k + j) := nI_add k j
  rw [e, nI_clamp (by omega)]
  exact ⟨nI_in (by omega) (by omega), rfl⟩
set_option maxHeartbeats 4000000 in
set_option maxRecDepth 100000 in
theorem law_op {l : Launch} {G : gT} {p : Program} {e : Env} {s : State} {m : MethodId} {args : Array Value} {below : List Frame} {meth : Method} {c : Code} {H : Heap} {locs : List Loc} {cells slots : Nat} {Q : State → Prop} {A : Nat → Prop} {ls : Array Slot} {b Ls : Nat} {xs : Nat → Int32} {i : Int32} {f : Nat → Int32} {h hm : Nat} {q qm : Nat → Nat} {tf : TF} {rw_ : RW} {tp : TP} {bs : IA} {L D i0 i1 : BD} {ac : AC} {fs : FS} {told : IA} {M : BD} {as : AS} {S : MS} (X : rX G PL_head code 4 RL x ret A p s m args meth c) (Y : rY G A s (LW G h q hm qm tf rw_ tp bs L D i0 i1 ac fs told M as S) H locs) (hR : Rel tf rw_ tp bs L i0 i1 ac as S) (hl : lv_has ls 4 [(3, .int i), (2, .ref hm), (1, .ref h), (0, .ref b)]) (hs : lS b Ls xs i f s A) (hcs : cells + 1 ≤ 600000 ∧ slots + 6 ≤ 7302250) (KK : lK p l e s m args below meth c G A h q hm qm ls Q cells slots) (o : Int32) : W p l e room_1 s m args below meth c H locs cells slots Q (F0 m 33 ls [.int o]) := by
  by_cases c0 : o = 0
  · exact r_tabIn X 192 21 rfl 0 c0 (by decide) rfl (by decide) (lc_row (X.chP dPL_row) Y hR hl hs hcs KK)
  by_cases c1 : o = 1
  · exact r_tabIn X 235 21 rfl 1 c1 (by decide) rfl (by decide) (lc_set (X.chP dPL_set) Y hR hl hs hcs KK)
  by_cases c2 : o = 2
  · exact r_tabIn X 278 21 rfl 2 c2 (by decide) rfl (by decide) (lc_copy (X.chP dPL_copy) Y hR hl hs hcs KK)
  by_cases c3 : o = 3
  · exact r_tabIn X 341 21 rfl 3 c3 (by decide) rfl (by decide) (lc_drop (X.chP dPL_drop) Y hR hl hs hcs KK)
  by_cases c4 : o = 4
  · exact r_tabIn X 364 21 rfl 4 c4 (by decide) rfl (by decide) (lc_feed (X.chP dPL_feed) Y hR hl hs hcs KK)
  by_cases c5 : o = 5
  · exact r_tabIn X 387 21 rfl 5 c5 (by decide) rfl (by decide) (lc_table (X.chP dPL_table) Y hR hl hs hcs KK)
  by_cases c6 : o = 6
  · exact r_tabIn X 400 21 rfl 6 c6 (by decide) rfl (by decide) (lc_fault (X.chP dPL_fault) Y hR hl hs hcs KK)
  by_cases c7 : o = 7
  · exact r_tabIn X 413 21 rfl 7 c7 (by decide) rfl (by decide) (lc_undo (X.chP dPL_undo) Y hR hl hs hcs KK)
  by_cases c8 : o = 8
  · exact r_tabIn X 426 21 rfl 8 c8 (by decide) rfl (by decide) (lc_play (X.chP dPL_play) Y hR hl hs hcs KK)
  by_cases c9 : o = 9
  · exact r_tabIn X 449 21 rfl 9 c9 (by decide) rfl (by decide) (lc_move (X.chP dPL_move) Y hR hl hs hcs KK)
  by_cases c10 : o = 10
  · exact r_tabIn X 482 21 rfl 10 c10 (by decide) rfl (by decide) (lc_twice (X.chP dPL_twice) Y hR hl hs hcs KK)
  by_cases c11 : o = 11
  · exact r_tabIn X 495 21 rfl 11 c11 (by decide) rfl (by decide) (lc_lay (X.chP dPL_lay) Y hR hl hs hcs KK)
  by_cases c12 : o = 12
  · exact r_tabIn X 528 21 rfl 12 c12 (by decide) rfl (by decide) (lc_man (X.chP dPL_man) Y hR hl hs hcs KK)
  by_cases c13 : o = 13
  · exact r_tabIn X 561 21 rfl 13 c13 (by decide) rfl (by decide) (lc_on (X.chP dPL_on) Y hR hl hs hcs KK)
  by_cases c14 : o = 14
  · exact r_tabIn X 594 21 rfl 14 c14 (by decide) rfl (by decide) (lc_stand (X.chP dPL_stand) Y hR hl hs hcs KK)
  by_cases c15 : o = 15
  · exact r_tabIn X 617 21 rfl 15 c15 (by decide) rfl (by decide) (lc_may (X.chP dPL_may) Y hR hl hs hcs KK)
  by_cases c16 : o = 16
  · exact r_tabIn X 640 21 rfl 16 c16 (by decide) rfl (by decide) (lc_whither (X.chP dPL_whither) Y hR hl hs hcs KK)
  by_cases c17 : o = 17
  · exact r_tabIn X 673 21 rfl 17 c17 (by decide) rfl (by decide) (lc_shots (X.chP dPL_shots) Y hR hl hs hcs KK)
  by_cases c18 : o = 18
  · exact r_tabIn X 696 21 rfl 18 c18 (by decide) rfl (by decide) (lc_enter (X.chP dPL_enter) Y hR hl hs hcs KK)
  by_cases c19 : o = 19
  · exact r_tabIn X 719 21 rfl 19 c19 (by decide) rfl (by decide) (lc_pips (X.chP dPL_pips) Y hR hl hs hcs KK)
  by_cases c20 : o = 20
  · exact r_tabIn X 752 21 rfl 20 c20 (by decide) rfl (by decide) (lc_best (X.chP dPL_best) Y hR hl hs hcs KK)
  by_cases c21 : o = 21
  · exact r_tabIn X 795 21 rfl 21 c21 (by decide) rfl (by decide) (lc_race (X.chP dPL_race) Y hR hl hs hcs KK)
  by_cases c22 : o = 22
  · exact r_tabIn X 818 21 rfl 22 c22 (by decide) rfl (by decide) (lc_safe (X.chP dPL_safe) Y hR hl hs hcs KK)
  by_cases c23 : o = 23
  · exact r_tabIn X 841 21 rfl 23 c23 (by decide) rfl (by decide) (lc_cast (X.chP dPL_cast) Y hR hl hs hcs KK)
  by_cases c24 : o = 24
  · exact r_tabIn X 874 21 rfl 24 c24 (by decide) rfl (by decide) (lc_played (X.chP dPL_played) Y hR hl hs hcs KK)
  by_cases c25 : o = 25
  · exact r_tabIn X 917 21 rfl 25 c25 (by decide) rfl (by decide) (lc_kinds (X.chP dPL_kinds) Y hR hl hs hcs KK)
  by_cases c26 : o = 26
  · exact r_tabIn X 970 21 rfl 26 c26 (by decide) rfl (by decide) (lc_chance (X.chP dPL_chance) Y hR hl hs hcs KK)
  by_cases c27 : o = 27
  · exact r_tabIn X 1014 21 rfl 27 c27 (by decide) rfl (by decide) (lc_drawn (X.chP dPL_drawn) Y hR hl hs hcs KK)
  by_cases c28 : o = 28
  · exact r_tabIn X 1057 21 rfl 28 c28 (by decide) rfl (by decide) (lc_image (X.chP dPL_image) Y hR hl hs hcs KK)
  by_cases c29 : o = 29
  · exact r_tabIn X 1080 21 rfl 29 c29 (by decide) rfl (by decide) (lc_restore (X.chP dPL_restore) Y hR hl hs hcs KK)
  by_cases c30 : o = 30
  · exact r_tabIn X 1103 21 rfl 30 c30 (by decide) rfl (by decide) (lc_kind (X.chP dPL_kind) Y hR hl hs hcs KK)
  by_cases c31 : o = 31
  · exact r_tabIn X 1126 21 rfl 31 c31 (by decide) rfl (by decide) (lc_as (X.chP dPL_as) Y hR hl hs hcs KK)
  by_cases c32 : o = 32
  · exact r_tabIn X 1159 21 rfl 32 c32 (by decide) rfl (by decide) (lc_ask (X.chP dPL_ask) Y hR hl hs hcs KK)
  by_cases c33 : o = 33
  · exact r_tabIn X 1192 21 rfl 33 c33 (by decide) rfl (by decide) (lc_trace (X.chP dPL_trace) Y hR hl hs hcs KK)
  by_cases c34 : o = 34
  · exact r_tabIn X 1215 21 rfl 34 c34 (by decide) rfl (by decide) (lc_count (X.chP dPL_count) Y hR hl hs hcs KK)
  by_cases c35 : o = 35
  · exact r_tabIn X 1238 21 rfl 35 c35 (by decide) rfl (by decide) (lc_status (X.chP dPL_status) Y hR hl hs hcs KK)
  have hk0 : ∀ k : Nat, k < 36 → ¬ o = Int32.ofNat (0 + k) := by
    intro k hk z
    rw [Nat.zero_add] at z
    match k, hk, z with
    | 0, _, z => exact c0 z
    | 1, _, z => exact c1 z
    | 2, _, z => exact c2 z
    | 3, _, z => exact c3 z
    | 4, _, z => exact c4 z
    | 5, _, z => exact c5 z
    | 6, _, z => exact c6 z
    | 7, _, z => exact c7 z
    | 8, _, z => exact c8 z
    | 9, _, z => exact c9 z
    | 10, _, z => exact c10 z
    | 11, _, z => exact c11 z
    | 12, _, z => exact c12 z
    | 13, _, z => exact c13 z
    | 14, _, z => exact c14 z
    | 15, _, z => exact c15 z
    | 16, _, z => exact c16 z
    | 17, _, z => exact c17 z
    | 18, _, z => exact c18 z
    | 19, _, z => exact c19 z
    | 20, _, z => exact c20 z
    | 21, _, z => exact c21 z
    | 22, _, z => exact c22 z
    | 23, _, z => exact c23 z
    | 24, _, z => exact c24 z
    | 25, _, z => exact c25 z
    | 26, _, z => exact c26 z
    | 27, _, z => exact c27 z
    | 28, _, z => exact c28 z
    | 29, _, z => exact c29 z
    | 30, _, z => exact c30 z
    | 31, _, z => exact c31 z
    | 32, _, z => exact c32 z
    | 33, _, z => exact c33 z
    | 34, _, z => exact c34 z
    | 35, _, z => exact c35 z
    | k + 36, hk, _ => omega
  refine r_tabOut X 1251 21 rfl ?_ (by decide) (KK tf rw_ tp bs L D i0 i1 ac fs told M as S H locs cells slots hR Y (Nat.le_succ _) (Nat.le_add_right _ 6))
  rcases tsw (x := o) 0 36 hk0 (by decide) with z | z
  · exact Or.inl z
  · exact Or.inr (by omega)
/-- THE LAW'S LOOP -/
theorem law_loop {l : Launch} {G : gT} {p : Program} {e : Env} {s : State} {m : MethodId} {args : Array Value} {below : List Frame} {meth : Method} {c : Code} {Q : State → Prop} {A : Nat → Prop} {b Ls : Nat} {xs : Nat → Int32} {h hm : Nat} {q qm : Nat → Nat} (X : rX G PL_head code 4 RL x ret A p s m args meth c) (hb : va_X b Ls xs s s.heap ∧ b < s.heap.size ∧ ¬ A b) (hL : Ls ≤ 384)
    (fin : ∀ (ws : va_W) (H : Heap) (locs : List Loc) (cells slots : Nat) (ls : Array Slot), rY G A s ws H locs → cells ≤ 600000 → slots ≤ 7302250 → W p l e room_1 s m args below meth c H locs cells slots Q (F0 m 1257 ls [])) :
    ∀ (n k : Nat), 6 * k ≤ Ls → Ls < 6 * k + 6 + 6 * n → ∀ (tf : TF) (rw_ : RW) (tp : TP) (bs : IA) (L D i0 i1 : BD) (ac : AC) (fs : FS) (told : IA) (M : BD) (as : AS) (S : MS) (H : Heap) (locs : List Loc) (cells slots : Nat) (ls : Array Slot), Rel tf rw_ tp bs L i0 i1 ac as S → rY G A s (LW G h q hm qm tf rw_ tp bs L D i0 i1 ac fs told M as S) H locs → lv_has ls 4 [(3, .int (nI (6 * k))), (2, .ref hm), (1, .ref h), (0, .ref b)] → cells + n ≤ 600000 → slots + 6 * n ≤ 7302250 → W p l e room_1 s m args below meth c H locs cells slots Q (F0 m 18 ls []) := by
  intro n
  induction n with
  | zero =>
    intro k hk hn tf rw_ tp bs L D i0 i1 ac fs told M as S H locs cells slots ls hR Y hl hc1 hc2
    refine r_iload_n (pc' := 19) X hl 0 rfl rfl 10 rfl rfl ?_
    refine r_aload_n (pc' := 20) X hl 3 rfl rfl 11 rfl rfl ?_
    refine va_slen X.1.1 X.1.2.1 hb.1 hb.2.1 hb.2.2 Y.2.2 (X.d (k := 12) rfl) ?_
    refine r_bipush (pc' := 23) X (6 : Int32) 13 rfl rfl rfl ?_
    refine r_isub (pc' := 24) X 14 rfl rfl ?_
    refine r_icmp_gt (pc' := 27) X 1257 15 rfl rfl (by decide) (fun _ => ?_) (fun z => absurd ((len6 hk hL).mpr (by omega)) z)
    exact fin _ H locs cells slots ls Y (by omega) (by omega)
  | succ n ih =>
    intro k hk hn tf rw_ tp bs L D i0 i1 ac fs told M as S H locs cells slots ls hR Y hl hc1 hc2
    refine r_iload_n (pc' := 19) X hl 0 rfl rfl 10 rfl rfl ?_
    refine r_aload_n (pc' := 20) X hl 3 rfl rfl 11 rfl rfl ?_
    refine va_slen X.1.1 X.1.2.1 hb.1 hb.2.1 hb.2.2 Y.2.2 (X.d (k := 12) rfl) ?_
    refine r_bipush (pc' := 23) X (6 : Int32) 13 rfl rfl rfl ?_
    refine r_isub (pc' := 24) X 14 rfl rfl ?_
    refine r_icmp_gt (pc' := 27) X 1257 15 rfl rfl (by decide) (fun _ => fin _ H locs cells slots ls Y (by omega) (by omega)) (fun z => ?_)
    have hk6 : 6 * k + 6 ≤ Ls := Nat.not_lt.mp (fun z2 => z ((len6 hk hL).mpr z2))
    have hs := lS_of hb hk6 hL
    refine r_aload_n (pc' := 28) X hl 3 rfl rfl 16 rfl rfl ?_
    refine r_iload_n (pc' := 29) X hl 0 rfl rfl 17 rfl rfl ?_
    refine va_sld X.1.1 X.1.2.1 hb.1 hb.2.1 hb.2.2 Y.2.2 (nI_in (by omega) (by omega)) (X.d (k := 18) rfl) ?_
    refine r_bipush (pc' := 32) X (63 : Int32) 19 rfl rfl rfl ?_
    refine r_iand (pc' := 33) X 20 rfl rfl ?_
    refine law_op X Y hR hl hs ⟨by omega, by omega⟩ ?_ _
    intro tf rw_ tp bs L D i0 i1 ac fs told M as S H locs cells' slots' hR Y hc3 hc4
    refine r_iinc (pc' := 1254) (L' := [(3, .int (nI (6 * (k + 1)))), (2, .ref hm), (1, .ref h), (0, .ref b)]) X (nI (6 * (k + 1))) hl 0 rfl (show nI (6 * k) + Int32.ofInt 6 = nI (6 * (k + 1)) from nI_add (6 * k) 6) 22 rfl rfl (by decide) rfl (fun ls hl => ?_)
    refine r_goto X 18 23 rfl (by decide) ?_
    exact ih (k + 1) (by omega) (by omega) tf rw_ tp bs L D i0 i1 ac fs told M as S H locs cells' slots' ls hR Y hl (by omega) (by omega)
