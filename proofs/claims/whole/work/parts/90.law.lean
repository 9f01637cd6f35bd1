/-! ===== the law: its worlds, its rows ===== -/
abbrev u0_ (G : gT) (h : Nat) (q : Nat → Nat) (hm : Nat) (qm : Nat → Nat) (v : TF) : va_W := wTF G h (q 0) (q 1) (q 2) (q 3) (q 4) (q 5) (q 6) (q 7) (tf_latestFault v) (tf_latestFinding v)
abbrev u1_ (G : gT) (h : Nat) (q : Nat → Nat) (hm : Nat) (qm : Nat → Nat) (v : RW) : va_W := wRW G (q 0) (q 8) (q 9) (q 10) (rw_lanes v) (rw_sizes v) (rw_items v)
abbrev u2_ (G : gT) (h : Nat) (q : Nat → Nat) (hm : Nat) (qm : Nat → Nat) (v : TP) : va_W := wTP G (q 1) (q 11) v
abbrev u3_ (G : gT) (h : Nat) (q : Nat → Nat) (hm : Nat) (qm : Nat → Nat) (v : IA) : va_W := wIA G (q 11) 90 v
abbrev u4_ (G : gT) (h : Nat) (q : Nat → Nat) (hm : Nat) (qm : Nat → Nat) (v : BD) : va_W := wBD G (q 2) (q 12) (q 13) (q 14) (q 15) (q 16) (q 17) (bd_points v) (bd_home v) (bd_men v) (bd_turn v) (bd_thrower v) (bd_cube v) (bd_owner v) (bd_firms v) (bd_kindsTold v) (bd_places v) (bd_crowds v) (bd_pipsLeft v) (bd_notHome v)
abbrev u5_ (G : gT) (h : Nat) (q : Nat → Nat) (hm : Nat) (qm : Nat → Nat) (v : BD) : va_W := wBD G (q 3) (q 18) (q 19) (q 20) (q 21) (q 22) (q 23) (bd_points v) (bd_home v) (bd_men v) (bd_turn v) (bd_thrower v) (bd_cube v) (bd_owner v) (bd_firms v) (bd_kindsTold v) (bd_places v) (bd_crowds v) (bd_pipsLeft v) (bd_notHome v)
abbrev u6_ (G : gT) (h : Nat) (q : Nat → Nat) (hm : Nat) (qm : Nat → Nat) : va_W := wIM G (q 4) (q 24) (q 25)
abbrev u7_ (G : gT) (h : Nat) (q : Nat → Nat) (hm : Nat) (qm : Nat → Nat) (v : BD) : va_W := wBD G (q 24) (q 26) (q 27) (q 28) (q 29) (q 30) (q 31) (bd_points v) (bd_home v) (bd_men v) (bd_turn v) (bd_thrower v) (bd_cube v) (bd_owner v) (bd_firms v) (bd_kindsTold v) (bd_places v) (bd_crowds v) (bd_pipsLeft v) (bd_notHome v)
abbrev u8_ (G : gT) (h : Nat) (q : Nat → Nat) (hm : Nat) (qm : Nat → Nat) (v : BD) : va_W := wBD G (q 25) (q 32) (q 33) (q 34) (q 35) (q 36) (q 37) (bd_points v) (bd_home v) (bd_men v) (bd_turn v) (bd_thrower v) (bd_cube v) (bd_owner v) (bd_firms v) (bd_kindsTold v) (bd_places v) (bd_crowds v) (bd_pipsLeft v) (bd_notHome v)
abbrev u9_ (G : gT) (h : Nat) (q : Nat → Nat) (hm : Nat) (qm : Nat → Nat) (v : AC) : va_W := wAC G (q 5) (q 38) (ac_next v) (ac_kept v) (ac_before v)
abbrev u10_ (G : gT) (h : Nat) (q : Nat → Nat) (hm : Nat) (qm : Nat → Nat) (v : FS) : va_W := wFS G (q 6) (q 39) (q 40) v
abbrev u11_ (G : gT) (h : Nat) (q : Nat → Nat) (hm : Nat) (qm : Nat → Nat) (v : IA) : va_W := wIA G (q 40) 8 v
abbrev u12_ (G : gT) (h : Nat) (q : Nat → Nat) (hm : Nat) (qm : Nat → Nat) (v : BD) : va_W := wBD G (q 39) (q 41) (q 42) (q 43) (q 44) (q 45) (q 46) (bd_points v) (bd_home v) (bd_men v) (bd_turn v) (bd_thrower v) (bd_cube v) (bd_owner v) (bd_firms v) (bd_kindsTold v) (bd_places v) (bd_crowds v) (bd_pipsLeft v) (bd_notHome v)
abbrev u13_ (G : gT) (h : Nat) (q : Nat → Nat) (hm : Nat) (qm : Nat → Nat) (v : AS) : va_W := wAS G (q 7) (q 47) (as_left v) (as_numbers v)
abbrev u14_ (G : gT) (h : Nat) (q : Nat → Nat) (hm : Nat) (qm : Nat → Nat) (v : MS) : va_W := wMS G hm (qm 0) (qm 1) (qm 2) (qm 3) (qm 4) (qm 5) (qm 6) (qm 7) (qm 8) (qm 9) (qm 10) (qm 11) (qm 12) (qm 13) (qm 14) (ms_status v) (ms_points v) (ms_home v) (ms_men v) (ms_hasTable v) (ms_acts v) (ms_imaged v) (ms_length v) (ms_fault v) (ms_traced v) (ms_spot v) (ms_begins v) (ms_token v) (ms_number v) (ms_readPoints v) (ms_readHome v) (ms_readMen v) (ms_otherOne v) (ms_otherKind v) (ms_items v) (ms_lanes v) (ms_sizes v) (ms_firms v) (ms_kinds v) (ms_now v) (ms_before v) (ms_images v) (ms_tape v) (ms_trace v) (ms_readFirms v) (ms_readKinds v) (ms_readAt v) (ms_rows v) (ms_bests v)
abbrev LW (G : gT) (h : Nat) (q : Nat → Nat) (hm : Nat) (qm : Nat → Nat) (tf : TF) (rw_ : RW) (tp : TP) (bs : IA) (L D i0 i1 : BD) (ac : AC) (fs : FS) (told : IA) (M : BD) (as : AS) (S : MS) : va_W := u0_ G h q hm qm tf ++ (u1_ G h q hm qm rw_ ++ (u2_ G h q hm qm tp ++ (u3_ G h q hm qm bs ++ (u4_ G h q hm qm L ++ (u5_ G h q hm qm D ++ (u6_ G h q hm qm ++ (u7_ G h q hm qm i0 ++ (u8_ G h q hm qm i1 ++ (u9_ G h q hm qm ac ++ (u10_ G h q hm qm fs ++ (u11_ G h q hm qm told ++ (u12_ G h q hm qm M ++ (u13_ G h q hm qm as ++ (u14_ G h q hm qm S))))))))))))))
theorem rX.chP {G : gT} {p : Program} {s : State} {m : MethodId} {args : Array Value} {meth : Method} {c : Code} {cc : ByteArray} {nL : Nat} {own : String} {y : MethodName} {ret : Option FieldType} {P P' : List (Nat × Instr × Nat)} {A : Nat → Prop} (X : rX G P cc nL own y ret A p s m args meth c) (h : ∀ q ∈ P', decode cc q.1 = .ok q.2) : rX G P' cc nL own y ret A p s m args meth c := ⟨X.1, h, X.2.2⟩
theorem lcmp_self (v : Int64) : lg_cmp v v = 0 := by simp [lg_cmp]
/-- the script, six ints of it from i on -/
def lS (b Ls : Nat) (xs : Nat → Int32) (i : Int32) (f : Nat → Int32) (s : State) (A : Nat → Prop) : Prop := (va_X b Ls xs s s.heap ∧ b < s.heap.size ∧ ¬ A b) ∧ ∀ j : Nat, j < 6 → vp_in (i + Int32.ofNat j) Ls ∧ xs (i + Int32.ofNat j).toNatClampNeg = f j
theorem r_arg {l : Launch} {G : gT} {p : Program} {e : Env} {R : Room} {s : State} {m : MethodId} {args : Array Value} {below : List Frame} {meth : Method} {c : Code} {H : Heap} {locs : List Loc} {cells slots : Nat} {Q : State → Prop} {cc : ByteArray} {nL : Nat} {own : String} {y : MethodName} {ret : Option FieldType} {P : List (Nat × Instr × Nat)} {A : Nat → Prop} {pc pc' : Nat} {ls : Array Slot} {rest : List Value} {ws : va_W} {L : List (Nat × Value)} (X : rX G P cc nL own y ret A p s m args meth c) (Y : rY G A s ws H locs) {b Ls : Nat} {xs f : Nat → Int32} {i : Int32} (hl : lv_has ls nL L) (hs : lS b Ls xs i f s A) (q0 q3 : Nat) (hq0 : L[q0]? = some (0, .ref b)) (hq3 : L[q3]? = some (3, .int i)) (k : Nat) {j : Int} (J : Nat) (hk : P[k]? = some (pc, .aload_n 0, 1) ∧ P[k + 1]? = some (pc + 1, .iload_n 3, 1) ∧ P[k + 2]? = some (pc + 2, .iconst j, 1) ∧ P[k + 3]? = some (pc + 3, .iadd, 1) ∧ P[k + 4]? = some (pc + 4, .iaload, 1)) (hJ : Int32.ofInt j = Int32.ofNat J) (hJ6 : J < 6) (hp : pc + 5 = pc') (kk : W p l e R s m args below meth c H locs cells slots Q (F0 m pc' ls (.int (f J) :: rest))) : W p l e R s m args below meth c H locs cells slots Q (F0 m pc ls rest) := by
  subst hp
  refine r_aload_n (pc' := pc + 1) X hl q0 hq0 rfl k hk.1 rfl ?_
  refine r_iload_n (pc' := pc + 2) X hl q3 hq3 rfl (k + 1) hk.2.1 rfl ?_
  refine r_iconst (pc' := pc + 3) X (Int32.ofNat J) (k + 2) hk.2.2.1 rfl hJ ?_
  refine r_iadd (pc' := pc + 4) X (k + 3) hk.2.2.2.1 rfl ?_
  refine va_sld X.1.1 X.1.2.1 hs.1.1 hs.1.2.1 hs.1.2.2 Y.2.2 (hs.2 J hJ6).1 (X.d hk.2.2.2.2) ?_
  rw [(hs.2 J hJ6).2]
  exact kk
/-- where the cases meet -/
def lK (p : Program) (l : Launch) (e : Env) (s : State) (m : MethodId) (args : Array Value) (below : List Frame) (meth : Method) (c : Code) (G : gT) (A : Nat → Prop) (h : Nat) (q : Nat → Nat) (hm : Nat) (qm : Nat → Nat) (ls : Array Slot) (Q : State → Prop) (cells slots : Nat) : Prop :=
  ∀ (tf : TF) (rw_ : RW) (tp : TP) (bs : IA) (L D i0 i1 : BD) (ac : AC) (fs : FS) (told : IA) (M : BD) (as : AS) (S : MS) (H : Heap) (locs : List Loc) (cells' slots' : Nat), Rel tf rw_ tp bs L i0 i1 ac as S → rY G A s (LW G h q hm qm tf rw_ tp bs L D i0 i1 ac fs told M as S) H locs → cells' ≤ cells + 1 → slots' ≤ slots + 6 → W p l e room_1 s m args below meth c H locs cells' slots' Q (F0 m 1251 ls [])
/-! a world in another order; a call of a part of it, the rest first -/
theorem rY.pm {G : gT} {A : Nat → Prop} {s : State} {ws ws' : va_W} {H : Heap} {locs : List Loc} (Y : rY G A s ws H locs) (h : ws.Perm ws') : rY G A s ws' H locs := by
  obtain ⟨hP, ⟨hD1, hD2⟩, hS⟩ := Y
  have hP' : ∀ q ∈ ws, va_at G.1 vwCl q H := fun q hq => by
    obtain ⟨k, hk⟩ := List.getElem?_of_mem hq
    exact hP k q hk
  have hD' : ∀ q ∈ ws, A q.1 := fun q hq => by
    obtain ⟨k, hk⟩ := List.getElem?_of_mem hq
    exact hD2 k q hk
  have hn : (ws.map Prod.fst).Nodup := by
    refine List.pairwise_iff_getElem.mpr (fun i j hi hj hij he => ?_)
    rw [List.getElem_map, List.getElem_map] at he
    have h1 : i < ws.length := by rw [List.length_map] at hi; exact hi
    have h2 : j < ws.length := by rw [List.length_map] at hj; exact hj
    have := hD1 i j ws[i] ws[j] (List.getElem?_eq_getElem h1) (List.getElem?_eq_getElem h2) he
    omega
  have hn' : (ws'.map Prod.fst).Nodup := ((h.map Prod.fst).nodup_iff).mp hn
  refine ⟨fun k q hk => hP' q (h.mem_iff.mpr (List.mem_of_getElem? hk)), ⟨fun i j p q hi hj he => ?_, fun k q hk => hD' q (h.mem_iff.mpr (List.mem_of_getElem? hk))⟩, hS⟩
  have hn2 := List.pairwise_iff_getElem.mp hn'
  obtain ⟨hil, e1⟩ := List.getElem?_eq_some_iff.mp hi
  obtain ⟨hjl, e2⟩ := List.getElem?_eq_some_iff.mp hj
  rcases Nat.lt_trichotomy i j with h1 | h1 | h1
  · exact absurd (by rw [List.getElem_map, List.getElem_map, e1, e2]; exact he) (hn2 i j (by rw [List.length_map]; exact hil) (by rw [List.length_map]; exact hjl) h1)
  · exact h1
  · exact absurd (by rw [List.getElem_map, List.getElem_map, e1, e2]; exact he.symm) (hn2 j i (by rw [List.length_map]; exact hjl) (by rw [List.length_map]; exact hil) h1)
theorem ix_r (wr wc : va_W) : (List.range wr.length).map (fun i => (wr ++ wc)[i]?) = wr.map some := by
  refine List.ext_getElem (by simp) (fun i h1 h2 => ?_)
  have h3 : i < wr.length := by simpa using h2
  simp [List.getElem?_append_left h3]
theorem ix_c (wr wc : va_W) : ((List.range wc.length).map (fun i => wr.length + i)).map (fun i => (wr ++ wc)[i]?) = wc.map some := by
  refine List.ext_getElem (by simp) (fun i h1 h2 => ?_)
  have h3 : i < wc.length := by simpa using h2
  simp [List.getElem?_append_right, h3]
theorem nd_of : ∀ (is : List Nat), is.Nodup → va_nd is = true
  | [], _ => rfl
  | a :: is, h => by
    have h1 := List.nodup_cons.mp h
    show (decide (a ∉ is) && va_nd is) = true
    rw [nd_of is h1.2, Bool.and_true]
    simp [h1.1]
theorem nd_r (n : Nat) : va_nd (List.range n) = true := nd_of _ List.nodup_range
theorem nd_c (k n : Nat) : va_nd ((List.range n).map (fun i => k + i)) = true := nd_of _ (by
  rw [List.nodup_iff_pairwise_ne, List.pairwise_map]
  exact (List.nodup_range (n := n)).imp (fun h => by omega))
theorem dis_rc (k n : Nat) : ∀ i ∈ List.range k, i ∉ (List.range n).map (fun i => k + i) := by
  intro i hi hc
  simp only [List.mem_map, List.mem_range] at hi hc
  obtain ⟨j, _, h⟩ := hc
  omega
section CALLP
variable {l : Launch} {G : gT} {p : Program} {e : Env} {R : Room} {s : State} {m : MethodId} {args : Array Value} {below : List Frame} {meth : Method} {c : Code} {H : Heap} {locs : List Loc} {cells slots : Nat} {Q : State → Prop} {cc : ByteArray} {nL : Nat} {own : String} {y : MethodName} {ret : Option FieldType} {P : List (Nat × Instr × Nat)} {A : Nat → Prop} {pc pc' : Nat} {ls : Array Slot} {st rest : List Value} {ws : va_W}
theorem run_ofP {S : Type} {wc : va_W} {a : Array Value} {M : Option S} {rv : S → Option Value} {wc' : S → va_W} (wr : va_W) (X : rX G P cc nL own y ret A p s m args meth c) (Y : rY G A s (wr ++ wc) H locs)
    (run : va_Run p l e R s m args below meth c H locs cells slots 0 0 (F0 m pc ls st) rest (gQc G wc H.size M rv wc' a) (va_A wc H.size))
    (kk : ∀ (u : S) (H : Heap) (locs : List Loc), M = some u → rY G A s (wr ++ wc' u) H locs → W p l e R s m args below meth c H locs cells slots Q (F0 m (pc + 3) ls ((rv u).toList ++ rest))) : W p l e R s m args below meth c H locs cells slots Q (F0 m pc ls st) := by
  have hFc := va_free Y.2.1 Y.2.2 X.2.2.2.1 _ (ix_c wr wc)
  intro T hT XT
  obtain ⟨v, st₀, t, T', L, h0, XT', hL, e1, e2, ⟨⟨u, hu, hoc, hP1, hD1⟩, hz, hk1⟩, stp⟩ := run T hT XT
  cases hoc
  rw [h0] at hz hk1
  obtain ⟨hP2, hD2⟩ := va_join Y.1 Y.2.1 _ _ (ix_c wr wc) (ix_r wr wc) (nd_r _) (dis_rc _ _) hk1 (fun q h => hFc q h) hP1 hD1
  have hS2 : va_S A s.heap T'.heap (locs ++ L) := ⟨Nat.le_trans Y.2.2.1 (by rw [e1]; exact hz), fun q h1 h2 => by rw [e1, hk1 q (Nat.lt_of_lt_of_le h1 Y.2.2.1) (fun z => h2 (hFc q z))]; exact Y.2.2.2.1 q h1 h2, fun q hq => by
      rcases List.mem_append.mp hq with h | h
      · exact Y.2.2.2.2 q h
      · exact hFc _ (hL q h)⟩
  obtain ⟨t2, a1, b1⟩ := kk u T'.heap (locs ++ L) hu ⟨by rw [e1]; exact hP2, hD2, hS2⟩ T' rfl XT'
  exact ⟨t2, stp t2 a1, b1⟩
theorem run_ofPA {S : Type} {mc ms : Nat} {wc : va_W} {a : Array Value} {M : Option S} {rv : S → Option Value} {wc' : (Nat → Nat) → S → va_W} (wr : va_W) (X : rX G P cc nL own y ret A p s m args meth c) (Y : rY G A s (wr ++ wc) H locs)
    (run : va_Run p l e R s m args below meth c H locs cells slots mc ms (F0 m pc ls st) rest (gQa G wc H.size M rv wc' a) (va_A wc H.size))
    (kk : ∀ (u : S) (q : Nat → Nat) (H : Heap) (locs : List Loc), M = some u → rY G A s (wr ++ wc' q u) H locs → W p l e R s m args below meth c H locs (cells + mc) (slots + ms) Q (F0 m (pc + 3) ls ((rv u).toList ++ rest))) : W p l e R s m args below meth c H locs cells slots Q (F0 m pc ls st) := by
  have hFc := va_free Y.2.1 Y.2.2 X.2.2.2.1 _ (ix_c wr wc)
  intro T hT XT
  obtain ⟨v, st₀, t, T', L, h0, XT', hL, e1, e2, ⟨⟨u, q, hu, hoc, hP1, hD1⟩, hz, hk1⟩, stp⟩ := run T hT XT
  cases hoc
  rw [h0] at hz hk1
  obtain ⟨hP2, hD2⟩ := va_join Y.1 Y.2.1 _ _ (ix_c wr wc) (ix_r wr wc) (nd_r _) (dis_rc _ _) hk1 (fun q h => hFc q h) hP1 hD1
  have hS2 : va_S A s.heap T'.heap (locs ++ L) := ⟨Nat.le_trans Y.2.2.1 (by rw [e1]; exact hz), fun q h1 h2 => by rw [e1, hk1 q (Nat.lt_of_lt_of_le h1 Y.2.2.1) (fun z => h2 (hFc q z))]; exact Y.2.2.2.1 q h1 h2, fun q hq => by
      rcases List.mem_append.mp hq with h | h
      · exact Y.2.2.2.2 q h
      · exact hFc _ (hL q h)⟩
  obtain ⟨t2, a1, b1⟩ := kk u q T'.heap (locs ++ L) hu ⟨by rw [e1]; exact hP2, hD2, hS2⟩ T' rfl XT'
  exact ⟨t2, stp t2 a1, b1⟩
theorem r_callP (X : rX G P cc nL own y ret A p s m args meth c) {S : Type} {idx n ci : Nat} {yc : MethodName} {ccc : ByteArray} {nLc : Nat} {retc : Option FieldType} {rmc : Room} {b : Nat} {As : List Value} {wc : va_W} {M : Option S} {rv : S → Option Value} {wc' : S → va_W} (wr : va_W) (k : Nat) (hk : P[k]? = some (pc, .invokevirtual idx, 3)) (hp : pc + 3 = pc') (F : MLv own idx yc ccc nLc retc ci n) (hC : CT l G yc ccc nLc retc rmc (.ref b :: As) wc M rv wc') (Y : rY G A s (wr ++ wc) H locs) (hne : M ≠ none) {fs : List Value} {wt : va_W} (he : wc = (b, .inr (ci, fs)) :: wt) (hst : st = As.reverse ++ .ref b :: rest) (hAs : As.length = n) (hrest : (rest.map fun v => v.category).sum ≤ 8) (hrm : rmc.cells = 0 ∧ rmc.slots = 0) (hR : rmc.frames + 1 ≤ R.frames ∧ 8 + (nLc + 11) + rmc.locals ≤ R.locals) (hcs : cells ≤ R.cells ∧ slots ≤ R.slots) (hl : ls.size = nL) (kk : ∀ (u : S) (H : Heap) (locs : List Loc), M = some u → rY G A s (wr ++ wc' u) H locs → W p l e R s m args below meth c H locs cells slots Q (F0 m pc' ls ((rv u).toList ++ rest))) : W p l e R s m args below meth c H locs cells slots Q (F0 m pc ls st) := by
  subst hp
  subst hst
  obtain ⟨⟨r, hr1, hr2⟩, hno, f1, f2, f3, f4, f5⟩ := F
  have he2 : (wr ++ wc)[wr.length]? = some (b, .inr (ci, fs)) := by rw [he]; simp
  refine run_ofP (l := l) wr X Y (va_runV (C := yc.cls) X.1 (hC hne H.size) (cwV n X.1.2.2.2.2 (fun w hw => ?_) rfl hrm.1 hrm.2 ⟨rfl, hno.1, hno.2.1, hno.2.2⟩ hR) ⟨gPc_blind, by rw [← hr2]; exact va_recv X.g.1 Y.1 hr1 he2, pre_of X Y _ (ix_c wr wc) (nd_c _ _)⟩ rfl hAs hl rfl (lv_room hrest) (X.d hk) hcs) kk
  rcases List.mem_append.mp hw with h | h
  · simp only [List.mem_cons, List.not_mem_nil, or_false] at h
    rcases h with rfl | rfl | rfl | rfl
    · exact ⟨List.mem_cons_of_mem _ f1, good_of_word (WG_gd _ f1)⟩
    · exact ⟨List.mem_cons_of_mem _ f2, good_of_word (WG_gd _ f2)⟩
    · exact ⟨List.mem_cons_of_mem _ f3, good_of_word (WG_gd _ f3)⟩
    · exact ⟨List.mem_cons_of_mem _ f4, good_of_word (WG_gd _ f4)⟩
  · exact gi_cons f5 w h
theorem r_callPA (X : rX G P cc nL own y ret A p s m args meth c) {S : Type} {idx n ci : Nat} {yc : MethodName} {ccc : ByteArray} {nLc : Nat} {retc : Option FieldType} {rmc : Room} {b : Nat} {As : List Value} {wc : va_W} {M : Option S} {rv : S → Option Value} {wc' : (Nat → Nat) → S → va_W} (wr : va_W) (k : Nat) (hk : P[k]? = some (pc, .invokevirtual idx, 3)) (hp : pc + 3 = pc') (F : MLv own idx yc ccc nLc retc ci n) (hC : CTA l G yc ccc nLc retc rmc (.ref b :: As) wc M rv wc') (Y : rY G A s (wr ++ wc) H locs) (hne : M ≠ none) {fs : List Value} {wt : va_W} (he : wc = (b, .inr (ci, fs)) :: wt) (hst : st = As.reverse ++ .ref b :: rest) (hAs : As.length = n) (hrest : (rest.map fun v => v.category).sum ≤ 8) (hR : rmc.frames + 1 ≤ R.frames ∧ 8 + (nLc + 11) + rmc.locals ≤ R.locals) (hcs : cells + rmc.cells ≤ R.cells ∧ slots + rmc.slots ≤ R.slots) (hl : ls.size = nL) (kk : ∀ (u : S) (q : Nat → Nat) (H : Heap) (locs : List Loc), M = some u → rY G A s (wr ++ wc' q u) H locs → W p l e R s m args below meth c H locs (cells + rmc.cells) (slots + rmc.slots) Q (F0 m pc' ls ((rv u).toList ++ rest))) : W p l e R s m args below meth c H locs cells slots Q (F0 m pc ls st) := by
  subst hp
  subst hst
  obtain ⟨⟨r, hr1, hr2⟩, hno, f1, f2, f3, f4, f5⟩ := F
  have he2 : (wr ++ wc)[wr.length]? = some (b, .inr (ci, fs)) := by rw [he]; simp
  refine run_ofPA (l := l) wr X Y (va_runV (C := yc.cls) X.1 (hC hne H.size) (cwV n X.1.2.2.2.2 (fun w hw => ?_) rfl rfl rfl ⟨rfl, hno.1, hno.2.1, hno.2.2⟩ hR) ⟨gPc_blind, by rw [← hr2]; exact va_recv X.g.1 Y.1 hr1 he2, pre_of X Y _ (ix_c wr wc) (nd_c _ _)⟩ rfl hAs hl rfl (lv_room hrest) (X.d hk) hcs) kk
  rcases List.mem_append.mp hw with h | h
  · simp only [List.mem_cons, List.not_mem_nil, or_false] at h
    rcases h with rfl | rfl | rfl | rfl
    · exact ⟨List.mem_cons_of_mem _ f1, good_of_word (WG_gd _ f1)⟩
    · exact ⟨List.mem_cons_of_mem _ f2, good_of_word (WG_gd _ f2)⟩
    · exact ⟨List.mem_cons_of_mem _ f3, good_of_word (WG_gd _ f3)⟩
    · exact ⟨List.mem_cons_of_mem _ f4, good_of_word (WG_gd _ f4)⟩
  · exact gi_cons f5 w h
end CALLP
