def PL_start : List (Nat × Instr × Nat) := [(0, .new 7, 3), (3, .dup, 1), (4, .invokespecial 9, 3), (7, .astore_n 1, 1), (8, .new 10, 3), (11, .dup, 1), (12, .invokespecial 12, 3), (15, .astore_n 2, 1), (16, .iconst 0, 1), (17, .istore_n 3, 1)]
set_option maxRecDepth 20000 in
theorem dPL_start : ∀ q ∈ PL_start, decode code q.1 = .ok q.2 := by decide +kernel
def PL_end : List (Nat × Instr × Nat) := [(1257, .iconst 1, 1), (1258, .ireturn, 1)]
set_option maxRecDepth 20000 in
theorem dPL_end : ∀ q ∈ PL_end, decode code q.1 = .ok q.2 := by decide +kernel
set_option maxRecDepth 20000 in
theorem nRL_7 : NF RL 7 7 10 [.null, .null, .null, .null, .null, .null, .null, .null, .int 0, .int 0] := ⟨RX7, TX7, tyX7, rfl, inwsX70, tyX7_ok, mw840, mw841, mw106, by decide +kernel⟩
set_option maxRecDepth 20000 in
theorem nRL_10 : NF RL 10 8 34 [.null, .null, .null, .int 0, .int 0, .int 0, .int 0, .int 0, .null, .null, .null, .null, .int 0, .null, .int 0, .int 0, .null, .int 0, .null, .int 0, .int 0, .int 0, .int 0, .int 0, .null, .null, .null, .int 0, .int 0, .int 0, .null, .int 0, .int 0, .null] := ⟨RX8, TX8, tyX8, rfl, inwsX80, tyX8_ok, mw842, mw843, mw539, by decide +kernel⟩
theorem iRL_9 : MLi RL 9 yX7_init cX7_init 2 0 := ⟨⟨by decide, by decide, by decide +kernel⟩, rfl, mw844, mw845, mw106, mw317⟩
theorem iRL_12 : MLi RL 12 yX8_init cX8_init 2 0 := ⟨⟨by decide, by decide, by decide +kernel⟩, rfl, mw846, mw847, mw539, mw510⟩
theorem r_callIP {l : Launch} {G : gT} {p : Program} {e : Env} {R : Room} {s : State} {m : MethodId} {args : Array Value} {below : List Frame} {meth : Method} {c : Code} {H : Heap} {locs : List Loc} {cells slots : Nat} {Q : State → Prop} {cc : ByteArray} {nL : Nat} {own : String} {y : MethodName} {ret : Option FieldType} {P : List (Nat × Instr × Nat)} {A : Nat → Prop} {pc pc' : Nat} {ls : Array Slot} {st rest : List Value} {S : Type} {idx n : Nat} {yc : MethodName} {ccc : ByteArray} {nLc : Nat} {rmc : Room} {b : Nat} {As : List Value} {wc : va_W} {M : Option S} {rv : S → Option Value} {wc' : (Nat → Nat) → S → va_W} (X : rX G P cc nL own y ret A p s m args meth c) (wr : va_W) (k : Nat) (hk : P[k]? = some (pc, .invokespecial idx, 3)) (hp : pc + 3 = pc') (F : MLi own idx yc ccc nLc n) (hC : CTA l G yc ccc nLc none rmc (.ref b :: As) wc M rv wc') (Y : rY G A s (wr ++ wc) H locs) (hne : M ≠ none) (hst : st = As.reverse ++ .ref b :: rest) (hAs : As.length = n) (hrest : (rest.map fun v => v.category).sum ≤ 8) (hR : rmc.frames + 1 ≤ R.frames ∧ 8 + (nLc + 11) + rmc.locals ≤ R.locals) (hcs : cells + rmc.cells ≤ R.cells ∧ slots + rmc.slots ≤ R.slots) (hl : ls.size = nL)
    (kk : ∀ (u : S) (q : Nat → Nat) (H : Heap) (locs : List Loc), M = some u → rY G A s (wr ++ wc' q u) H locs → W p l e R s m args below meth c H locs (cells + rmc.cells) (slots + rmc.slots) Q (F0 m pc' ls ((rv u).toList ++ rest))) : W p l e R s m args below meth c H locs cells slots Q (F0 m pc ls st) := by
  subst hp
  subst hst
  obtain ⟨hno, hy1, f1, f2, f4, f5⟩ := F
  exact run_ofPA (l := l) wr X Y (va_runI X.1 (hC hne H.size) (cwI n X.1.2.2.2.2 (gi_cons f5) rfl rfl rfl (X.w f4) (X.w f1) (X.w f2) hy1 hno hR) ⟨gPc_blind, pre_of X Y _ (ix_c wr wc) (nd_c _ _)⟩ rfl hAs hl rfl (lv_room hrest) (X.d hk) hcs) kk
def R_law : String := "TableFirmsLaw"
def lw_P (b : Addr) (xs : List Int32) (args : Array Value) (s : State) : Prop := args = #[.ref b] ∧ s.IntsAt b xs ∧ xs.length ≤ 384 ∧ (Jvm.Cond.and given_1 narrow_1).before args s = true
def lw_Q (_ : Array Value) (s : State) (o : Outcome) (t : State) : Prop := o = .returned (some (.int 1)) ∧ Framed s o t [] 600000 7302250
def lw_Z (below : List Frame) (a : Array Value) (s : State) : State → Prop := fun t => ∃ o, t.status = .running ∧ Ended t below o ∧ lw_Q a s o t
/-- the law's own end, with 1 on the stack, nothing written that was there before, its room as the claim has it -/
theorem lw_ret {p : Program} {l : Launch} {e : Env} {s : State} {m : MethodId} {below : List Frame} {meth : Method} {c : Code} {b : Nat} (hx : p.tables.exec = Jvm.exec) (hb : c.code = code) (hr : meth.sig.returnType = ret) (hlocks : meth.locks = false) {pc : Nat} {H : Heap} {ls : Array Slot} (hdg : decode code pc = .ok (.ireturn, 1)) : W p l e room_1 s m #[Value.ref b] below meth c H [] 600000 7302250 (lw_Z below #[Value.ref b] s) (F0 m pc ls [.int 1]) := by
  intro T hT X
  obtain ⟨fs, hret, hrun, hended, hW, hframe⟩ := X.leave (v := some (.int 1)) (hlocks := hlocks) (fun h => by rw [hr] at h; cases h)
  have hmeth' : T.vm.method? m = some meth := X.method'
  refine ⟨T.setFrames fs, ?_, .returned (some (.int 1)), hrun, hended, rfl, ⟨_, rfl⟩, hW, hframe⟩
  jvm_step X.here [X.here.top, hx, hb, hdg, hmeth', hr, ret, narrow_b1]
  (try refine ⟨rfl, ?_⟩); (try refine ⟨rfl, ?_⟩)
  first | (intro acts; rw [hret _ acts rfl rfl rfl]) | rw [hret _ _ rfl rfl rfl]
  exact Steps.refl _
/-- what holds at the law's entry: the machine, the code, the tables' words (any of lw_tbl by 'hts w (by decide +kernel)'), the script of L ints xs at the cell b, what the Statement gives of the start (any of its parts by flat_of_before) -/
def lw_At (p : Program) (s : State) (m : MethodId) (meth : Method) (c : Code) (b L : Nat) (xs : Nat → Int32) : Prop :=
  p.tables.exec = Jvm.exec ∧ c.code = code ∧ meth.sig.returnType = ret ∧ c.maxLocals = 4 ∧ s.vm.findClass R_law = some m.cls ∧ (∀ w ∈ (Jvm.Cond.code x code maxLocals ret :: lw_tbl), w.before #[Value.ref b] s = true) ∧ va_X b L xs s s.heap ∧ b < s.heap.size ∧ meth.locks = false ∧ (Jvm.Cond.and given_1 narrow_1).before #[Value.ref b] s = true
theorem app14 (a0 a1 a2 a3 a4 a5 a6 a7 a8 a9 a10 a11 a12 a13 a14 : va_W) : ((a0 ++ (a1 ++ (a2 ++ (a3 ++ (a4 ++ (a5 ++ (a6 ++ (a7 ++ (a8 ++ (a9 ++ (a10 ++ (a11 ++ (a12 ++ a13))))))))))))) ++ a14) = (a0 ++ (a1 ++ (a2 ++ (a3 ++ (a4 ++ (a5 ++ (a6 ++ (a7 ++ (a8 ++ (a9 ++ (a10 ++ (a11 ++ (a12 ++ (a13 ++ a14)))))))))))))) := by simp only [List.append_assoc]
set_option maxHeartbeats 4000000 in
set_option maxRecDepth 100000 in
/-- THE LAW, from its entry -/
theorem whole_start {p : Program} {e : Env} {s : State} {m : MethodId} {below : List Frame} {meth : Method} {c : Code} (l : Launch) (_hflags : l.flags = flags0) {b L : Nat} {xs : Nat → Int32} (hL : L ≤ 384) (C0 : lw_At p s m meth c b L xs) : W p l e room_1 s m #[Value.ref b] below meth c s.heap [] 0 0 (lw_Z below #[Value.ref b] s) (entryFrame m ([Value.ref b] : List Value).toArray 4) := by
  obtain ⟨hx, hb, hr, hml, hown, hts, hX, hbl, hlocks, hgv⟩ := C0
  have hts2 : ∀ w ∈ lw_tbl, w.before #[Value.ref b] s = true := fun w hw => hts w (List.mem_cons_of_mem _ hw)
  obtain ⟨G, hG⟩ := gOK_of hts2 hgv
  have X : rX G PL_start code 4 RL x ret (fun q : Nat => s.heap.size ≤ q) p s m #[Value.ref b] meth c := ⟨⟨hx, hb, hml, hown, List.forall_mem_cons.mpr ⟨hts _ List.mem_cons_self, fun w hw => hts2 w (WG_tb w hw)⟩⟩, dPL_start, hG, fun q h => h, hlocks, hr, fun z => absurd z (by decide)⟩
  have Y : rY G (fun q : Nat => s.heap.size ≤ q) s [] s.heap [] := ⟨fun k q h => by simp at h, ⟨fun i j p q h => by simp at h, fun k q h => by simp at h⟩, va_S.rf⟩
  have hl := lv_entry ([.ref b]) (n := 4) (Nat.le_of_ble_eq_true rfl)
  rw [lg_entry_eq]
  generalize (lg_sl ([.ref b]) ++ List.replicate (4 - (lg_sl ([.ref b])).length) Slot.unset).toArray = ls at hl ⊢
  have hl : lv_has ls 4 [(0, .ref b)] := hl
  refine r_new (pc' := 3) X Y 0 rfl rfl nRL_7 ⟨Nat.le_of_ble_eq_true rfl, Nat.le_of_ble_eq_true rfl⟩ (fun h H Y => ?_)
  refine r_dup (pc' := 4) X 1 rfl rfl rfl ?_
  refine r_callIP (pc' := 7) (As := []) (rest := [.ref h]) X [] 2 rfl rfl iRL_9 (c_X7_init l G h) Y (Option.some_ne_none _) rfl rfl (Nat.le_of_ble_eq_true rfl) ⟨Nat.le_of_ble_eq_true rfl, Nat.le_of_ble_eq_true rfl⟩ ⟨Nat.le_of_ble_eq_true rfl, Nat.le_of_ble_eq_true rfl⟩ hl.1 (fun u q H locs hu Y => ?_)
  replace Y : rY G (fun q : Nat => s.heap.size ≤ q) s (u0_ G h q 0 q ((0, 0) : TF) ++ (u1_ G h q 0 q rw0 ++ (u2_ G h q 0 q (0 : TP) ++ (u3_ G h q 0 q (fun _ => 0) ++ (u4_ G h q 0 q bd0 ++ (u5_ G h q 0 q bd0 ++ (u6_ G h q 0 q ++ (u7_ G h q 0 q bd0 ++ (u8_ G h q 0 q bd0 ++ (u9_ G h q 0 q ((0, 0, fun _ => 0) : AC) ++ (u10_ G h q 0 q (-1000000 : FS) ++ (u11_ G h q 0 q (fun _ => 0) ++ (u12_ G h q 0 q bd0 ++ (u13_ G h q 0 q ((0, fun _ => 0) : AS))))))))))))))) H locs := Y
  show W p l e room_1 s m #[Value.ref b] below meth c H locs 49 1108 _ (F0 m 7 ls [.ref h])
  refine r_astore_n (pc' := 8) (L' := [(1, .ref h), (0, .ref b)]) X hl rfl 3 rfl rfl (by decide) rfl (fun ls hl => ?_)
  refine r_new (pc' := 11) X Y 4 rfl rfl nRL_10 ⟨Nat.le_of_ble_eq_true rfl, Nat.le_of_ble_eq_true rfl⟩ (fun hm H Y => ?_)
  refine r_dup (pc' := 12) X 5 rfl rfl rfl ?_
  refine r_callIP (pc' := 15) (As := []) (rest := [.ref hm]) X (u0_ G h q 0 q ((0, 0) : TF) ++ (u1_ G h q 0 q rw0 ++ (u2_ G h q 0 q (0 : TP) ++ (u3_ G h q 0 q (fun _ => 0) ++ (u4_ G h q 0 q bd0 ++ (u5_ G h q 0 q bd0 ++ (u6_ G h q 0 q ++ (u7_ G h q 0 q bd0 ++ (u8_ G h q 0 q bd0 ++ (u9_ G h q 0 q ((0, 0, fun _ => 0) : AC) ++ (u10_ G h q 0 q (-1000000 : FS) ++ (u11_ G h q 0 q (fun _ => 0) ++ (u12_ G h q 0 q bd0 ++ (u13_ G h q 0 q ((0, fun _ => 0) : AS))))))))))))))) 6 rfl rfl iRL_12 (c_X8_init l G hm) Y (Option.some_ne_none _) rfl rfl (Nat.le_of_ble_eq_true rfl) ⟨Nat.le_of_ble_eq_true rfl, Nat.le_of_ble_eq_true rfl⟩ ⟨Nat.le_of_ble_eq_true rfl, Nat.le_of_ble_eq_true rfl⟩ hl.1 (fun u qm H locs hu Y => ?_)
  rw [app14] at Y
  replace Y : rY G (fun q : Nat => s.heap.size ≤ q) s (LW G h q hm qm ((0, 0) : TF) rw0 (0 : TP) (fun _ => 0) bd0 bd0 bd0 bd0 ((0, 0, fun _ => 0) : AC) (-1000000 : FS) (fun _ => 0) bd0 ((0, fun _ => 0) : AS) ms0) H locs := Y
  show W p l e room_1 s m #[Value.ref b] below meth c H locs 65 2039 _ (F0 m 15 ls [.ref hm])
  refine r_astore_n (pc' := 16) (L' := [(2, .ref hm), (1, .ref h), (0, .ref b)]) X hl rfl 7 rfl rfl (by decide) rfl (fun ls hl => ?_)
  refine r_iconst (pc' := 17) X (0 : Int32) 8 rfl rfl rfl ?_
  refine r_istore_n (pc' := 18) (L' := [(3, .int (0 : Int32)), (2, .ref hm), (1, .ref h), (0, .ref b)]) X hl rfl 9 rfl rfl (by decide) rfl (fun ls hl => ?_)
  refine law_loop (X.chP dPL_head) ⟨hX, hbl, Nat.not_le.mpr hbl⟩ hL (fun ws H locs cells slots ls Y h1 h2 => ?_) 64 0 (by omega) (by omega) _ _ _ _ _ _ _ _ _ _ _ _ _ _ H locs 65 2039 ls rel_init Y (by rw [Nat.mul_zero, nI_0]; exact hl) (by omega) (by omega)
  refine r_iconst (pc' := 1258) (X.chP dPL_end) (1 : Int32) 0 rfl rfl rfl ?_
  refine W.widen (k := 600000) (n := 7302250) h1 h2 ?_
  refine va_forget (fun q hq => Y.2.2.2.2 q hq) ?_
  exact lw_ret hx hb hr hlocks (dPL_end (1258, .ireturn, 1) (List.mem_of_getElem? (i := 1) rfl))
set_option maxHeartbeats 4000000 in
theorem lw_walk (l : Launch) (hflags : l.flags = flags0) (b : Addr) (xs : List Int32) : MetFree l x (headSpec (Jvm.Cond.code x code maxLocals ret :: tables_1) room_1) (lw_P b xs) (fun _ _ _ _ _ => True) lw_Q := by
  refine MetFree.of_bodyS (code := code) (maxLocals := maxLocals) (ret := ret) (by decide) ?_ ?_
  · intro args s m h hn
    obtain ⟨meth, c, h1, h2, h3, h4, h5, h6, -, -⟩ := Cond.code_spec hn (atoms_spec (ws := Jvm.Cond.code x code maxLocals ret :: tables_1) h _ List.mem_cons_self)
    exact ⟨meth, c, h1, h2, h3, h4, h5, h6⟩
  · intro p e s m args below meth c s₁ B hml0 hP _
    obtain ⟨rfl, hx, hbd, hgv⟩ := hP
    obtain ⟨scr, harrAt, hlist, hof, hsmall⟩ := hx
    obtain ⟨hcb, hkn, -, -⟩ := State.arrayAt?_spec harrAt
    have hown : s.vm.findClass R_law = some m.cls := findClass_of_methodNamed B.named
    have hts0 : ∀ c ∈ (Jvm.Cond.code x code maxLocals ret :: tables_1), c.before #[Value.ref b] s = true := atoms_spec (ws := Jvm.Cond.code x code maxLocals ret :: tables_1) B.pre
    have hts : ∀ w ∈ lw_tbl, w.before #[Value.ref b] s = true := k2_hts_sels lw_privs (fun w hw => hts0 w (List.mem_cons_of_mem _ hw)) lw_privs_ok
    have hml : c.maxLocals = 4 := B.maxLocals_eq (hts0 _ List.mem_cons_self)
    have X₀ : Stand p l e room_1 s m #[Value.ref b] below meth c s₁ [] 0 0 := Stand.of_body B
    have hh0 : s₁.heap = s.heap := by rw [B.state]; rfl
    have hsz : scr.slots.size = xs.length := by rw [← Array.length_toList, hlist, List.length_map]
    have hval : ∀ j : Nat, j < xs.length → scr.slots[j]? = some (.int (xs.getD j 0)) := fun j hj => by
      rw [← Array.getElem?_toList, hlist]
      simp [hj]
    have hbl : b < s.heap.size := (Array.getElem?_eq_some_iff.mp hcb).1
    have hX : va_X b xs.length (fun j => xs.getD j 0) s s.heap := ⟨scr, hcb, hof, hkn, hsz, hval⟩
    have K : W p l e room_1 s m #[Value.ref b] below meth c s₁.heap [] 0 0 (lw_Z below #[Value.ref b] s) (entryFrame m ([Value.ref b] : List Value).toArray 4) := by
      rw [hh0]
      exact whole_start l hflags hbd ⟨B.exec, B.bytes, B.returns, hml, hown, List.forall_mem_cons.mpr ⟨hts0 _ List.mem_cons_self, hts⟩, hX, hbl, B.notSynchronized, hgv⟩
    obtain ⟨t, a1, o, b1, b2, b3⟩ := K s₁ rfl X₀
    exact ⟨t, o, a1, b1, b2, b3⟩
theorem lw_pre_spec {args : Array Value} {s : State} (h : (Jvm.Cond.and given_1 narrow_1).before args s = true) (hr : rest_1_c.before args s = true) : ∃ (b : Addr) (xs : List Int32), lw_P b xs args s := by
  have hs := flat_of_before _ h
  have hq := flat_of_before _ hr
  have hc : (Cond.count 1).before args s = true := hs _ (by decide +kernel)
  have harr : (Cond.arrayOf (.arg 0) .int).before args s = true := hs _ (by decide +kernel)
  have hle : (Cond.le (.length (.arg 0)) (.int 384)).before args s = true := hs _ (by decide +kernel)
  have hlen : (Cond.isInt (.length (.arg 0))).before args s = true := hq _ (by decide +kernel)
  have hall : (Cond.all (.arg 0) (.isInt (.elem (.arg 0) (.index 0)))).before args s = true := hq _ (by decide +kernel)
  obtain ⟨b, xs, hb, hx⟩ := State.ints_of_pre rfl harr hlen hall
  have hsm : xs.length < 2 ^ 31 := hx.choose_spec.2.2.2
  have hev : (Term.length (.arg 0)).eval args s none [] s = some (.int xs.length.toInt32) := hx.length_eval hb
  have hv := Cond.le_ints hev (show (Term.int 384).eval args s none [] s = some (.int 384) from rfl)
  have hd : xs.length.toInt32 ≤ 384 := by
    simpa [Cond.before, Cond.holds, hv] using hle
  have hN : xs.length ≤ 384 := (Int32.ofNat_le_ofNat hsm (by decide)).mp (show Int32.ofNat xs.length ≤ Int32.ofNat 384 from hd)
  exact ⟨b, xs, Cond.one_arg hc (show args[0]? = some (.ref b) from hb), hx, hN, h⟩
theorem lw_comes (l : Launch) (hflags : l.flags = flags0) : Comes l x (Jvm.Cond.code x code maxLocals ret :: tables_1) room_1 (fun tb e args s => Calls_1 tb e args s ∧ rest_1 tb e args s ∧ Pre_1 tb e args s)
    (fun _ _ args s o t => lw_Q args s o t) := by
  intro p e ha hc hk s m args below hf hfit hheap happ hpre
  obtain ⟨b, xs, hP⟩ := lw_pre_spec hpre.2.2 hpre.2.1
  obtain ⟨k, o, h1, h2, h3, hQ⟩ := lw_walk l hflags b xs p e ha hc hk s m args below hf ((Spec.applies_iff_loose hf).mp happ).1 hP trivial
  exact ⟨k, o, h1, h2, h3, hQ⟩
theorem lw_frame {s t : State} {o : Outcome} {args : Array Value} (h : Framed s o t [] 600000 7302250) :
    Framed s o t (fieldLocs frame_1_writes args s ++ arrayLocs frame_1_arrays args s ++ staticLocs frame_1_statics s) 600000 7302250 := h
theorem lw_limb (L : Cond) (hL : ∀ (args : Array Value) (s t : State), L.after args s (.returned (some (.int 1))) t = true) :
    ArmFor flags0 classFile x code maxLocals ret World_1 tables_1 room_1 Calls_1 rest_1 Pre_1
      (fun tb e a s o t => postC L tb e a s o t ∧ Framed s o t (fieldLocs frame_1_writes a s ++ arrayLocs frame_1_arrays a s ++ staticLocs frame_1_statics s) 600000 7302250) := by
  intro l hflags _ _ p e ha hc hk s m args below hf hfit hheap happ hpre
  obtain ⟨k, o, h1, h2, h3, rfl, hF⟩ := lw_comes l hflags p e ha hc hk s m args below hf hfit hheap happ hpre
  exact ⟨k, _, h1, h2, h3, hL args s _, lw_frame hF⟩
theorem i_vc : Claimed_1_1 ∧ Claimed_1_2 := ⟨lw_limb limb_1_1 (fun args s t => by simp [limb_1_1, Cond.after, Cond.holds, Cond.value]), lw_limb limb_1_2 (fun args s t => Cond.after_iff.mpr (by
  first | (rw [show limb_1_2 = Cond.eq .result (.int 1) from rfl, Cond.eq_ints (x := 1) (y := 1) rfl rfl]; simp; done) | (simp [limb_1_2, Cond.value, Term.eval]; done)))⟩
