
/-! ===== what makes objects: constructors ===== -/
def gQa {S : Type} (G : gT) (ws : va_W) (sz : Nat) (M : Option S) (rv : S → Option Value) (ws' : (Nat → Nat) → S → va_W) : Array Value → State → Outcome → State → Prop := fun _ st oc t => (∃ (u : S) (q : Nat → Nat), M = some u ∧ oc = .returned (rv u) ∧ va_P G.1 vwCl (ws' q u) t.heap ∧ va_D (va_A ws sz) (ws' q u)) ∧ va_F (va_A ws sz) st t
def CTA {S : Type} (l : Launch) (G : gT) (y : MethodName) (cc : ByteArray) (nL : Nat) (ret : Option FieldType) (rm : Room) (av : List Value) (ws : va_W) (M : Option S) (rv : S → Option Value) (ws' : (Nat → Nat) → S → va_W) : Prop :=
  M ≠ none → ∀ sz : Nat, Met l y (Cond.code y cc nL ret :: WG) rm (gPc G av ws sz) (gQa G ws sz M rv ws') rm.cells rm.slots (va_A ws sz)
section ALLOC
variable {l : Launch} {G : gT} {p : Program} {e : Env} {R : Room} {s : State} {m : MethodId} {args : Array Value} {below : List Frame} {meth : Method} {c : Code} {H : Heap} {locs : List Loc} {cells slots : Nat} {Q : State → Prop} {cc : ByteArray} {nL : Nat} {own : String} {y : MethodName} {ret : Option FieldType} {P : List (Nat × Instr × Nat)} {A : Nat → Prop} {pc pc' : Nat} {ls : Array Slot} {st rest : List Value} {ws ws' : va_W} {L L' : List (Nat × Value)}
def rA {S : Type} (p : Program) (l : Launch) (e : Env) (R : Room) (s : State) (m : MethodId) (args : Array Value) (below : List Frame) (meth : Method) (c : Code) (G : gT) (A : Nat → Prop) (cc : ByteArray) (ret : Option FieldType) (M : Option S) (rv : S → Option Value) (ws' : (Nat → Nat) → S → va_W) (Q : State → Prop) : Prop :=
  ∀ (u : S) (q : Nat → Nat) (ws : va_W) (is : List Nat) (H : Heap) (locs : List Loc) (pc : Nat) (ls : Array Slot) (ri : Instr), some u = M → okR ret ri (rv u) → decode cc pc = .ok (ri, 1) → rY G A s ws H locs → va_nd is = true → is.map (fun i => ws[i]?) = (ws' q u).map some → W p l e R s m args below meth c H locs R.cells R.slots Q (F0 m pc ls (rv u).toList)
theorem CTA.of {S : Type} {rm : Room} {av : List Value} {M : Option S} {rv : S → Option Value} {ws' : (Nat → Nat) → S → va_W} (hy : plainName y.cls = true) (hd : ∀ q ∈ P, decode cc q.1 = .ok q.2) (hav : (lg_sl av).length ≤ nL)
    (body : ∀ (p : Program) (e : Env) (s : State) (m : MethodId) (args : Array Value) (below : List Frame) (meth : Method) (c : Code) (A : Nat → Prop) (Q : State → Prop) (ls : Array Slot), M ≠ none → rX G P cc nL y.cls y ret A p s m args meth c → rA p l e rm s m args below meth c G A cc ret M rv ws' Q → rY G A s ws s.heap [] → lv_has ls nL (lv_args 0 av) →
      W p l e rm s m args below meth c s.heap [] 0 0 Q (F0 m 0 ls [])) : CTA l G y cc nL ret rm av ws M rv ws' := by
  intro hne sz
  refine Met.ofW (cc := cc) (maxL := nL) (ret := ret) hy rfl ?_
  intro p e s m args below meth c s₁ B hml hv
  obtain ⟨rfl, hsz, hG, hP, hD0⟩ := hv
  subst hsz
  have hl := lv_entry av (n := nL) hav
  rw [lg_entry_eq]
  have hD := hD0.self (sz := s.heap.size)
  refine body p e s m _ below meth c (va_A ws s.heap.size) _ _ hne ⟨⟨B.exec, B.bytes, hml, findClass_of_methodNamed B.named, atoms_spec (ws := Cond.code y cc nL ret :: WG) B.pre⟩, hd, hG, fun q h => Or.inr h, B.notSynchronized, B.returns, fun h => by rw [(name_of_methodNamed B.named B.method).1]; exact h⟩ ?_ ⟨hP, hD, va_S.rf⟩ hl
  intro u q wsE is H locs pc ls ri hu hok hdec hY hnd his
  have hfin : ∀ t : State, t.heap = H → s.WarmedH t.vm → gQa G ws s.heap.size M rv ws' av.toArray s (.returned (rv u)) t := fun t ht _ => ⟨⟨u, q, hu.symm, rfl, by rw [ht]; exact hY.1.sub is (fm_of his), hY.2.1.sub is hnd his⟩, hY.2.2.F ht⟩
  rcases hok with ⟨h1, h2, x, h3⟩ | ⟨h1, h2, x, h3, h4⟩ | ⟨h1, h2, x, h3⟩ | ⟨h1, h2, h3⟩ | ⟨C, h1, h2, a, h3⟩
  · subst h2
    rw [h3] at hfin ⊢
    exact W.iret B.exec B.bytes (B.returns.trans h1) hfin hY.2.2.2.2 hdec B.notSynchronized
  · subst h2
    rw [h3] at hfin ⊢
    exact W.zret B.exec B.bytes (B.returns.trans h1) h4 hfin hY.2.2.2.2 hdec B.notSynchronized
  · subst h2
    rw [h3] at hfin ⊢
    exact W.lret B.exec B.bytes (B.returns.trans h1) hfin hY.2.2.2.2 hdec B.notSynchronized
  · subst h2
    rw [h3] at hfin ⊢
    exact W.vret B.exec B.bytes (B.returns.trans h1) hfin hY.2.2.2.2 hdec B.notSynchronized
  · subst h2
    rw [h3] at hfin ⊢
    exact W.aret B.exec B.bytes (B.returns.trans h1) (Or.inl ⟨C, rfl⟩) (Or.inr ⟨a, rfl⟩) hfin hY.2.2.2.2 hdec B.notSynchronized
def NF (own : String) (idx ci N : Nat) (fs : List Value) : Prop := ∃ (C : String) (T : u_T) (ty0 : Nat → FieldType), vwCl[ci]? = some (C, T, N) ∧ (∀ w ∈ u_ws C T N, w ∈ WG) ∧ (∀ k, k < N → parseFieldDescriptor (T k).2.2.1 = some (ty0 k)) ∧ Cond.classLink own idx C ∈ WG ∧ Cond.instantiable C N ∈ WG ∧ Cond.initialized C ∈ WG ∧ ∀ j, j < N → defaultValue (ty0 j) = vp_V fs j
theorem r_new (X : rX G P cc nL own y ret A p s m args meth c) (Y : rY G A s ws H locs) {idx ci N : Nat} {fs : List Value} (k : Nat) (hk : P[k]? = some (pc, .new idx, 3)) (hp : pc + 3 = pc') (F : NF own idx ci N fs) (hr : cells + 1 ≤ R.cells ∧ slots + N ≤ R.slots) (kk : ∀ (q : Nat) (H : Heap), rY G A s (ws ++ [(q, .inr (ci, fs))]) H locs → W p l e R s m args below meth c H locs (cells + 1) (slots + N) Q (F0 m pc' ls (.ref q :: rest))) : W p l e R s m args below meth c H locs cells slots Q (F0 m pc ls rest) := by
  subst hp
  obtain ⟨C, T, ty0, h1, h2, h3, h4, h5, h6, h7⟩ := F
  exact va_new (D := G.1) X.1.1 X.1.2.1 X.1.2.2.2.2 (rX.gu h2) ty0 h3 X.1.2.2.2.1 (X.w h4) (X.w h5) (X.w h6) X.g.1 Y.1 Y.2.1 Y.2.2 X.2.2.2.1 h1 h7 hr.1 hr.2 (X.d hk) (fun q H1 a1 a2 a3 => kk q H1 ⟨a1, a2, a3⟩)
theorem r_newa (X : rX G P cc nL own y ret A p s m args meth c) (Y : rY G A s ws H locs) (k : Nat) (hk : P[k]? = some (pc, .newarray .int, 2)) (hp : pc + 2 = pc') (hw : Cond.arrayClass .int ∈ WG) {n : Int32} (N : Nat) (hn : (¬ n < 0) ∧ n.toNatClampNeg = N ∧ N * 4 ≤ 536870912) (hr : cells + 1 ≤ R.cells ∧ slots + N ≤ R.slots) (kk : ∀ (q : Nat) (H : Heap), rY G A s (ws ++ [(q, .inl (cyI G, N, .inl (fun _ => 0)))]) H locs → W p l e R s m args below meth c H locs (cells + 1) (slots + N) Q (F0 m pc' ls (.ref q :: rest))) : W p l e R s m args below meth c H locs cells slots Q (F0 m pc ls (.int n :: rest)) := by
  subst hp
  refine va_newa (D := G.1) (atype := .int) (ty := .int) (tys := tyG G) X.1.1 X.1.2.1 (X.w hw) rfl X.g.1 Y.1 Y.2.1 Y.2.2 X.2.2.2.1 (N' := N) (a0 := (N, .inl (fun _ => 0))) (fun _ => rfl) hn.1 hn.2.1 hn.2.2 hr.1 hr.2 (X.d hk) (fun q cA H1 a0 a1 a2 a3 => ?_)
  have e1 : s.vm.findClass ("[" ++ FieldType.int.toString) = some cA := (a0.2 2 (cA, .int) rfl).2
  have e2 : s.vm.findClass ("[" ++ FieldType.int.toString) = some (cyI G) := (X.g.1.2 0 (cyI G, .int) rfl).2
  have e3 : cA = cyI G := Option.some.inj (e1.symm.trans e2)
  subst e3
  exact kk q H1 ⟨a1, a2, a3⟩
theorem r_newq (X : rX G P cc nL own y ret A p s m args meth c) (Y : rY G A s ws H locs) {idx : Nat} (k : Nat) (hk : P[k]? = some (pc, .anewarray idx, 3)) (hp : pc + 3 = pc') (hw : Cond.classLink own idx "TableFirms$Board" ∈ WG) {n : Int32} (N : Nat) (hn : (¬ n < 0) ∧ n.toNatClampNeg = N ∧ N * 4 ≤ 536870912) (hr : cells + 1 ≤ R.cells ∧ slots + N ≤ R.slots) (kk : ∀ (q : Nat) (H : Heap), rY G A s (ws ++ [(q, .inl (cyB G, N, .inr (.inr (.inr (.inr (fun _ => none))))))]) H locs → W p l e R s m args below meth c H locs (cells + 1) (slots + N) Q (F0 m pc' ls (.ref q :: rest))) : W p l e R s m args below meth c H locs cells slots Q (F0 m pc ls (.int n :: rest)) := by
  subst hp
  refine va_newq (D := G.1) (tys := tyG G) X.1.1 X.1.2.1 X.1.2.2.2.1 (X.w hw) X.g.2.1.2 X.g.1 Y.1 Y.2.1 Y.2.2 X.2.2.2.1 (N' := N) hn.1 hn.2.1 hn.2.2 hr.1 hr.2 (X.d hk) (fun q cA H1 a0 a1 a2 a3 => ?_)
  obtain ⟨_, _, _, _, _, e1⟩ := (a0.2 2 (cA, .object "TableFirms$Board") rfl).2
  obtain ⟨_, _, _, _, _, e2⟩ := (X.g.1.2 1 (cyB G, .object "TableFirms$Board") rfl).2
  have e3 : cA = cyB G := Option.some.inj (e1.symm.trans e2)
  subst e3
  exact kk q H1 ⟨a1, a2, a3⟩
theorem r_astq (X : rX G P cc nL own y ret A p s m args meth c) (Y : rY G A s ws H locs) (k : Nat) (hk : P[k]? = some (pc, .aastore, 1)) (hp : pc + 1 = pc') (q0 qk : Nat) {a n v : Nat} {f : Nat → Option Nat} {i : Int32} {vs : List Value} (he : ws[q0]? = some (a, .inl (cyB G, n, .inr (.inr (.inr (.inr f)))))) (hv : ws[qk]? = some (v, .inr (2, vs))) (hin : vp_in i n) (hw : ws.set q0 (a, .inl (cyB G, n, .inr (.inr (.inr (.inr (va_up f i.toNatClampNeg (some v))))))) = ws') (kk : ∀ H locs, rY G A s ws' H locs → W p l e R s m args below meth c H locs cells slots Q (F0 m pc' ls rest)) : W p l e R s m args below meth c H locs cells slots Q (F0 m pc ls (.ref v :: .int i :: .ref a :: rest)) := by
  subst hp
  subst hw
  exact va_astq (D := G.1) (tys := tyG G) (r := (RX2, TX2, 13)) X.1.1 X.1.2.1 X.g.1 Y.1 Y.2.1 Y.2.2 q0 1 qk 2 he rfl hv rfl hin (X.d hk) (fun H1 l1 a1 a2 a3 => kk H1 l1 ⟨a1, a2, a3⟩)
theorem r_obj (X : rX G P cc nL own y ret A p s m args meth c) {idx : Nat} {a : Nat} (k : Nat) (hk : P[k]? = some (pc, .invokespecial idx, 3)) (hp : pc + 3 = pc') (hw : Cond.methodLink own idx objectInit ∈ WG ∧ Cond.instanceMethod objectInit ∈ WG ∧ Cond.code objectInit ⟨#[0xb1]⟩ 1 none ∈ WG) (hl : ls.size = nL) (hr : 1 ≤ R.frames ∧ 2 * (F0 m pc ls (.ref a :: rest)).monitorRoom + (rest.map fun v => v.category).sum + 12 ≤ R.locals) (kk : W p l e R s m args below meth c H locs cells slots Q (F0 m pc' ls rest)) : W p l e R s m args below meth c H locs cells slots Q (F0 m pc ls (.ref a :: rest)) := by
  subst hp
  exact W.objInit X.1.1 X.1.2.1 X.1.2.2.2.1 (X.w hw.1) (X.w hw.2.1) (X.w hw.2.2) rfl (hl.trans X.1.2.2.1.symm) rfl (X.d hk) hr.1 hr.2 (W.eq (g2 := F0 m (pc + 3) ls rest) rfl kk)
/-- behind a call that makes cells -/
theorem run_ofA {S : Type} {mc ms : Nat} {wc : va_W} {a : Array Value} {M : Option S} {rv : S → Option Value} {wc' w2 : (Nat → Nat) → S → va_W} (X : rX G P cc nL own y ret A p s m args meth c) (Y : rY G A s ws H locs) (isC isR : List Nat) (hC1 : isC.map (fun i => ws[i]?) = wc.map some) (hR1 : isR.map (fun i => ws[i]?) = (isR.filterMap (fun i => ws[i]?)).map some) (hnR : va_nd isR = true) (hdis : ∀ i ∈ isR, i ∉ isC) (h2 : ∀ q u, isR.filterMap (fun i => ws[i]?) ++ wc' q u = w2 q u)
    (run : va_Run p l e R s m args below meth c H locs cells slots mc ms (F0 m pc ls st) rest (gQa G wc H.size M rv wc' a) (va_A wc H.size))
    (kk : ∀ (u : S) (q : Nat → Nat) (H : Heap) (locs : List Loc), M = some u → rY G A s (w2 q u) H locs → W p l e R s m args below meth c H locs (cells + mc) (slots + ms) Q (F0 m (pc + 3) ls ((rv u).toList ++ rest))) : W p l e R s m args below meth c H locs cells slots Q (F0 m pc ls st) := by
  have hFc := va_free Y.2.1 Y.2.2 X.2.2.2.1 isC hC1
  intro T hT XT
  obtain ⟨v, st₀, t, T', L, h0, XT', hL, e1, e2, ⟨⟨u, q, hu, hoc, hP1, hD1⟩, hz, hk1⟩, stp⟩ := run T hT XT
  cases hoc
  rw [h0] at hz hk1
  obtain ⟨hP2, hD2⟩ := va_join Y.1 Y.2.1 isC isR hC1 hR1 hnR hdis hk1 (fun q h => hFc q h) hP1 hD1
  rw [h2] at hP2 hD2
  have hS2 : va_S A s.heap T'.heap (locs ++ L) := ⟨Nat.le_trans Y.2.2.1 (by rw [e1]; exact hz), fun q h1 h2 => by rw [e1, hk1 q (Nat.lt_of_lt_of_le h1 Y.2.2.1) (fun z => h2 (hFc q z))]; exact Y.2.2.2.1 q h1 h2, fun q hq => by
      rcases List.mem_append.mp hq with h | h
      · exact Y.2.2.2.2 q h
      · exact hFc _ (hL q h)⟩
  obtain ⟨t2, a1, b1⟩ := kk u q T'.heap (locs ++ L) hu ⟨by rw [e1]; exact hP2, hD2, hS2⟩ T' rfl XT'
  exact ⟨t2, stp t2 a1, b1⟩
def MLi (own : String) (idx : Nat) (y : MethodName) (cc : ByteArray) (nL n : Nat) : Prop := noMH y n ∧ y.name = "<init>" ∧ Cond.methodLink own idx y ∈ WG ∧ Cond.instanceMethod y ∈ WG ∧ Cond.initialized y.cls ∈ WG ∧ Cond.code y cc nL none ∈ WG
def MLin (own : String) (idx : Nat) (y : MethodName) (cc : ByteArray) (nL n : Nat) : Prop := noMH y n ∧ y.name = "<init>" ∧ (∃ host, Cond.methodLinkNest own idx y host ∈ NWs) ∧ Cond.instanceMethod y ∈ WG ∧ Cond.initialized y.cls ∈ WG ∧ Cond.code y cc nL none ∈ WG
theorem r_callI {S : Type} {idx n : Nat} {yc : MethodName} {ccc : ByteArray} {nLc : Nat} {rmc : Room} {b : Nat} {As : List Value} {wc : va_W} {M : Option S} {rv : S → Option Value} {wc' w2 : (Nat → Nat) → S → va_W} (X : rX G P cc nL own y ret A p s m args meth c) (Y : rY G A s ws H locs) (k : Nat) (hk : P[k]? = some (pc, .invokespecial idx, 3)) (hp : pc + 3 = pc') (F : MLi own idx yc ccc nLc n) (hC : CTA l G yc ccc nLc none rmc (.ref b :: As) wc M rv wc') (hne : M ≠ none) (hst : st = As.reverse ++ .ref b :: rest) (isC isR : List Nat) (hC1 : isC.map (fun i => ws[i]?) = wc.map some) (hR1 : isR.map (fun i => ws[i]?) = (isR.filterMap (fun i => ws[i]?)).map some) (hnd : va_nd isC = true ∧ va_nd isR = true) (hdis : dj isR isC = true) (h2 : ∀ q u, isR.filterMap (fun i => ws[i]?) ++ wc' q u = w2 q u) (hAs : As.length = n) (hrest : (rest.map fun v => v.category).sum ≤ 8) (hR : rmc.frames + 1 ≤ R.frames ∧ 8 + (nLc + 11) + rmc.locals ≤ R.locals) (hcs : cells + rmc.cells ≤ R.cells ∧ slots + rmc.slots ≤ R.slots) (hl : ls.size = nL)
    (kk : ∀ (u : S) (q : Nat → Nat) (H : Heap) (locs : List Loc), M = some u → rY G A s (w2 q u) H locs → W p l e R s m args below meth c H locs (cells + rmc.cells) (slots + rmc.slots) Q (F0 m pc' ls ((rv u).toList ++ rest))) : W p l e R s m args below meth c H locs cells slots Q (F0 m pc ls st) := by
  subst hp
  subst hst
  obtain ⟨hno, hy1, f1, f2, f4, f5⟩ := F
  exact run_ofA (l := l) X Y isC isR hC1 hR1 hnd.2 (dj_of hdis) h2 (va_runI X.1 (hC hne H.size) (cwI n X.1.2.2.2.2 (gi_cons f5) rfl rfl rfl (X.w f4) (X.w f1) (X.w f2) hy1 hno hR) ⟨gPc_blind, pre_of X Y isC hC1 hnd.1⟩ rfl hAs hl rfl (lv_room hrest) (X.d hk) hcs) kk
theorem r_callIN {S : Type} {idx n : Nat} {yc : MethodName} {ccc : ByteArray} {nLc : Nat} {rmc : Room} {b : Nat} {As : List Value} {wc : va_W} {M : Option S} {rv : S → Option Value} {wc' w2 : (Nat → Nat) → S → va_W} (X : rX G P cc nL own y ret A p s m args meth c) (Y : rY G A s ws H locs) (k : Nat) (hk : P[k]? = some (pc, .invokespecial idx, 3)) (hp : pc + 3 = pc') (F : MLin own idx yc ccc nLc n) (hC : CTA l G yc ccc nLc none rmc (.ref b :: As) wc M rv wc') (hne : M ≠ none) (hst : st = As.reverse ++ .ref b :: rest) (isC isR : List Nat) (hC1 : isC.map (fun i => ws[i]?) = wc.map some) (hR1 : isR.map (fun i => ws[i]?) = (isR.filterMap (fun i => ws[i]?)).map some) (hnd : va_nd isC = true ∧ va_nd isR = true) (hdis : dj isR isC = true) (h2 : ∀ q u, isR.filterMap (fun i => ws[i]?) ++ wc' q u = w2 q u) (hAs : As.length = n) (hrest : (rest.map fun v => v.category).sum ≤ 8) (hR : rmc.frames + 1 ≤ R.frames ∧ 8 + (nLc + 11) + rmc.locals ≤ R.locals) (hcs : cells + rmc.cells ≤ R.cells ∧ slots + rmc.slots ≤ R.slots) (hl : ls.size = nL)
    (kk : ∀ (u : S) (q : Nat → Nat) (H : Heap) (locs : List Loc), M = some u → rY G A s (w2 q u) H locs → W p l e R s m args below meth c H locs (cells + rmc.cells) (slots + rmc.slots) Q (F0 m pc' ls ((rv u).toList ++ rest))) : W p l e R s m args below meth c H locs cells slots Q (F0 m pc ls st) := by
  subst hp
  subst hst
  obtain ⟨hno, hy1, ⟨host, f1⟩, f2, f4, f5⟩ := F
  exact run_ofA (l := l) X Y isC isR hC1 hR1 hnd.2 (dj_of hdis) h2 (va_runIN (host := host) X.1 (hC hne H.size) ⟨va_cnB n X.1.2.2.2.2 (gi_cons f5) rfl rfl rfl (X.g.2.1.1 _ f1) (X.w f4) hno hR, hy1, X.w f2⟩ ⟨gPc_blind, pre_of X Y isC hC1 hnd.1⟩ rfl hAs hl rfl (lv_room hrest) (X.d hk) hcs) kk
end ALLOC
theorem imF_of (a b : Nat) : va_up (va_up (fun _ => none) ((0 : Int32)).toNatClampNeg (some a)) ((1 : Int32)).toNatClampNeg (some b) = imF a b := by
  funext j
  match j with
  | 0 => rfl
  | 1 => rfl
  | j + 2 => rfl

def AC0 : AC := (0, 0, (fun _ => 0))
def q_X0_init : Room := { frames := 2, cells := 1, slots := 288, locals := 60 }
set_option maxHeartbeats 40000000 in
set_option maxRecDepth 100000 in
theorem c_X0_init (l : Launch) (G : gT) (h : Nat) : CTA l G yX0_init cX0_init 1 none q_X0_init [.ref h] [(h, .inr (0, [.null, .int 0, .int 0]))] (some () : Option Unit) (fun _ => none) (fun q u => wAC G h (q 0) (0) (0) ((fun _ => 0))) := by
  refine CTA.of (P := PX0_init) (by decide) dPX0_init (Nat.le_of_ble_eq_true rfl) ?_
  intro p e s m args below meth c A Q ls hne X RT Y hl
  have hl : lv_has ls 1 [(0, .ref h)] := hl
  refine r_aload_n (pc' := 1) X hl 0 rfl rfl 0 rfl rfl ?_
  refine r_obj (pc' := 4) X 1 rfl rfl ⟨mw1, mw2, mw3⟩ hl.1 ⟨Nat.le_of_ble_eq_true rfl, Nat.le_of_ble_eq_true rfl⟩ ?_
  refine r_aload_n (pc' := 5) X hl 0 rfl rfl 2 rfl rfl ?_
  refine r_sipush (pc' := 8) X (288 : Int32) 3 rfl rfl rfl ?_
  refine r_newa (pc' := 10) X Y 4 rfl rfl mw4 288 ⟨by decide, by decide, by decide⟩ ⟨Nat.le_of_ble_eq_true rfl, Nat.le_of_ble_eq_true rfl⟩ (fun q1 H Y => ?_)
  refine r_putF (pc' := 13) (ws' := [(h, .inr (0, [.ref q1, .int 0, .int 0])), (q1, .inl (cyI G, 288, .inl (fun _ => 0)))]) X Y 5 rfl rfl fRX0_11 rfl (fun r hr => by cases hr; rfl) 0 rfl rfl rfl (Nat.le_of_ble_eq_true rfl) rfl (fun H locs Y => ?_)
  exact RT () (fun i => match i with  | _ => q1) _ [0, 1] _ _ _ _ _ rfl (Or.inr (Or.inr (Or.inr (Or.inl ⟨rfl, rfl, rfl⟩)))) (X.d (k := 6) rfl) Y rfl rfl
def AS0 : AS := (0, (fun _ => 0))
def q_X1_init : Room := { frames := 2, cells := 1, slots := 16, locals := 60 }
set_option maxHeartbeats 40000000 in
set_option maxRecDepth 100000 in
theorem c_X1_init (l : Launch) (G : gT) (h : Nat) : CTA l G yX1_init cX1_init 1 none q_X1_init [.ref h] [(h, .inr (1, [.null, .int 0]))] (some () : Option Unit) (fun _ => none) (fun q u => wAS G h (q 0) (0) ((fun _ => 0))) := by
  refine CTA.of (P := PX1_init) (by decide) dPX1_init (Nat.le_of_ble_eq_true rfl) ?_
  intro p e s m args below meth c A Q ls hne X RT Y hl
  have hl : lv_has ls 1 [(0, .ref h)] := hl
  refine r_aload_n (pc' := 1) X hl 0 rfl rfl 0 rfl rfl ?_
  refine r_obj (pc' := 4) X 1 rfl rfl ⟨mw40, mw2, mw3⟩ hl.1 ⟨Nat.le_of_ble_eq_true rfl, Nat.le_of_ble_eq_true rfl⟩ ?_
  refine r_aload_n (pc' := 5) X hl 0 rfl rfl 2 rfl rfl ?_
  refine r_bipush (pc' := 7) X (16 : Int32) 3 rfl rfl rfl ?_
  refine r_newa (pc' := 9) X Y 4 rfl rfl mw4 16 ⟨by decide, by decide, by decide⟩ ⟨Nat.le_of_ble_eq_true rfl, Nat.le_of_ble_eq_true rfl⟩ (fun q1 H Y => ?_)
  refine r_putF (pc' := 12) (ws' := [(h, .inr (1, [.ref q1, .int 0])), (q1, .inl (cyI G, 16, .inl (fun _ => 0)))]) X Y 5 rfl rfl fRX1_11 rfl (fun r hr => by cases hr; rfl) 0 rfl rfl rfl (Nat.le_of_ble_eq_true rfl) rfl (fun H locs Y => ?_)
  exact RT () (fun i => match i with  | _ => q1) _ [0, 1] _ _ _ _ _ rfl (Or.inr (Or.inr (Or.inr (Or.inl ⟨rfl, rfl, rfl⟩)))) (X.d (k := 6) rfl) Y rfl rfl
def BD0 : BD := (0, 0, 0, 0, 0, 0, (-1000000 : Int32), (fun _ => 0), (fun _ => 0), (fun _ => 0), (fun _ => 0), (fun _ => 0), (fun _ => 0))
def q_X2_init : Room := { frames := 2, cells := 6, slots := 56, locals := 60 }
set_option maxHeartbeats 40000000 in
set_option maxRecDepth 100000 in
theorem c_X2_init (l : Launch) (G : gT) (h : Nat) : CTA l G yX2_init cX2_init 1 none q_X2_init [.ref h] [(h, .inr (2, [.int 0, .int 0, .int 0, .int 0, .int 0, .int 0, .int 0, .null, .null, .null, .null, .null, .null]))] (some () : Option Unit) (fun _ => none) (fun q u => wBD G h (q 0) (q 1) (q 2) (q 3) (q 4) (q 5) (0) (0) (0) (0) (0) (0) ((-1000000 : Int32)) ((fun _ => 0)) ((fun _ => 0)) ((fun _ => 0)) ((fun _ => 0)) ((fun _ => 0)) ((fun _ => 0))) := by
  refine CTA.of (P := PX2_init) (by decide) dPX2_init (Nat.le_of_ble_eq_true rfl) ?_
  intro p e s m args below meth c A Q ls hne X RT Y hl
  have hl : lv_has ls 1 [(0, .ref h)] := hl
  refine r_aload_n (pc' := 1) X hl 0 rfl rfl 0 rfl rfl ?_
  refine r_obj (pc' := 4) X 1 rfl rfl ⟨mw62, mw2, mw3⟩ hl.1 ⟨Nat.le_of_ble_eq_true rfl, Nat.le_of_ble_eq_true rfl⟩ ?_
  refine r_aload_n (pc' := 5) X hl 0 rfl rfl 2 rfl rfl ?_
  refine r_ldc (pc' := 7) X mw63 3 rfl rfl ?_
  refine r_put (pc' := 10) (ws' := [(h, .inr (2, [.int 0, .int 0, .int 0, .int 0, .int 0, .int 0, .int (-1000000 : Int32), .null, .null, .null, .null, .null, .null]))]) X Y 4 rfl rfl fRX2_10 0 rfl rfl rfl (Nat.le_of_ble_eq_true rfl) rfl (fun H locs Y => ?_)
  refine r_aload_n (pc' := 11) X hl 0 rfl rfl 5 rfl rfl ?_
  refine r_bipush (pc' := 13) X (8 : Int32) 6 rfl rfl rfl ?_
  refine r_newa (pc' := 15) X Y 7 rfl rfl mw4 8 ⟨by decide, by decide, by decide⟩ ⟨Nat.le_of_ble_eq_true rfl, Nat.le_of_ble_eq_true rfl⟩ (fun q1 H Y => ?_)
  refine r_putF (pc' := 18) (ws' := [(h, .inr (2, [.int 0, .int 0, .int 0, .int 0, .int 0, .int 0, .int (-1000000 : Int32), .ref q1, .null, .null, .null, .null, .null])), (q1, .inl (cyI G, 8, .inl (fun _ => 0)))]) X Y 8 rfl rfl fRX2_16 rfl (fun r hr => by cases hr; rfl) 0 rfl rfl rfl (Nat.le_of_ble_eq_true rfl) rfl (fun H locs Y => ?_)
  refine r_aload_n (pc' := 19) X hl 0 rfl rfl 9 rfl rfl ?_
  refine r_bipush (pc' := 21) X (8 : Int32) 10 rfl rfl rfl ?_
  refine r_newa (pc' := 23) X Y 11 rfl rfl mw4 8 ⟨by decide, by decide, by decide⟩ ⟨Nat.le_of_ble_eq_true rfl, Nat.le_of_ble_eq_true rfl⟩ (fun q2 H Y => ?_)
  refine r_putF (pc' := 26) (ws' := [(h, .inr (2, [.int 0, .int 0, .int 0, .int 0, .int 0, .int 0, .int (-1000000 : Int32), .ref q1, .ref q2, .null, .null, .null, .null])), (q1, .inl (cyI G, 8, .inl (fun _ => 0))), (q2, .inl (cyI G, 8, .inl (fun _ => 0)))]) X Y 12 rfl rfl fRX2_20 rfl (fun r hr => by cases hr; rfl) 0 rfl rfl rfl (Nat.le_of_ble_eq_true rfl) rfl (fun H locs Y => ?_)
  refine r_aload_n (pc' := 27) X hl 0 rfl rfl 13 rfl rfl ?_
  refine r_bipush (pc' := 29) X (8 : Int32) 14 rfl rfl rfl ?_
  refine r_newa (pc' := 31) X Y 15 rfl rfl mw4 8 ⟨by decide, by decide, by decide⟩ ⟨Nat.le_of_ble_eq_true rfl, Nat.le_of_ble_eq_true rfl⟩ (fun q3 H Y => ?_)
  refine r_putF (pc' := 34) (ws' := [(h, .inr (2, [.int 0, .int 0, .int 0, .int 0, .int 0, .int 0, .int (-1000000 : Int32), .ref q1, .ref q2, .ref q3, .null, .null, .null])), (q1, .inl (cyI G, 8, .inl (fun _ => 0))), (q2, .inl (cyI G, 8, .inl (fun _ => 0))), (q3, .inl (cyI G, 8, .inl (fun _ => 0)))]) X Y 16 rfl rfl fRX2_23 rfl (fun r hr => by cases hr; rfl) 0 rfl rfl rfl (Nat.le_of_ble_eq_true rfl) rfl (fun H locs Y => ?_)
  refine r_aload_n (pc' := 35) X hl 0 rfl rfl 17 rfl rfl ?_
  refine r_bipush (pc' := 37) X (28 : Int32) 18 rfl rfl rfl ?_
  refine r_newa (pc' := 39) X Y 19 rfl rfl mw4 28 ⟨by decide, by decide, by decide⟩ ⟨Nat.le_of_ble_eq_true rfl, Nat.le_of_ble_eq_true rfl⟩ (fun q4 H Y => ?_)
  refine r_putF (pc' := 42) (ws' := [(h, .inr (2, [.int 0, .int 0, .int 0, .int 0, .int 0, .int 0, .int (-1000000 : Int32), .ref q1, .ref q2, .ref q3, .ref q4, .null, .null])), (q1, .inl (cyI G, 8, .inl (fun _ => 0))), (q2, .inl (cyI G, 8, .inl (fun _ => 0))), (q3, .inl (cyI G, 8, .inl (fun _ => 0))), (q4, .inl (cyI G, 28, .inl (fun _ => 0)))]) X Y 20 rfl rfl fRX2_26 rfl (fun r hr => by cases hr; rfl) 0 rfl rfl rfl (Nat.le_of_ble_eq_true rfl) rfl (fun H locs Y => ?_)
  refine r_aload_n (pc' := 43) X hl 0 rfl rfl 21 rfl rfl ?_
  refine r_iconst (pc' := 44) X (2 : Int32) 22 rfl rfl rfl ?_
  refine r_newa (pc' := 46) X Y 23 rfl rfl mw4 2 ⟨by decide, by decide, by decide⟩ ⟨Nat.le_of_ble_eq_true rfl, Nat.le_of_ble_eq_true rfl⟩ (fun q5 H Y => ?_)
  refine r_putF (pc' := 49) (ws' := [(h, .inr (2, [.int 0, .int 0, .int 0, .int 0, .int 0, .int 0, .int (-1000000 : Int32), .ref q1, .ref q2, .ref q3, .ref q4, .ref q5, .null])), (q1, .inl (cyI G, 8, .inl (fun _ => 0))), (q2, .inl (cyI G, 8, .inl (fun _ => 0))), (q3, .inl (cyI G, 8, .inl (fun _ => 0))), (q4, .inl (cyI G, 28, .inl (fun _ => 0))), (q5, .inl (cyI G, 2, .inl (fun _ => 0)))]) X Y 24 rfl rfl fRX2_29 rfl (fun r hr => by cases hr; rfl) 0 rfl rfl rfl (Nat.le_of_ble_eq_true rfl) rfl (fun H locs Y => ?_)
  refine r_aload_n (pc' := 50) X hl 0 rfl rfl 25 rfl rfl ?_
  refine r_iconst (pc' := 51) X (2 : Int32) 26 rfl rfl rfl ?_
  refine r_newa (pc' := 53) X Y 27 rfl rfl mw4 2 ⟨by decide, by decide, by decide⟩ ⟨Nat.le_of_ble_eq_true rfl, Nat.le_of_ble_eq_true rfl⟩ (fun q6 H Y => ?_)
  refine r_putF (pc' := 56) (ws' := [(h, .inr (2, [.int 0, .int 0, .int 0, .int 0, .int 0, .int 0, .int (-1000000 : Int32), .ref q1, .ref q2, .ref q3, .ref q4, .ref q5, .ref q6])), (q1, .inl (cyI G, 8, .inl (fun _ => 0))), (q2, .inl (cyI G, 8, .inl (fun _ => 0))), (q3, .inl (cyI G, 8, .inl (fun _ => 0))), (q4, .inl (cyI G, 28, .inl (fun _ => 0))), (q5, .inl (cyI G, 2, .inl (fun _ => 0))), (q6, .inl (cyI G, 2, .inl (fun _ => 0)))]) X Y 28 rfl rfl fRX2_32 rfl (fun r hr => by cases hr; rfl) 0 rfl rfl rfl (Nat.le_of_ble_eq_true rfl) rfl (fun H locs Y => ?_)
  exact RT () (fun i => match i with | 0 => q1 | 1 => q2 | 2 => q3 | 3 => q4 | 4 => q5 | _ => q6) _ [0, 1, 2, 3, 4, 5, 6] _ _ _ _ _ rfl (Or.inr (Or.inr (Or.inr (Or.inl ⟨rfl, rfl, rfl⟩)))) (X.d (k := 29) rfl) Y rfl rfl
def RW0 : RW := ((upd (upd (upd (upd (upd (upd (upd (upd (fun _ => 0) ((0 : Int32)).toNatClampNeg (-1 : Int32)) ((1 : Int32)).toNatClampNeg (-1 : Int32)) ((2 : Int32)).toNatClampNeg (-1 : Int32)) ((3 : Int32)).toNatClampNeg (-1 : Int32)) ((4 : Int32)).toNatClampNeg (-1 : Int32)) ((5 : Int32)).toNatClampNeg (-1 : Int32)) ((6 : Int32)).toNatClampNeg (-1 : Int32)) ((7 : Int32)).toNatClampNeg (-1 : Int32)), (fun _ => 0), (fun _ => 0))
def q_X5_init : Room := { frames := 2, cells := 3, slots := 336, locals := 60 }
set_option maxHeartbeats 40000000 in
set_option maxRecDepth 100000 in
theorem c_X5_init (l : Launch) (G : gT) (h : Nat) : CTA l G yX5_init cX5_init 2 none q_X5_init [.ref h] [(h, .inr (5, [.null, .null, .null]))] (some () : Option Unit) (fun _ => none) (fun q u => wRW G h (q 0) (q 1) (q 2) ((upd (upd (upd (upd (upd (upd (upd (upd (fun _ => 0) ((0 : Int32)).toNatClampNeg (-1 : Int32)) ((1 : Int32)).toNatClampNeg (-1 : Int32)) ((2 : Int32)).toNatClampNeg (-1 : Int32)) ((3 : Int32)).toNatClampNeg (-1 : Int32)) ((4 : Int32)).toNatClampNeg (-1 : Int32)) ((5 : Int32)).toNatClampNeg (-1 : Int32)) ((6 : Int32)).toNatClampNeg (-1 : Int32)) ((7 : Int32)).toNatClampNeg (-1 : Int32))) ((fun _ => 0)) ((fun _ => 0))) := by
  refine CTA.of (P := PX5_init) (by decide) dPX5_init (Nat.le_of_ble_eq_true rfl) ?_
  intro p e s m args below meth c A Q ls hne X RT Y hl
  have hl : lv_has ls 2 [(0, .ref h)] := hl
  refine r_aload_n (pc' := 1) X hl 0 rfl rfl 0 rfl rfl ?_
  refine r_obj (pc' := 4) X 1 rfl rfl ⟨mw260, mw2, mw3⟩ hl.1 ⟨Nat.le_of_ble_eq_true rfl, Nat.le_of_ble_eq_true rfl⟩ ?_
  refine r_aload_n (pc' := 5) X hl 0 rfl rfl 2 rfl rfl ?_
  refine r_bipush (pc' := 7) X (8 : Int32) 3 rfl rfl rfl ?_
  refine r_newa (pc' := 9) X Y 4 rfl rfl mw4 8 ⟨by decide, by decide, by decide⟩ ⟨Nat.le_of_ble_eq_true rfl, Nat.le_of_ble_eq_true rfl⟩ (fun q1 H Y => ?_)
  refine r_putF (pc' := 12) (ws' := [(h, .inr (5, [.ref q1, .null, .null])), (q1, .inl (cyI G, 8, .inl (fun _ => 0)))]) X Y 5 rfl rfl fRX5_11 rfl (fun r hr => by cases hr; rfl) 0 rfl rfl rfl (Nat.le_of_ble_eq_true rfl) rfl (fun H locs Y => ?_)
  refine r_aload_n (pc' := 13) X hl 0 rfl rfl 6 rfl rfl ?_
  refine r_bipush (pc' := 15) X (8 : Int32) 7 rfl rfl rfl ?_
  refine r_newa (pc' := 17) X Y 8 rfl rfl mw4 8 ⟨by decide, by decide, by decide⟩ ⟨Nat.le_of_ble_eq_true rfl, Nat.le_of_ble_eq_true rfl⟩ (fun q2 H Y => ?_)
  refine r_putF (pc' := 20) (ws' := [(h, .inr (5, [.ref q1, .ref q2, .null])), (q1, .inl (cyI G, 8, .inl (fun _ => 0))), (q2, .inl (cyI G, 8, .inl (fun _ => 0)))]) X Y 9 rfl rfl fRX5_15 rfl (fun r hr => by cases hr; rfl) 0 rfl rfl rfl (Nat.le_of_ble_eq_true rfl) rfl (fun H locs Y => ?_)
  refine r_aload_n (pc' := 21) X hl 0 rfl rfl 10 rfl rfl ?_
  refine r_sipush (pc' := 24) X (320 : Int32) 11 rfl rfl rfl ?_
  refine r_newa (pc' := 26) X Y 12 rfl rfl mw4 320 ⟨by decide, by decide, by decide⟩ ⟨Nat.le_of_ble_eq_true rfl, Nat.le_of_ble_eq_true rfl⟩ (fun q3 H Y => ?_)
  refine r_putF (pc' := 29) (ws' := [(h, .inr (5, [.ref q1, .ref q2, .ref q3])), (q1, .inl (cyI G, 8, .inl (fun _ => 0))), (q2, .inl (cyI G, 8, .inl (fun _ => 0))), (q3, .inl (cyI G, 320, .inl (fun _ => 0)))]) X Y 13 rfl rfl fRX5_18 rfl (fun r hr => by cases hr; rfl) 0 rfl rfl rfl (Nat.le_of_ble_eq_true rfl) rfl (fun H locs Y => ?_)
  refine r_iconst (pc' := 30) X (0 : Int32) 14 rfl rfl rfl ?_
  refine r_istore_n (pc' := 31) (L' := [(1, .int (0 : Int32)), (0, .ref h)]) X hl rfl 15 rfl rfl (by decide) rfl (fun ls hl => ?_)
  refine r_iload_n (pc' := 32) X hl 0 rfl rfl 16 rfl rfl ?_
  refine r_bipush (pc' := 34) X (8 : Int32) 17 rfl rfl rfl ?_
  refine r_icmp_ge (pc' := 37) X 50 18 rfl rfl (by decide) (fun z => absurd z (by decide)) (fun _ => ?_)
  refine r_aload_n (pc' := 38) X hl 1 rfl rfl 19 rfl rfl ?_
  refine r_get (pc' := 41) (v := .ref q1) X Y 20 rfl rfl fRX5_11 0 rfl rfl ?_
  refine r_iload_n (pc' := 42) X hl 0 rfl rfl 21 rfl rfl ?_
  refine r_iconst (pc' := 43) X (-1 : Int32) 22 rfl rfl rfl ?_
  refine r_iast (pc' := 44) (ws' := [(h, .inr (5, [.ref q1, .ref q2, .ref q3])), (q1, .inl (cyI G, 8, .inl (upd (fun _ => 0) ((0 : Int32)).toNatClampNeg (-1 : Int32)))), (q2, .inl (cyI G, 8, .inl (fun _ => 0))), (q3, .inl (cyI G, 320, .inl (fun _ => 0)))]) X Y 23 rfl rfl 1 rfl (vin rfl) rfl (fun H locs Y => ?_)
  refine r_iinc (pc' := 47) (L' := [(1, .int (1 : Int32)), (0, .ref h)]) X (1 : Int32) hl 0 rfl rfl 24 rfl rfl (by decide) rfl (fun ls hl => ?_)
  refine r_goto X 31 25 rfl (by decide) ?_
  refine r_iload_n (pc' := 32) X hl 0 rfl rfl 16 rfl rfl ?_
  refine r_bipush (pc' := 34) X (8 : Int32) 17 rfl rfl rfl ?_
  refine r_icmp_ge (pc' := 37) X 50 18 rfl rfl (by decide) (fun z => absurd z (by decide)) (fun _ => ?_)
  refine r_aload_n (pc' := 38) X hl 1 rfl rfl 19 rfl rfl ?_
  refine r_get (pc' := 41) (v := .ref q1) X Y 20 rfl rfl fRX5_11 0 rfl rfl ?_
  refine r_iload_n (pc' := 42) X hl 0 rfl rfl 21 rfl rfl ?_
  refine r_iconst (pc' := 43) X (-1 : Int32) 22 rfl rfl rfl ?_
  refine r_iast (pc' := 44) (ws' := [(h, .inr (5, [.ref q1, .ref q2, .ref q3])), (q1, .inl (cyI G, 8, .inl (upd (upd (fun _ => 0) ((0 : Int32)).toNatClampNeg (-1 : Int32)) ((1 : Int32)).toNatClampNeg (-1 : Int32)))), (q2, .inl (cyI G, 8, .inl (fun _ => 0))), (q3, .inl (cyI G, 320, .inl (fun _ => 0)))]) X Y 23 rfl rfl 1 rfl (vin rfl) rfl (fun H locs Y => ?_)
  refine r_iinc (pc' := 47) (L' := [(1, .int (2 : Int32)), (0, .ref h)]) X (2 : Int32) hl 0 rfl rfl 24 rfl rfl (by decide) rfl (fun ls hl => ?_)
  refine r_goto X 31 25 rfl (by decide) ?_
  refine r_iload_n (pc' := 32) X hl 0 rfl rfl 16 rfl rfl ?_
  refine r_bipush (pc' := 34) X (8 : Int32) 17 rfl rfl rfl ?_
  refine r_icmp_ge (pc' := 37) X 50 18 rfl rfl (by decide) (fun z => absurd z (by decide)) (fun _ => ?_)
  refine r_aload_n (pc' := 38) X hl 1 rfl rfl 19 rfl rfl ?_
  refine r_get (pc' := 41) (v := .ref q1) X Y 20 rfl rfl fRX5_11 0 rfl rfl ?_
  refine r_iload_n (pc' := 42) X hl 0 rfl rfl 21 rfl rfl ?_
  refine r_iconst (pc' := 43) X (-1 : Int32) 22 rfl rfl rfl ?_
  refine r_iast (pc' := 44) (ws' := [(h, .inr (5, [.ref q1, .ref q2, .ref q3])), (q1, .inl (cyI G, 8, .inl (upd (upd (upd (fun _ => 0) ((0 : Int32)).toNatClampNeg (-1 : Int32)) ((1 : Int32)).toNatClampNeg (-1 : Int32)) ((2 : Int32)).toNatClampNeg (-1 : Int32)))), (q2, .inl (cyI G, 8, .inl (fun _ => 0))), (q3, .inl (cyI G, 320, .inl (fun _ => 0)))]) X Y 23 rfl rfl 1 rfl (vin rfl) rfl (fun H locs Y => ?_)
  refine r_iinc (pc' := 47) (L' := [(1, .int (3 : Int32)), (0, .ref h)]) X (3 : Int32) hl 0 rfl rfl 24 rfl rfl (by decide) rfl (fun ls hl => ?_)
  refine r_goto X 31 25 rfl (by decide) ?_
  refine r_iload_n (pc' := 32) X hl 0 rfl rfl 16 rfl rfl ?_
  refine r_bipush (pc' := 34) X (8 : Int32) 17 rfl rfl rfl ?_
  refine r_icmp_ge (pc' := 37) X 50 18 rfl rfl (by decide) (fun z => absurd z (by decide)) (fun _ => ?_)
  refine r_aload_n (pc' := 38) X hl 1 rfl rfl 19 rfl rfl ?_
  refine r_get (pc' := 41) (v := .ref q1) X Y 20 rfl rfl fRX5_11 0 rfl rfl ?_
  refine r_iload_n (pc' := 42) X hl 0 rfl rfl 21 rfl rfl ?_
  refine r_iconst (pc' := 43) X (-1 : Int32) 22 rfl rfl rfl ?_
  refine r_iast (pc' := 44) (ws' := [(h, .inr (5, [.ref q1, .ref q2, .ref q3])), (q1, .inl (cyI G, 8, .inl (upd (upd (upd (upd (fun _ => 0) ((0 : Int32)).toNatClampNeg (-1 : Int32)) ((1 : Int32)).toNatClampNeg (-1 : Int32)) ((2 : Int32)).toNatClampNeg (-1 : Int32)) ((3 : Int32)).toNatClampNeg (-1 : Int32)))), (q2, .inl (cyI G, 8, .inl (fun _ => 0))), (q3, .inl (cyI G, 320, .inl (fun _ => 0)))]) X Y 23 rfl rfl 1 rfl (vin rfl) rfl (fun H locs Y => ?_)
  refine r_iinc (pc' := 47) (L' := [(1, .int (4 : Int32)), (0, .ref h)]) X (4 : Int32) hl 0 rfl rfl 24 rfl rfl (by decide) rfl (fun ls hl => ?_)
  refine r_goto X 31 25 rfl (by decide) ?_
  refine r_iload_n (pc' := 32) X hl 0 rfl rfl 16 rfl rfl ?_
  refine r_bipush (pc' := 34) X (8 : Int32) 17 rfl rfl rfl ?_
  refine r_icmp_ge (pc' := 37) X 50 18 rfl rfl (by decide) (fun z => absurd z (by decide)) (fun _ => ?_)
  refine r_aload_n (pc' := 38) X hl 1 rfl rfl 19 rfl rfl ?_
  refine r_get (pc' := 41) (v := .ref q1) X Y 20 rfl rfl fRX5_11 0 rfl rfl ?_
  refine r_iload_n (pc' := 42) X hl 0 rfl rfl 21 rfl rfl ?_
  refine r_iconst (pc' := 43) X (-1 : Int32) 22 rfl rfl rfl ?_
  refine r_iast (pc' := 44) (ws' := [(h, .inr (5, [.ref q1, .ref q2, .ref q3])), (q1, .inl (cyI G, 8, .inl (upd (upd (upd (upd (upd (fun _ => 0) ((0 : Int32)).toNatClampNeg (-1 : Int32)) ((1 : Int32)).toNatClampNeg (-1 : Int32)) ((2 : Int32)).toNatClampNeg (-1 : Int32)) ((3 : Int32)).toNatClampNeg (-1 : Int32)) ((4 : Int32)).toNatClampNeg (-1 : Int32)))), (q2, .inl (cyI G, 8, .inl (fun _ => 0))), (q3, .inl (cyI G, 320, .inl (fun _ => 0)))]) X Y 23 rfl rfl 1 rfl (vin rfl) rfl (fun H locs Y => ?_)
  refine r_iinc (pc' := 47) (L' := [(1, .int (5 : Int32)), (0, .ref h)]) X (5 : Int32) hl 0 rfl rfl 24 rfl rfl (by decide) rfl (fun ls hl => ?_)
  refine r_goto X 31 25 rfl (by decide) ?_
  refine r_iload_n (pc' := 32) X hl 0 rfl rfl 16 rfl rfl ?_
  refine r_bipush (pc' := 34) X (8 : Int32) 17 rfl rfl rfl ?_
  refine r_icmp_ge (pc' := 37) X 50 18 rfl rfl (by decide) (fun z => absurd z (by decide)) (fun _ => ?_)
  refine r_aload_n (pc' := 38) X hl 1 rfl rfl 19 rfl rfl ?_
  refine r_get (pc' := 41) (v := .ref q1) X Y 20 rfl rfl fRX5_11 0 rfl rfl ?_
  refine r_iload_n (pc' := 42) X hl 0 rfl rfl 21 rfl rfl ?_
  refine r_iconst (pc' := 43) X (-1 : Int32) 22 rfl rfl rfl ?_
  refine r_iast (pc' := 44) (ws' := [(h, .inr (5, [.ref q1, .ref q2, .ref q3])), (q1, .inl (cyI G, 8, .inl (upd (upd (upd (upd (upd (upd (fun _ => 0) ((0 : Int32)).toNatClampNeg (-1 : Int32)) ((1 : Int32)).toNatClampNeg (-1 : Int32)) ((2 : Int32)).toNatClampNeg (-1 : Int32)) ((3 : Int32)).toNatClampNeg (-1 : Int32)) ((4 : Int32)).toNatClampNeg (-1 : Int32)) ((5 : Int32)).toNatClampNeg (-1 : Int32)))), (q2, .inl (cyI G, 8, .inl (fun _ => 0))), (q3, .inl (cyI G, 320, .inl (fun _ => 0)))]) X Y 23 rfl rfl 1 rfl (vin rfl) rfl (fun H locs Y => ?_)
  refine r_iinc (pc' := 47) (L' := [(1, .int (6 : Int32)), (0, .ref h)]) X (6 : Int32) hl 0 rfl rfl 24 rfl rfl (by decide) rfl (fun ls hl => ?_)
  refine r_goto X 31 25 rfl (by decide) ?_
  refine r_iload_n (pc' := 32) X hl 0 rfl rfl 16 rfl rfl ?_
  refine r_bipush (pc' := 34) X (8 : Int32) 17 rfl rfl rfl ?_
  refine r_icmp_ge (pc' := 37) X 50 18 rfl rfl (by decide) (fun z => absurd z (by decide)) (fun _ => ?_)
  refine r_aload_n (pc' := 38) X hl 1 rfl rfl 19 rfl rfl ?_
  refine r_get (pc' := 41) (v := .ref q1) X Y 20 rfl rfl fRX5_11 0 rfl rfl ?_
  refine r_iload_n (pc' := 42) X hl 0 rfl rfl 21 rfl rfl ?_
  refine r_iconst (pc' := 43) X (-1 : Int32) 22 rfl rfl rfl ?_
  refine r_iast (pc' := 44) (ws' := [(h, .inr (5, [.ref q1, .ref q2, .ref q3])), (q1, .inl (cyI G, 8, .inl (upd (upd (upd (upd (upd (upd (upd (fun _ => 0) ((0 : Int32)).toNatClampNeg (-1 : Int32)) ((1 : Int32)).toNatClampNeg (-1 : Int32)) ((2 : Int32)).toNatClampNeg (-1 : Int32)) ((3 : Int32)).toNatClampNeg (-1 : Int32)) ((4 : Int32)).toNatClampNeg (-1 : Int32)) ((5 : Int32)).toNatClampNeg (-1 : Int32)) ((6 : Int32)).toNatClampNeg (-1 : Int32)))), (q2, .inl (cyI G, 8, .inl (fun _ => 0))), (q3, .inl (cyI G, 320, .inl (fun _ => 0)))]) X Y 23 rfl rfl 1 rfl (vin rfl) rfl (fun H locs Y => ?_)
  refine r_iinc (pc' := 47) (L' := [(1, .int (7 : Int32)), (0, .ref h)]) X (7 : Int32) hl 0 rfl rfl 24 rfl rfl (by decide) rfl (fun ls hl => ?_)
  refine r_goto X 31 25 rfl (by decide) ?_
  refine r_iload_n (pc' := 32) X hl 0 rfl rfl 16 rfl rfl ?_
  refine r_bipush (pc' := 34) X (8 : Int32) 17 rfl rfl rfl ?_
  refine r_icmp_ge (pc' := 37) X 50 18 rfl rfl (by decide) (fun z => absurd z (by decide)) (fun _ => ?_)
  refine r_aload_n (pc' := 38) X hl 1 rfl rfl 19 rfl rfl ?_
  refine r_get (pc' := 41) (v := .ref q1) X Y 20 rfl rfl fRX5_11 0 rfl rfl ?_
  refine r_iload_n (pc' := 42) X hl 0 rfl rfl 21 rfl rfl ?_
  refine r_iconst (pc' := 43) X (-1 : Int32) 22 rfl rfl rfl ?_
  refine r_iast (pc' := 44) (ws' := [(h, .inr (5, [.ref q1, .ref q2, .ref q3])), (q1, .inl (cyI G, 8, .inl (upd (upd (upd (upd (upd (upd (upd (upd (fun _ => 0) ((0 : Int32)).toNatClampNeg (-1 : Int32)) ((1 : Int32)).toNatClampNeg (-1 : Int32)) ((2 : Int32)).toNatClampNeg (-1 : Int32)) ((3 : Int32)).toNatClampNeg (-1 : Int32)) ((4 : Int32)).toNatClampNeg (-1 : Int32)) ((5 : Int32)).toNatClampNeg (-1 : Int32)) ((6 : Int32)).toNatClampNeg (-1 : Int32)) ((7 : Int32)).toNatClampNeg (-1 : Int32)))), (q2, .inl (cyI G, 8, .inl (fun _ => 0))), (q3, .inl (cyI G, 320, .inl (fun _ => 0)))]) X Y 23 rfl rfl 1 rfl (vin rfl) rfl (fun H locs Y => ?_)
  refine r_iinc (pc' := 47) (L' := [(1, .int (8 : Int32)), (0, .ref h)]) X (8 : Int32) hl 0 rfl rfl 24 rfl rfl (by decide) rfl (fun ls hl => ?_)
  refine r_goto X 31 25 rfl (by decide) ?_
  refine r_iload_n (pc' := 32) X hl 0 rfl rfl 16 rfl rfl ?_
  refine r_bipush (pc' := 34) X (8 : Int32) 17 rfl rfl rfl ?_
  refine r_icmp_ge (pc' := 37) X 50 18 rfl rfl (by decide) (fun _ => ?_) (fun z => absurd (by decide) z)
  exact RT () (fun i => match i with | 0 => q1 | 1 => q2 | _ => q3) _ [0, 1, 2, 3] _ _ _ _ _ rfl (Or.inr (Or.inr (Or.inr (Or.inl ⟨rfl, rfl, rfl⟩)))) (X.d (k := 26) rfl) Y rfl rfl
def TP0 : TP := 0
def q_X6_init : Room := { frames := 2, cells := 1, slots := 90, locals := 60 }
set_option maxHeartbeats 40000000 in
set_option maxRecDepth 100000 in
theorem c_X6_init (l : Launch) (G : gT) (h : Nat) : CTA l G yX6_init cX6_init 1 none q_X6_init [.ref h] [(h, .inr (6, [.null, .int 0]))] (some () : Option Unit) (fun _ => none) (fun q u => wTP G h (q 0) (0) ++ (wIA G (q 0) 90 (fun _ => 0))) := by
  refine CTA.of (P := PX6_init) (by decide) dPX6_init (Nat.le_of_ble_eq_true rfl) ?_
  intro p e s m args below meth c A Q ls hne X RT Y hl
  have hl : lv_has ls 1 [(0, .ref h)] := hl
  refine r_aload_n (pc' := 1) X hl 0 rfl rfl 0 rfl rfl ?_
  refine r_obj (pc' := 4) X 1 rfl rfl ⟨mw283, mw2, mw3⟩ hl.1 ⟨Nat.le_of_ble_eq_true rfl, Nat.le_of_ble_eq_true rfl⟩ ?_
  refine r_aload_n (pc' := 5) X hl 0 rfl rfl 2 rfl rfl ?_
  refine r_bipush (pc' := 7) X (90 : Int32) 3 rfl rfl rfl ?_
  refine r_newa (pc' := 9) X Y 4 rfl rfl mw4 90 ⟨by decide, by decide, by decide⟩ ⟨Nat.le_of_ble_eq_true rfl, Nat.le_of_ble_eq_true rfl⟩ (fun q1 H Y => ?_)
  refine r_putF (pc' := 12) (ws' := [(h, .inr (6, [.ref q1, .int 0])), (q1, .inl (cyI G, 90, .inl (fun _ => 0)))]) X Y 5 rfl rfl fRX6_11 rfl (fun r hr => by cases hr; rfl) 0 rfl rfl rfl (Nat.le_of_ble_eq_true rfl) rfl (fun H locs Y => ?_)
  exact RT () (fun i => match i with  | _ => q1) _ [0, 1] _ _ _ _ _ rfl (Or.inr (Or.inr (Or.inr (Or.inl ⟨rfl, rfl, rfl⟩)))) (X.d (k := 6) rfl) Y rfl rfl
set_option maxRecDepth 20000 in
theorem nRX3_9 : NF RX3 9 2 13 [.int 0, .int 0, .int 0, .int 0, .int 0, .int 0, .int 0, .null, .null, .null, .null, .null, .null] := ⟨RX2, TX2, tyX2, rfl, inwsX20, tyX2_ok, mw150, mw151, mw30, by decide +kernel⟩
theorem iRX3_11 : MLin RX3 11 yX2_init cX2_init 1 0 := ⟨⟨by decide, by decide, by decide +kernel⟩, rfl, ⟨"TableFirms", nw33⟩, mw156, mw30, mw61⟩
def FS0 : FS := (-1000000 : Int32)
def q_X3_init : Room := { frames := 3, cells := 8, slots := 77, locals := 80 }
set_option maxHeartbeats 40000000 in
set_option maxRecDepth 100000 in
theorem c_X3_init (l : Launch) (G : gT) (h : Nat) : CTA l G yX3_init cX3_init 1 none q_X3_init [.ref h] [(h, .inr (3, [.null, .null, .int 0]))] (some () : Option Unit) (fun _ => none) (fun q u => wFS G h (q 0) (q 1) ((-1000000 : Int32)) ++ (wIA G (q 1) 8 (fun _ => 0) ++ (wBD G (q 0) (q 2) (q 3) (q 4) (q 5) (q 6) (q 7) (0) (0) (0) (0) (0) (0) ((-1000000 : Int32)) ((fun _ => 0)) ((fun _ => 0)) ((fun _ => 0)) ((fun _ => 0)) ((fun _ => 0)) ((fun _ => 0))))) := by
  refine CTA.of (P := PX3_init) (by decide) dPX3_init (Nat.le_of_ble_eq_true rfl) ?_
  intro p e s m args below meth c A Q ls hne X RT Y hl
  have hl : lv_has ls 1 [(0, .ref h)] := hl
  refine r_aload_n (pc' := 1) X hl 0 rfl rfl 0 rfl rfl ?_
  refine r_obj (pc' := 4) X 1 rfl rfl ⟨mw149, mw2, mw3⟩ hl.1 ⟨Nat.le_of_ble_eq_true rfl, Nat.le_of_ble_eq_true rfl⟩ ?_
  refine r_aload_n (pc' := 5) X hl 0 rfl rfl 2 rfl rfl ?_
  refine r_new (pc' := 8) X Y 3 rfl rfl nRX3_9 ⟨Nat.le_of_ble_eq_true rfl, Nat.le_of_ble_eq_true rfl⟩ (fun q1 H Y => ?_)
  refine r_dup (pc' := 9) X 4 rfl rfl rfl ?_
  refine r_callIN (pc' := 12) (As := []) (rest := [.ref q1, .ref h]) X Y 5 rfl rfl iRX3_11 (c_X2_init l G q1) (Option.some_ne_none _) rfl [1] [0] rfl rfl ⟨rfl, rfl⟩ rfl (w2 := fun p2 u3 => [(h, .inr (3, [.null, .null, .int 0]))] ++ (wBD G q1 (p2 0) (p2 1) (p2 2) (p2 3) (p2 4) (p2 5) (0) (0) (0) (0) (0) (0) ((-1000000 : Int32)) ((fun _ => 0)) ((fun _ => 0)) ((fun _ => 0)) ((fun _ => 0)) ((fun _ => 0)) ((fun _ => 0)))) (fun _ _ => rfl) rfl (Nat.le_of_ble_eq_true rfl) ⟨Nat.le_of_ble_eq_true rfl, Nat.le_of_ble_eq_true rfl⟩ ⟨Nat.le_of_ble_eq_true rfl, Nat.le_of_ble_eq_true rfl⟩ hl.1 (fun u3 p2 H locs huu3 Y => ?_)
  replace hl : lv_has ls 1 [(0, .ref h)] := hl
  show W p l e q_X3_init s m args below meth c H _ 7 69 Q (F0 m 12 ls [.ref q1, .ref h])
  refine r_putF (pc' := 15) (ws' := [(h, .inr (3, [.ref q1, .null, .int 0]))] ++ (wBD G q1 (p2 0) (p2 1) (p2 2) (p2 3) (p2 4) (p2 5) (0) (0) (0) (0) (0) (0) ((-1000000 : Int32)) ((fun _ => 0)) ((fun _ => 0)) ((fun _ => 0)) ((fun _ => 0)) ((fun _ => 0)) ((fun _ => 0)))) X Y 6 rfl rfl fRX3_12 rfl (fun r hr => by cases hr; rfl) 0 rfl rfl rfl (Nat.le_of_ble_eq_true rfl) rfl (fun H locs Y => ?_)
  refine r_aload_n (pc' := 16) X hl 0 rfl rfl 7 rfl rfl ?_
  refine r_bipush (pc' := 18) X (8 : Int32) 8 rfl rfl rfl ?_
  refine r_newa (pc' := 20) X Y 9 rfl rfl mw4 8 ⟨by decide, by decide, by decide⟩ ⟨Nat.le_of_ble_eq_true rfl, Nat.le_of_ble_eq_true rfl⟩ (fun q4 H Y => ?_)
  refine r_putF (pc' := 23) (ws' := [(h, .inr (3, [.ref q1, .ref q4, .int 0]))] ++ (wBD G q1 (p2 0) (p2 1) (p2 2) (p2 3) (p2 4) (p2 5) (0) (0) (0) (0) (0) (0) ((-1000000 : Int32)) ((fun _ => 0)) ((fun _ => 0)) ((fun _ => 0)) ((fun _ => 0)) ((fun _ => 0)) ((fun _ => 0)) ++ ([(q4, .inl (cyI G, 8, .inl (fun _ => 0)))]))) X Y 10 rfl rfl fRX3_18 rfl (fun r hr => by cases hr; rfl) 0 rfl rfl rfl (Nat.le_of_ble_eq_true rfl) rfl (fun H locs Y => ?_)
  refine r_aload_n (pc' := 24) X hl 0 rfl rfl 11 rfl rfl ?_
  refine r_ldc (pc' := 26) X mw154 12 rfl rfl ?_
  refine r_put (pc' := 29) (ws' := [(h, .inr (3, [.ref q1, .ref q4, .int (-1000000 : Int32)]))] ++ (wBD G q1 (p2 0) (p2 1) (p2 2) (p2 3) (p2 4) (p2 5) (0) (0) (0) (0) (0) (0) ((-1000000 : Int32)) ((fun _ => 0)) ((fun _ => 0)) ((fun _ => 0)) ((fun _ => 0)) ((fun _ => 0)) ((fun _ => 0)) ++ ([(q4, .inl (cyI G, 8, .inl (fun _ => 0)))]))) X Y 13 rfl rfl fRX3_23 0 rfl rfl rfl (Nat.le_of_ble_eq_true rfl) rfl (fun H locs Y => ?_)
  exact RT () (fun i => match i with | 0 => q1 | 1 => q4 | 2 => (p2 0) | 3 => (p2 1) | 4 => (p2 2) | 5 => (p2 3) | 6 => (p2 4) | _ => (p2 5)) _ [0, 8, 1, 2, 3, 4, 5, 6, 7] _ _ _ _ _ rfl (Or.inr (Or.inr (Or.inr (Or.inl ⟨rfl, rfl, rfl⟩)))) (X.d (k := 14) rfl) Y rfl rfl
