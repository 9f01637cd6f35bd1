
/-! ===== own rows over the kit's: a method's fixed part (rX), its moving part (rY), its contract (CT) ===== -/
abbrev gT : Type := va_G × (ClassId × ClassId) × (Nat × Nat × Nat)
def kx0 : Nat → Int32 := fun k => match k with
  | 0 => 0
  | 1 => 0
  | 2 => 1
  | 3 => 1
  | 4 => 0
  | _ => 4
def kx1 : Nat → Int32 := fun k => match k with
  | 0 => 10
  | 1 => 11
  | 2 => 12
  | 3 => 0
  | 4 => 13
  | _ => 14
def kx2 : Nat → Int32 := fun k => match k with
  | 0 => 20
  | 1 => 21
  | 2 => 24
  | 3 => 22
  | 4 => 23
  | _ => 0
abbrev cyI (G : gT) : ClassId := G.2.1.1
abbrev cyB (G : gT) : ClassId := G.2.1.2
abbrev tyG (G : gT) : List (ClassId × FieldType) := [(cyI G, .int), (cyB G, .object "TableFirms$Board")]
def gZ1 (C n : String) (k : Nat) (xs : Nat → Int32) (A : Nat → Prop) (U : State) (H : Heap) : Prop := va_Z C n "[I" (.ref k) A U H ∧ va_X k 6 xs U H ∧ k < H.size ∧ ¬ A k
theorem gZ1.to {C n : String} {k : Nat} {xs : Nat → Int32} {A B : Nat → Prop} {u U : State} {H H1 : Heap} (h : gZ1 C n k xs A u H) (hvm : u.vm.Alike U.vm) (hq : ∀ a : Nat, a < H.size → ¬ A a → H1[a]? = H[a]?) (hz : H.size ≤ H1.size) (hAB : ∀ q, B q → A q) : gZ1 C n k xs B U H1 :=
  ⟨((h.1.moved hvm).kept hq).narrow hAB, (h.2.1.moved hvm).kept (hq k h.2.2.1 h.2.2.2), Nat.lt_of_lt_of_le h.2.2.1 hz, fun z => h.2.2.2 (hAB k z)⟩
def gZ (G : gT) (A : Nat → Prop) (U : State) (H : Heap) : Prop := gZ1 "TableFirms" "KIND_ABOVE" G.2.2.1 kx0 A U H ∧ gZ1 "TableFirms$Asks" "SIZE_BODIES" G.2.2.2.1 kx1 A U H ∧ gZ1 "TableFirms$Asks" "MARK_BODIES" G.2.2.2.2 kx2 A U H
theorem gZ.to {G : gT} {A B : Nat → Prop} {u U : State} {H H1 : Heap} (h : gZ G A u H) (hvm : u.vm.Alike U.vm) (hq : ∀ a : Nat, a < H.size → ¬ A a → H1[a]? = H[a]?) (hz : H.size ≤ H1.size) (hAB : ∀ q, B q → A q) : gZ G B U H1 :=
  ⟨h.1.to hvm hq hz hAB, h.2.1.to hvm hq hz hAB, h.2.2.to hvm hq hz hAB⟩
def isNw : Cond → Bool
  | .fieldLinkNest _ _ _ _ _ _ => true
  | .methodLinkNest _ _ _ _ => true
  | _ => false
theorem NW_is : NWs.all isNw = true := by decide +kernel
def gN (U : State) : Prop := (∀ w ∈ NWs, va_Nw w U) ∧ va_AO "TableFirms$Board" U
theorem isNw_warm {w : Cond} (h : isNw w = true) {s U : State} (hW : s.WarmedH U.vm) (hZ : va_Nw w s) : va_Nw w U := by
  cases w <;> first | exact va_Nw.warmF hW hZ | exact va_Nw.warmM hW hZ | exact absurd h (by simp [isNw])
theorem isNw_same {w : Cond} (h : isNw w = true) {s U : State} (hW : s.vm = U.vm) (hZ : va_Nw w s) : va_Nw w U := by
  cases w <;> first | exact va_Nw.same rfl hW hZ | exact absurd h (by simp [isNw])
theorem gN.warm {s U : State} (h : gN s) (hW : s.WarmedH U.vm) : gN U := ⟨fun w hw => isNw_warm (List.all_eq_true.mp NW_is w hw) hW (h.1 w hw), h.2.moved hW.alike⟩
theorem gN.same {s U : State} (h : gN s) (hW : s.vm = U.vm) : gN U := ⟨fun w hw => isNw_same (List.all_eq_true.mp NW_is w hw) hW (h.1 w hw), h.2.moved (hW ▸ Vm.Alike.refl s.vm)⟩
def gOK (G : gT) (A : Nat → Prop) (U : State) (H : Heap) : Prop := va_K G.1 vwCl (tyG G) U ∧ gN U ∧ gZ G A U H
def gPc (G : gT) (av : List Value) (ws : va_W) (sz : Nat) : Array Value → State → Prop := va_Pc av (fun U => U.heap.size = sz ∧ gOK G (va_A ws sz) U U.heap ∧ va_P G.1 vwCl ws U.heap ∧ va_D (fun _ => True) ws)
def gQc {S : Type} (G : gT) (ws : va_W) (sz : Nat) (M : Option S) (rv : S → Option Value) (ws' : S → va_W) : Array Value → State → Outcome → State → Prop := fun _ st oc t => (∃ u : S, M = some u ∧ oc = .returned (rv u) ∧ va_P G.1 vwCl (ws' u) t.heap ∧ va_D (va_A ws sz) (ws' u)) ∧ va_F (va_A ws sz) st t
theorem gPc_blind {G : gT} {av : List Value} {ws : va_W} {sz : Nat} : FrameBlind (gPc G av ws sz) := fun a U g mk q => by
  obtain ⟨q0, q1, ⟨qK, qN, qZ⟩, qP, qD⟩ := q
  exact ⟨q0, q1, ⟨va_K.moved (u := U) (U := U.calling g mk a) (Vm.Alike.refl U.vm) qK, gN.same qN rfl, qZ.to (u := U) (U := U.calling g mk a) (Vm.Alike.refl U.vm) (fun _ _ _ => rfl) (Nat.le_refl _) (fun _ h => h)⟩, qP, qD⟩
/-- a method's contract: where its mirror M has an outcome, it returns with it -/
def CT {S : Type} (l : Launch) (G : gT) (y : MethodName) (cc : ByteArray) (nL : Nat) (ret : Option FieldType) (rm : Room) (av : List Value) (ws : va_W) (M : Option S) (rv : S → Option Value) (ws' : S → va_W) : Prop :=
  M ≠ none → ∀ sz : Nat, Met l y (Cond.code y cc nL ret :: WG) rm (gPc G av ws sz) (gQc G ws sz M rv ws') 0 0 (va_A ws sz)
def rX (G : gT) (P : List (Nat × Instr × Nat)) (cc : ByteArray) (nL : Nat) (own : String) (y : MethodName) (ret : Option FieldType) (A : Nat → Prop) (p : Program) (s : State) (m : MethodId) (args : Array Value) (meth : Method) (c : Code) : Prop :=
  CallFix p m c cc nL s args (Cond.code y cc nL ret :: WG) own ∧ (∀ q ∈ P, decode cc q.1 = .ok q.2) ∧ gOK G A s s.heap ∧ (∀ q : Nat, s.heap.size ≤ q → A q) ∧ meth.locks = false ∧ meth.sig.returnType = ret ∧ (y.name = "<init>" → meth.name = "<init>")
def rY (G : gT) (A : Nat → Prop) (s : State) (ws : va_W) (H : Heap) (locs : List Loc) : Prop := va_P G.1 vwCl ws H ∧ va_D A ws ∧ va_S A s.heap H locs
def okR (ret : Option FieldType) (ri : Instr) (v : Option Value) : Prop :=
  (ret = some .int ∧ ri = .ireturn ∧ ∃ x, v = some (.int x)) ∨ (ret = some .boolean ∧ ri = .ireturn ∧ ∃ x, v = some (.int x) ∧ narrow .boolean (.int x) = .int x) ∨ (ret = some .long ∧ ri = .lreturn ∧ ∃ x, v = some (.long x)) ∨ (ret = none ∧ ri = .return_ ∧ v = none) ∨ (∃ C, ret = some (.object C) ∧ ri = .areturn ∧ ∃ a, v = some (.ref a))
section ROWS
variable {l : Launch} {G : gT} {p : Program} {e : Env} {R : Room} {s : State} {m : MethodId} {args : Array Value} {below : List Frame} {meth : Method} {c : Code} {H : Heap} {locs : List Loc} {cells slots : Nat} {Q : State → Prop} {cc : ByteArray} {nL : Nat} {own : String} {y : MethodName} {ret : Option FieldType} {P : List (Nat × Instr × Nat)} {A : Nat → Prop} {pc pc' : Nat} {ls : Array Slot} {st rest : List Value} {ws ws' : va_W} {L L' : List (Nat × Value)}
/-- what a method owes at its end -/
def rR {S : Type} (p : Program) (l : Launch) (e : Env) (R : Room) (s : State) (m : MethodId) (args : Array Value) (below : List Frame) (meth : Method) (c : Code) (G : gT) (A : Nat → Prop) (cc : ByteArray) (ret : Option FieldType) (M : Option S) (rv : S → Option Value) (ws' : S → va_W) (Q : State → Prop) : Prop :=
  ∀ (u : S) (H : Heap) (locs : List Loc) (pc : Nat) (ls : Array Slot) (ri : Instr), some u = M → okR ret ri (rv u) → decode cc pc = .ok (ri, 1) → rY G A s (ws' u) H locs → W p l e R s m args below meth c H locs 0 0 Q (F0 m pc ls (rv u).toList)
theorem CT.of {S : Type} {rm : Room} {av : List Value} {M : Option S} {rv : S → Option Value} {ws' : S → va_W} (hy : plainName y.cls = true) (hd : ∀ q ∈ P, decode cc q.1 = .ok q.2) (hav : (lg_sl av).length ≤ nL)
    (body : ∀ (p : Program) (e : Env) (s : State) (m : MethodId) (args : Array Value) (below : List Frame) (meth : Method) (c : Code) (A : Nat → Prop) (Q : State → Prop) (ls : Array Slot), M ≠ none → rX G P cc nL y.cls y ret A p s m args meth c → rR p l e rm s m args below meth c G A cc ret M rv ws' Q → rY G A s ws s.heap [] → lv_has ls nL (lv_args 0 av) →
      W p l e rm s m args below meth c s.heap [] 0 0 Q (F0 m 0 ls [])) : CT l G y cc nL ret rm av ws M rv ws' := by
  intro hne sz
  refine Met.ofW (cc := cc) (maxL := nL) (ret := ret) hy rfl ?_
  intro p e s m args below meth c s₁ B hml hv
  obtain ⟨rfl, hsz, hG, hP, hD0⟩ := hv
  subst hsz
  have hl := lv_entry av (n := nL) hav
  rw [lg_entry_eq]
  have hD := hD0.self (sz := s.heap.size)
  refine body p e s m _ below meth c (va_A ws s.heap.size) _ _ hne ⟨⟨B.exec, B.bytes, hml, findClass_of_methodNamed B.named, atoms_spec (ws := Cond.code y cc nL ret :: WG) B.pre⟩, hd, hG, fun q h => Or.inr h, B.notSynchronized, B.returns, fun h => by rw [(name_of_methodNamed B.named B.method).1]; exact h⟩ ?_ ⟨hP, hD, va_S.rf⟩ hl
  intro u H locs pc ls ri hu hok hdec hY
  have hfin : ∀ t : State, t.heap = H → s.WarmedH t.vm → gQc G ws s.heap.size M rv ws' av.toArray s (.returned (rv u)) t := fun t ht _ => ⟨⟨u, hu.symm, rfl, by rw [ht]; exact hY.1, hY.2.1⟩, hY.2.2.F ht⟩
  rcases hok with ⟨h1, h2, x, h3⟩ | ⟨h1, h2, x, h3, h4⟩ | ⟨h1, h2, x, h3⟩ | ⟨h1, h2, h3⟩ | ⟨C, h1, h2, a, h3⟩
  · subst h2
    rw [h3] at hfin ⊢
    exact W.iret B.exec B.bytes (B.returns.trans h1) hfin hY.2.2.2.2 hdec B.notSynchronized
  · subst h2
    rw [h3] at hfin ⊢
    exact W.zret B.exec B.bytes (B.returns.trans h1) h4 hfin hY.2.2.2.2 hdec B.notSynchronized
  · subst h2
    rw [h3] at hfin ⊢
    exact W.lret B.exec B.bytes (B.returns.trans h1) hfin hY.2.2.2.2 hdec B.notSynchronized
  · subst h2
    rw [h3] at hfin ⊢
    exact W.vret B.exec B.bytes (B.returns.trans h1) hfin hY.2.2.2.2 hdec B.notSynchronized
  · subst h2
    rw [h3] at hfin ⊢
    exact W.aret B.exec B.bytes (B.returns.trans h1) (Or.inl ⟨C, rfl⟩) (Or.inr ⟨a, rfl⟩) hfin hY.2.2.2.2 hdec B.notSynchronized
/-- the mirror: what is known of it as the walk goes on -/
theorem mI {α : Type} {c : Prop} {d : Decidable c} {a b M : α} (h : (@ite α c d a b) = M) (hc : c) : a = M := by rw [if_pos hc] at h; exact h
theorem mE {α : Type} {c : Prop} {d : Decidable c} {a b M : α} (h : (@ite α c d a b) = M) (hc : ¬ c) : b = M := by rw [if_neg hc] at h; exact h
theorem mG {α : Type} {c : Prop} {d : Decidable c} {a M : Option α} (h : (@ite (Option α) c d a none) = M) (hn : M ≠ none) : c ∧ a = M := by
  by_cases hc : c
  · exact ⟨hc, mI h hc⟩
  · exact absurd (mE h hc).symm hn
theorem mB {α β : Type} {o : Option β} {f : β → Option α} {M : Option α} (h : o.bind f = M) (hn : M ≠ none) : o ≠ none := fun z => hn (by rw [← h, z]; rfl)
theorem mS {α β : Type} {o : Option β} {f : β → Option α} {M : Option α} {u : β} (h : o.bind f = M) (hu : o = some u) : f u = M := by rw [hu] at h; exact h
theorem rX.d (X : rX G P cc nL own y ret A p s m args meth c) {k : Nat} {i : Instr} {n : Nat} (h : P[k]? = some (pc, i, n)) : decode cc pc = .ok (i, n) := X.2.1 (pc, i, n) (List.mem_of_getElem? h)
theorem rX.w (X : rX G P cc nL own y ret A p s m args meth c) {w : Cond} (h : w ∈ WG) : w.before args s = true := X.1.2.2.2.2 w (List.mem_cons_of_mem _ h)
theorem r_iconst (X : rX G P cc nL own y ret A p s m args meth c) {n : Int} (v : Int32) (k : Nat) (hk : P[k]? = some (pc, .iconst n, 1)) (hp : pc + 1 = pc') (hv : Int32.ofInt n = v) (kk : W p l e R s m args below meth c H locs cells slots Q (F0 m pc' ls (.int v :: rest))) : W p l e R s m args below meth c H locs cells slots Q (F0 m pc ls rest) := by
  subst hp
  exact lv_iconst X.1.1 X.1.2.1 (X.d hk) hv kk
theorem r_bipush (X : rX G P cc nL own y ret A p s m args meth c) {n : Int} (v : Int32) (k : Nat) (hk : P[k]? = some (pc, .bipush n, 2)) (hp : pc + 2 = pc') (hv : (Int8.ofInt n).toInt32 = v) (kk : W p l e R s m args below meth c H locs cells slots Q (F0 m pc' ls (.int v :: rest))) : W p l e R s m args below meth c H locs cells slots Q (F0 m pc ls rest) := by
  subst hp
  exact lv_bipush X.1.1 X.1.2.1 (X.d hk) hv kk
theorem r_sipush (X : rX G P cc nL own y ret A p s m args meth c) {n : Int} (v : Int32) (k : Nat) (hk : P[k]? = some (pc, .sipush n, 3)) (hp : pc + 3 = pc') (hv : (Int16.ofInt n).toInt32 = v) (kk : W p l e R s m args below meth c H locs cells slots Q (F0 m pc' ls (.int v :: rest))) : W p l e R s m args below meth c H locs cells slots Q (F0 m pc ls rest) := by
  subst hp
  exact lv_sipush X.1.1 X.1.2.1 (X.d hk) hv kk
theorem r_ldc (X : rX G P cc nL own y ret A p s m args meth c) {i : Nat} {v : Int32} (hw : Cond.constant own i v ∈ WG) (k : Nat) (hk : P[k]? = some (pc, .ldc i, 2)) (hp : pc + 2 = pc')  (kk : W p l e R s m args below meth c H locs cells slots Q (F0 m pc' ls (.int v :: rest))) : W p l e R s m args below meth c H locs cells slots Q (F0 m pc ls rest) := by
  subst hp
  exact lv_ldc X.1.1 X.1.2.1 X.1.2.2.2.1 (X.w hw) (X.d hk) kk
theorem r_ldcw (X : rX G P cc nL own y ret A p s m args meth c) {i : Nat} {v : Int32} (hw : Cond.constant own i v ∈ WG) (k : Nat) (hk : P[k]? = some (pc, .ldc_w i, 3)) (hp : pc + 3 = pc')  (kk : W p l e R s m args below meth c H locs cells slots Q (F0 m pc' ls (.int v :: rest))) : W p l e R s m args below meth c H locs cells slots Q (F0 m pc ls rest) := by
  subst hp
  exact lv_ldcw X.1.1 X.1.2.1 X.1.2.2.2.1 (X.w hw) (X.d hk) kk
theorem r_ldc2 (X : rX G P cc nL own y ret A p s m args meth c) {i : Nat} {v : Int64} (hw : Cond.constantLong own i v ∈ WG) (k : Nat) (hk : P[k]? = some (pc, .ldc2_w i, 3)) (hp : pc + 3 = pc')  (kk : W p l e R s m args below meth c H locs cells slots Q (F0 m pc' ls (.long v :: rest))) : W p l e R s m args below meth c H locs cells slots Q (F0 m pc ls rest) := by
  subst hp
  exact lv_ldc2 X.1.1 X.1.2.1 X.1.2.2.2.1 (X.w hw) (X.d hk) kk
theorem r_iload_n (X : rX G P cc nL own y ret A p s m args meth c) {j : Fin 4} {i : Nat} {x : Int32} (hl : lv_has ls nL L) (q : Nat) (hq : L[q]? = some (i, .int x)) (hj : (j : Nat) = i) (k : Nat) (hk : P[k]? = some (pc, .iload_n j, 1)) (hp : pc + 1 = pc')  (kk : W p l e R s m args below meth c H locs cells slots Q (F0 m pc' ls (.int x :: rest))) : W p l e R s m args below meth c H locs cells slots Q (F0 m pc ls rest) := by
  subst hp
  exact lv_iload_n X.1.1 X.1.2.1 (X.d hk) hj (lv_at hl q hq) kk
theorem r_iload (X : rX G P cc nL own y ret A p s m args meth c) {i : Nat} {x : Int32} (hl : lv_has ls nL L) (q : Nat) (hq : L[q]? = some (i, .int x)) (k : Nat) (hk : P[k]? = some (pc, .iload i, 2)) (hp : pc + 2 = pc')  (kk : W p l e R s m args below meth c H locs cells slots Q (F0 m pc' ls (.int x :: rest))) : W p l e R s m args below meth c H locs cells slots Q (F0 m pc ls rest) := by
  subst hp
  exact lv_iload X.1.1 X.1.2.1 (X.d hk) (lv_at hl q hq) kk
theorem r_aload_n (X : rX G P cc nL own y ret A p s m args meth c) {j : Fin 4} {i : Nat} {x : Nat} (hl : lv_has ls nL L) (q : Nat) (hq : L[q]? = some (i, .ref x)) (hj : (j : Nat) = i) (k : Nat) (hk : P[k]? = some (pc, .aload_n j, 1)) (hp : pc + 1 = pc')  (kk : W p l e R s m args below meth c H locs cells slots Q (F0 m pc' ls (.ref x :: rest))) : W p l e R s m args below meth c H locs cells slots Q (F0 m pc ls rest) := by
  subst hp
  exact lv_aload_n X.1.1 X.1.2.1 (X.d hk) hj (lv_at hl q hq) kk
theorem r_aload (X : rX G P cc nL own y ret A p s m args meth c) {i : Nat} {x : Nat} (hl : lv_has ls nL L) (q : Nat) (hq : L[q]? = some (i, .ref x)) (k : Nat) (hk : P[k]? = some (pc, .aload i, 2)) (hp : pc + 2 = pc')  (kk : W p l e R s m args below meth c H locs cells slots Q (F0 m pc' ls (.ref x :: rest))) : W p l e R s m args below meth c H locs cells slots Q (F0 m pc ls rest) := by
  subst hp
  exact lv_aload X.1.1 X.1.2.1 (X.d hk) (lv_at hl q hq) kk
theorem r_lload_n (X : rX G P cc nL own y ret A p s m args meth c) {j : Fin 4} {i : Nat} {x : Int64} (hl : lv_has ls nL L) (q : Nat) (hq : L[q]? = some (i, .long x)) (hj : (j : Nat) = i) (k : Nat) (hk : P[k]? = some (pc, .lload_n j, 1)) (hp : pc + 1 = pc')  (kk : W p l e R s m args below meth c H locs cells slots Q (F0 m pc' ls (.long x :: rest))) : W p l e R s m args below meth c H locs cells slots Q (F0 m pc ls rest) := by
  subst hp
  exact lv_lload_n X.1.1 X.1.2.1 (X.d hk) hj (lv_at hl q hq) kk
theorem r_lload (X : rX G P cc nL own y ret A p s m args meth c) {i : Nat} {x : Int64} (hl : lv_has ls nL L) (q : Nat) (hq : L[q]? = some (i, .long x)) (k : Nat) (hk : P[k]? = some (pc, .lload i, 2)) (hp : pc + 2 = pc')  (kk : W p l e R s m args below meth c H locs cells slots Q (F0 m pc' ls (.long x :: rest))) : W p l e R s m args below meth c H locs cells slots Q (F0 m pc ls rest) := by
  subst hp
  exact lv_lload X.1.1 X.1.2.1 (X.d hk) (lv_at hl q hq) kk
theorem r_istore_n (X : rX G P cc nL own y ret A p s m args meth c) {j : Fin 4} {i : Nat} {x : Int32} (hl : lv_has ls nL L) (hj : (j : Nat) = i) (k : Nat) (hk : P[k]? = some (pc, .istore_n j, 1)) (hp : pc + 1 = pc') (hn : i < nL) (hL : (i, Value.int x) :: L.filter (fun q => !(q.1 == i) && !(q.1 + 1 == i && q.2.category == 2)) = L') (kk : ∀ ls, lv_has ls nL L' → W p l e R s m args below meth c H locs cells slots Q (F0 m pc' ls rest)) : W p l e R s m args below meth c H locs cells slots Q (F0 m pc ls (.int x :: rest)) := by
  subst hp
  exact lv_istore_n X.1.1 X.1.2.1 (X.d hk) hj hl hn hL kk
theorem r_istore (X : rX G P cc nL own y ret A p s m args meth c) {i : Nat} {x : Int32} (hl : lv_has ls nL L) (k : Nat) (hk : P[k]? = some (pc, .istore i, 2)) (hp : pc + 2 = pc') (hn : i < nL) (hL : (i, Value.int x) :: L.filter (fun q => !(q.1 == i) && !(q.1 + 1 == i && q.2.category == 2)) = L') (kk : ∀ ls, lv_has ls nL L' → W p l e R s m args below meth c H locs cells slots Q (F0 m pc' ls rest)) : W p l e R s m args below meth c H locs cells slots Q (F0 m pc ls (.int x :: rest)) := by
  subst hp
  exact lv_istore X.1.1 X.1.2.1 (X.d hk) hl hn hL kk
theorem r_astore_n (X : rX G P cc nL own y ret A p s m args meth c) {j : Fin 4} {i : Nat} {x : Nat} (hl : lv_has ls nL L) (hj : (j : Nat) = i) (k : Nat) (hk : P[k]? = some (pc, .astore_n j, 1)) (hp : pc + 1 = pc') (hn : i < nL) (hL : (i, Value.ref x) :: L.filter (fun q => !(q.1 == i) && !(q.1 + 1 == i && q.2.category == 2)) = L') (kk : ∀ ls, lv_has ls nL L' → W p l e R s m args below meth c H locs cells slots Q (F0 m pc' ls rest)) : W p l e R s m args below meth c H locs cells slots Q (F0 m pc ls (.ref x :: rest)) := by
  subst hp
  exact lv_astore_n X.1.1 X.1.2.1 (X.d hk) hj hl hn hL kk
theorem r_astore (X : rX G P cc nL own y ret A p s m args meth c) {i : Nat} {x : Nat} (hl : lv_has ls nL L) (k : Nat) (hk : P[k]? = some (pc, .astore i, 2)) (hp : pc + 2 = pc') (hn : i < nL) (hL : (i, Value.ref x) :: L.filter (fun q => !(q.1 == i) && !(q.1 + 1 == i && q.2.category == 2)) = L') (kk : ∀ ls, lv_has ls nL L' → W p l e R s m args below meth c H locs cells slots Q (F0 m pc' ls rest)) : W p l e R s m args below meth c H locs cells slots Q (F0 m pc ls (.ref x :: rest)) := by
  subst hp
  exact lv_astore X.1.1 X.1.2.1 (X.d hk) hl hn hL kk
theorem r_lstore_n (X : rX G P cc nL own y ret A p s m args meth c) {j : Fin 4} {i : Nat} {x : Int64} (hl : lv_has ls nL L) (hj : (j : Nat) = i) (k : Nat) (hk : P[k]? = some (pc, .lstore_n j, 1)) (hp : pc + 1 = pc') (hn : i + 1 < nL) (hL : (i, Value.long x) :: L.filter (fun q => !(q.1 == i) && (!(q.1 == i + 1) && !(q.1 + 1 == i && q.2.category == 2))) = L') (kk : ∀ ls, lv_has ls nL L' → W p l e R s m args below meth c H locs cells slots Q (F0 m pc' ls rest)) : W p l e R s m args below meth c H locs cells slots Q (F0 m pc ls (.long x :: rest)) := by
  subst hp
  exact lv_lstore_n X.1.1 X.1.2.1 (X.d hk) hj hl hn hL kk
theorem r_lstore (X : rX G P cc nL own y ret A p s m args meth c) {i : Nat} {x : Int64} (hl : lv_has ls nL L) (k : Nat) (hk : P[k]? = some (pc, .lstore i, 2)) (hp : pc + 2 = pc') (hn : i + 1 < nL) (hL : (i, Value.long x) :: L.filter (fun q => !(q.1 == i) && (!(q.1 == i + 1) && !(q.1 + 1 == i && q.2.category == 2))) = L') (kk : ∀ ls, lv_has ls nL L' → W p l e R s m args below meth c H locs cells slots Q (F0 m pc' ls rest)) : W p l e R s m args below meth c H locs cells slots Q (F0 m pc ls (.long x :: rest)) := by
  subst hp
  exact lv_lstore X.1.1 X.1.2.1 (X.d hk) hl hn hL kk
theorem r_iinc (X : rX G P cc nL own y ret A p s m args meth c) {i : Nat} {n : Int} {x : Int32} (v : Int32) (hl : lv_has ls nL L) (q : Nat) (hq : L[q]? = some (i, .int x)) (hv : x + Int32.ofInt n = v) (k : Nat) (hk : P[k]? = some (pc, .iinc i n, 3)) (hp : pc + 3 = pc') (hn : i < nL) (hL : (i, Value.int v) :: L.filter (fun q => !(q.1 == i) && !(q.1 + 1 == i && q.2.category == 2)) = L') (kk : ∀ ls, lv_has ls nL L' → W p l e R s m args below meth c H locs cells slots Q (F0 m pc' ls rest)) : W p l e R s m args below meth c H locs cells slots Q (F0 m pc ls rest) := by
  subst hp
  exact lv_iinc X.1.1 X.1.2.1 (X.d hk) hl hq hv hn hL kk
theorem r_iadd (X : rX G P cc nL own y ret A p s m args meth c) {x y : Int32} (k : Nat) (hk : P[k]? = some (pc, .iadd, 1)) (hp : pc + 1 = pc')  (kk : W p l e R s m args below meth c H locs cells slots Q (F0 m pc' ls (.int (x + y) :: rest))) : W p l e R s m args below meth c H locs cells slots Q (F0 m pc ls (.int y :: .int x :: rest)) := by
  subst hp
  exact lv_iadd X.1.1 X.1.2.1 (X.d hk) kk
theorem r_isub (X : rX G P cc nL own y ret A p s m args meth c) {x y : Int32} (k : Nat) (hk : P[k]? = some (pc, .isub, 1)) (hp : pc + 1 = pc')  (kk : W p l e R s m args below meth c H locs cells slots Q (F0 m pc' ls (.int (x - y) :: rest))) : W p l e R s m args below meth c H locs cells slots Q (F0 m pc ls (.int y :: .int x :: rest)) := by
  subst hp
  exact lv_isub X.1.1 X.1.2.1 (X.d hk) kk
theorem r_imul (X : rX G P cc nL own y ret A p s m args meth c) {x y : Int32} (k : Nat) (hk : P[k]? = some (pc, .imul, 1)) (hp : pc + 1 = pc')  (kk : W p l e R s m args below meth c H locs cells slots Q (F0 m pc' ls (.int (x * y) :: rest))) : W p l e R s m args below meth c H locs cells slots Q (F0 m pc ls (.int y :: .int x :: rest)) := by
  subst hp
  exact lv_imul X.1.1 X.1.2.1 (X.d hk) kk
theorem r_ladd (X : rX G P cc nL own y ret A p s m args meth c) {x y : Int64} (k : Nat) (hk : P[k]? = some (pc, .ladd, 1)) (hp : pc + 1 = pc')  (kk : W p l e R s m args below meth c H locs cells slots Q (F0 m pc' ls (.long (x + y) :: rest))) : W p l e R s m args below meth c H locs cells slots Q (F0 m pc ls (.long y :: .long x :: rest)) := by
  subst hp
  exact lv_ladd X.1.1 X.1.2.1 (X.d hk) kk
theorem r_lmul (X : rX G P cc nL own y ret A p s m args meth c) {x y : Int64} (k : Nat) (hk : P[k]? = some (pc, .lmul, 1)) (hp : pc + 1 = pc')  (kk : W p l e R s m args below meth c H locs cells slots Q (F0 m pc' ls (.long (x * y) :: rest))) : W p l e R s m args below meth c H locs cells slots Q (F0 m pc ls (.long y :: .long x :: rest)) := by
  subst hp
  exact lv_lmul X.1.1 X.1.2.1 (X.d hk) kk
theorem r_lsub (X : rX G P cc nL own y ret A p s m args meth c) {x y : Int64} (k : Nat) (hk : P[k]? = some (pc, .lsub, 1)) (hp : pc + 1 = pc')  (kk : W p l e R s m args below meth c H locs cells slots Q (F0 m pc' ls (.long (x - y) :: rest))) : W p l e R s m args below meth c H locs cells slots Q (F0 m pc ls (.long y :: .long x :: rest)) := by
  subst hp
  exact lv_lsub X.1.1 X.1.2.1 (X.d hk) kk
theorem r_icmp_eq (X : rX G P cc nL own y ret A p s m args meth c) {x y : Int32} {off : Int} (tgt : Nat) (k : Nat) (hk : P[k]? = some (pc, .if_icmp .eq off, 3)) (hp : pc + 3 = pc') (ht : (pc : Int) + off = (tgt : Int)) (kt : x = y → W p l e R s m args below meth c H locs cells slots Q (F0 m tgt ls rest)) (kf : ¬ (x = y) → W p l e R s m args below meth c H locs cells slots Q (F0 m pc' ls rest)) : W p l e R s m args below meth c H locs cells slots Q (F0 m pc ls (.int y :: .int x :: rest)) := by
  subst hp
  exact lv_icmp_eq X.1.1 X.1.2.1 (X.d hk) ht kt kf
theorem r_if_eq (X : rX G P cc nL own y ret A p s m args meth c) {x : Int32} {off : Int} (tgt : Nat) (k : Nat) (hk : P[k]? = some (pc, .ifCond .eq off, 3)) (hp : pc + 3 = pc') (ht : (pc : Int) + off = (tgt : Int)) (kt : x = 0 → W p l e R s m args below meth c H locs cells slots Q (F0 m tgt ls rest)) (kf : ¬ (x = 0) → W p l e R s m args below meth c H locs cells slots Q (F0 m pc' ls rest)) : W p l e R s m args below meth c H locs cells slots Q (F0 m pc ls (.int x :: rest)) := by
  subst hp
  exact lv_if_eq X.1.1 X.1.2.1 (X.d hk) ht kt kf
theorem r_icmp_ne (X : rX G P cc nL own y ret A p s m args meth c) {x y : Int32} {off : Int} (tgt : Nat) (k : Nat) (hk : P[k]? = some (pc, .if_icmp .ne off, 3)) (hp : pc + 3 = pc') (ht : (pc : Int) + off = (tgt : Int)) (kt : ¬ x = y → W p l e R s m args below meth c H locs cells slots Q (F0 m tgt ls rest)) (kf : x = y → W p l e R s m args below meth c H locs cells slots Q (F0 m pc' ls rest)) : W p l e R s m args below meth c H locs cells slots Q (F0 m pc ls (.int y :: .int x :: rest)) := by
  subst hp
  exact lv_icmp_ne X.1.1 X.1.2.1 (X.d hk) ht kt kf
theorem r_if_ne (X : rX G P cc nL own y ret A p s m args meth c) {x : Int32} {off : Int} (tgt : Nat) (k : Nat) (hk : P[k]? = some (pc, .ifCond .ne off, 3)) (hp : pc + 3 = pc') (ht : (pc : Int) + off = (tgt : Int)) (kt : ¬ x = 0 → W p l e R s m args below meth c H locs cells slots Q (F0 m tgt ls rest)) (kf : x = 0 → W p l e R s m args below meth c H locs cells slots Q (F0 m pc' ls rest)) : W p l e R s m args below meth c H locs cells slots Q (F0 m pc ls (.int x :: rest)) := by
  subst hp
  exact lv_if_ne X.1.1 X.1.2.1 (X.d hk) ht kt kf
theorem r_icmp_lt (X : rX G P cc nL own y ret A p s m args meth c) {x y : Int32} {off : Int} (tgt : Nat) (k : Nat) (hk : P[k]? = some (pc, .if_icmp .lt off, 3)) (hp : pc + 3 = pc') (ht : (pc : Int) + off = (tgt : Int)) (kt : x < y → W p l e R s m args below meth c H locs cells slots Q (F0 m tgt ls rest)) (kf : ¬ (x < y) → W p l e R s m args below meth c H locs cells slots Q (F0 m pc' ls rest)) : W p l e R s m args below meth c H locs cells slots Q (F0 m pc ls (.int y :: .int x :: rest)) := by
  subst hp
  exact lv_icmp_lt X.1.1 X.1.2.1 (X.d hk) ht kt kf
theorem r_if_lt (X : rX G P cc nL own y ret A p s m args meth c) {x : Int32} {off : Int} (tgt : Nat) (k : Nat) (hk : P[k]? = some (pc, .ifCond .lt off, 3)) (hp : pc + 3 = pc') (ht : (pc : Int) + off = (tgt : Int)) (kt : x < 0 → W p l e R s m args below meth c H locs cells slots Q (F0 m tgt ls rest)) (kf : ¬ (x < 0) → W p l e R s m args below meth c H locs cells slots Q (F0 m pc' ls rest)) : W p l e R s m args below meth c H locs cells slots Q (F0 m pc ls (.int x :: rest)) := by
  subst hp
  exact lv_if_lt X.1.1 X.1.2.1 (X.d hk) ht kt kf
theorem r_icmp_ge (X : rX G P cc nL own y ret A p s m args meth c) {x y : Int32} {off : Int} (tgt : Nat) (k : Nat) (hk : P[k]? = some (pc, .if_icmp .ge off, 3)) (hp : pc + 3 = pc') (ht : (pc : Int) + off = (tgt : Int)) (kt : y ≤ x → W p l e R s m args below meth c H locs cells slots Q (F0 m tgt ls rest)) (kf : ¬ (y ≤ x) → W p l e R s m args below meth c H locs cells slots Q (F0 m pc' ls rest)) : W p l e R s m args below meth c H locs cells slots Q (F0 m pc ls (.int y :: .int x :: rest)) := by
  subst hp
  exact lv_icmp_ge X.1.1 X.1.2.1 (X.d hk) ht kt kf
theorem r_if_ge (X : rX G P cc nL own y ret A p s m args meth c) {x : Int32} {off : Int} (tgt : Nat) (k : Nat) (hk : P[k]? = some (pc, .ifCond .ge off, 3)) (hp : pc + 3 = pc') (ht : (pc : Int) + off = (tgt : Int)) (kt : 0 ≤ x → W p l e R s m args below meth c H locs cells slots Q (F0 m tgt ls rest)) (kf : ¬ (0 ≤ x) → W p l e R s m args below meth c H locs cells slots Q (F0 m pc' ls rest)) : W p l e R s m args below meth c H locs cells slots Q (F0 m pc ls (.int x :: rest)) := by
  subst hp
  exact lv_if_ge X.1.1 X.1.2.1 (X.d hk) ht kt kf
theorem r_icmp_gt (X : rX G P cc nL own y ret A p s m args meth c) {x y : Int32} {off : Int} (tgt : Nat) (k : Nat) (hk : P[k]? = some (pc, .if_icmp .gt off, 3)) (hp : pc + 3 = pc') (ht : (pc : Int) + off = (tgt : Int)) (kt : y < x → W p l e R s m args below meth c H locs cells slots Q (F0 m tgt ls rest)) (kf : ¬ (y < x) → W p l e R s m args below meth c H locs cells slots Q (F0 m pc' ls rest)) : W p l e R s m args below meth c H locs cells slots Q (F0 m pc ls (.int y :: .int x :: rest)) := by
  subst hp
  exact lv_icmp_gt X.1.1 X.1.2.1 (X.d hk) ht kt kf
theorem r_if_gt (X : rX G P cc nL own y ret A p s m args meth c) {x : Int32} {off : Int} (tgt : Nat) (k : Nat) (hk : P[k]? = some (pc, .ifCond .gt off, 3)) (hp : pc + 3 = pc') (ht : (pc : Int) + off = (tgt : Int)) (kt : 0 < x → W p l e R s m args below meth c H locs cells slots Q (F0 m tgt ls rest)) (kf : ¬ (0 < x) → W p l e R s m args below meth c H locs cells slots Q (F0 m pc' ls rest)) : W p l e R s m args below meth c H locs cells slots Q (F0 m pc ls (.int x :: rest)) := by
  subst hp
  exact lv_if_gt X.1.1 X.1.2.1 (X.d hk) ht kt kf
theorem r_icmp_le (X : rX G P cc nL own y ret A p s m args meth c) {x y : Int32} {off : Int} (tgt : Nat) (k : Nat) (hk : P[k]? = some (pc, .if_icmp .le off, 3)) (hp : pc + 3 = pc') (ht : (pc : Int) + off = (tgt : Int)) (kt : x ≤ y → W p l e R s m args below meth c H locs cells slots Q (F0 m tgt ls rest)) (kf : ¬ (x ≤ y) → W p l e R s m args below meth c H locs cells slots Q (F0 m pc' ls rest)) : W p l e R s m args below meth c H locs cells slots Q (F0 m pc ls (.int y :: .int x :: rest)) := by
  subst hp
  exact lv_icmp_le X.1.1 X.1.2.1 (X.d hk) ht kt kf
theorem r_if_le (X : rX G P cc nL own y ret A p s m args meth c) {x : Int32} {off : Int} (tgt : Nat) (k : Nat) (hk : P[k]? = some (pc, .ifCond .le off, 3)) (hp : pc + 3 = pc') (ht : (pc : Int) + off = (tgt : Int)) (kt : x ≤ 0 → W p l e R s m args below meth c H locs cells slots Q (F0 m tgt ls rest)) (kf : ¬ (x ≤ 0) → W p l e R s m args below meth c H locs cells slots Q (F0 m pc' ls rest)) : W p l e R s m args below meth c H locs cells slots Q (F0 m pc ls (.int x :: rest)) := by
  subst hp
  exact lv_if_le X.1.1 X.1.2.1 (X.d hk) ht kt kf
theorem r_idiv (X : rX G P cc nL own y ret A p s m args meth c) {x y : Int32} (k : Nat) (hk : P[k]? = some (pc, .idiv, 1)) (hp : pc + 1 = pc') (hne : ¬ y = 0) (kk : W p l e R s m args below meth c H locs cells slots Q (F0 m pc' ls (.int (x / y) :: rest))) : W p l e R s m args below meth c H locs cells slots Q (F0 m pc ls (.int y :: .int x :: rest)) := by
  subst hp
  exact lv_idiv X.1.1 X.1.2.1 (X.d hk) hne kk
theorem r_irem (X : rX G P cc nL own y ret A p s m args meth c) {x y : Int32} (k : Nat) (hk : P[k]? = some (pc, .irem, 1)) (hp : pc + 1 = pc') (hne : ¬ y = 0) (kk : W p l e R s m args below meth c H locs cells slots Q (F0 m pc' ls (.int (x - x / y * y) :: rest))) : W p l e R s m args below meth c H locs cells slots Q (F0 m pc ls (.int y :: .int x :: rest)) := by
  subst hp
  exact lv_irem X.1.1 X.1.2.1 (X.d hk) hne kk
theorem r_ldiv (X : rX G P cc nL own y ret A p s m args meth c) {x y : Int64} (k : Nat) (hk : P[k]? = some (pc, .ldiv, 1)) (hp : pc + 1 = pc') (hne : ¬ y = 0) (kk : W p l e R s m args below meth c H locs cells slots Q (F0 m pc' ls (.long (x / y) :: rest))) : W p l e R s m args below meth c H locs cells slots Q (F0 m pc ls (.long y :: .long x :: rest)) := by
  subst hp
  exact lv_ldiv X.1.1 X.1.2.1 (X.d hk) hne kk
theorem r_lrem (X : rX G P cc nL own y ret A p s m args meth c) {x y : Int64} (k : Nat) (hk : P[k]? = some (pc, .lrem, 1)) (hp : pc + 1 = pc') (hne : ¬ y = 0) (kk : W p l e R s m args below meth c H locs cells slots Q (F0 m pc' ls (.long (x - x / y * y) :: rest))) : W p l e R s m args below meth c H locs cells slots Q (F0 m pc ls (.long y :: .long x :: rest)) := by
  subst hp
  exact lv_lrem X.1.1 X.1.2.1 (X.d hk) hne kk
theorem r_ineg (X : rX G P cc nL own y ret A p s m args meth c) {x : Int32} (k : Nat) (hk : P[k]? = some (pc, .ineg, 1)) (hp : pc + 1 = pc')  (kk : W p l e R s m args below meth c H locs cells slots Q (F0 m pc' ls (.int (-x) :: rest))) : W p l e R s m args below meth c H locs cells slots Q (F0 m pc ls (.int x :: rest)) := by
  subst hp
  exact lv_ineg X.1.1 X.1.2.1 (X.d hk) kk
theorem r_ishl (X : rX G P cc nL own y ret A p s m args meth c) {x y : Int32} (k : Nat) (hk : P[k]? = some (pc, .ishl, 1)) (hp : pc + 1 = pc')  (kk : W p l e R s m args below meth c H locs cells slots Q (F0 m pc' ls (.int (x <<< (y &&& 31)) :: rest))) : W p l e R s m args below meth c H locs cells slots Q (F0 m pc ls (.int y :: .int x :: rest)) := by
  subst hp
  exact lv_ishl X.1.1 X.1.2.1 (X.d hk) kk
theorem r_ishr (X : rX G P cc nL own y ret A p s m args meth c) {x y : Int32} (k : Nat) (hk : P[k]? = some (pc, .ishr, 1)) (hp : pc + 1 = pc')  (kk : W p l e R s m args below meth c H locs cells slots Q (F0 m pc' ls (.int (x >>> (y &&& 31)) :: rest))) : W p l e R s m args below meth c H locs cells slots Q (F0 m pc ls (.int y :: .int x :: rest)) := by
  subst hp
  exact lv_ishr X.1.1 X.1.2.1 (X.d hk) kk
theorem r_iand (X : rX G P cc nL own y ret A p s m args meth c) {x y : Int32} (k : Nat) (hk : P[k]? = some (pc, .iand, 1)) (hp : pc + 1 = pc')  (kk : W p l e R s m args below meth c H locs cells slots Q (F0 m pc' ls (.int (x &&& y) :: rest))) : W p l e R s m args below meth c H locs cells slots Q (F0 m pc ls (.int y :: .int x :: rest)) := by
  subst hp
  exact lv_iand X.1.1 X.1.2.1 (X.d hk) kk
theorem r_ior (X : rX G P cc nL own y ret A p s m args meth c) {x y : Int32} (k : Nat) (hk : P[k]? = some (pc, .ior, 1)) (hp : pc + 1 = pc')  (kk : W p l e R s m args below meth c H locs cells slots Q (F0 m pc' ls (.int (x ||| y) :: rest))) : W p l e R s m args below meth c H locs cells slots Q (F0 m pc ls (.int y :: .int x :: rest)) := by
  subst hp
  exact lv_ior X.1.1 X.1.2.1 (X.d hk) kk
theorem r_i2l (X : rX G P cc nL own y ret A p s m args meth c) {x : Int32} (k : Nat) (hk : P[k]? = some (pc, .i2l, 1)) (hp : pc + 1 = pc')  (kk : W p l e R s m args below meth c H locs cells slots Q (F0 m pc' ls (.long x.toInt64 :: rest))) : W p l e R s m args below meth c H locs cells slots Q (F0 m pc ls (.int x :: rest)) := by
  subst hp
  exact lv_i2l X.1.1 X.1.2.1 (X.d hk) rfl kk
theorem r_l2i (X : rX G P cc nL own y ret A p s m args meth c) {x : Int64} (k : Nat) (hk : P[k]? = some (pc, .l2i, 1)) (hp : pc + 1 = pc')  (kk : W p l e R s m args below meth c H locs cells slots Q (F0 m pc' ls (.int x.toInt32 :: rest))) : W p l e R s m args below meth c H locs cells slots Q (F0 m pc ls (.long x :: rest)) := by
  subst hp
  exact lv_l2i X.1.1 X.1.2.1 (X.d hk) rfl kk
theorem r_i2b (X : rX G P cc nL own y ret A p s m args meth c) {x : Int32} (k : Nat) (hk : P[k]? = some (pc, .i2b, 1)) (hp : pc + 1 = pc')  (kk : W p l e R s m args below meth c H locs cells slots Q (F0 m pc' ls (.int x.toInt8.toInt32 :: rest))) : W p l e R s m args below meth c H locs cells slots Q (F0 m pc ls (.int x :: rest)) := by
  subst hp
  exact lv_i2b X.1.1 X.1.2.1 (X.d hk) rfl kk
theorem r_i2s (X : rX G P cc nL own y ret A p s m args meth c) {x : Int32} (k : Nat) (hk : P[k]? = some (pc, .i2s, 1)) (hp : pc + 1 = pc')  (kk : W p l e R s m args below meth c H locs cells slots Q (F0 m pc' ls (.int x.toInt16.toInt32 :: rest))) : W p l e R s m args below meth c H locs cells slots Q (F0 m pc ls (.int x :: rest)) := by
  subst hp
  exact lv_i2s X.1.1 X.1.2.1 (X.d hk) rfl kk
theorem r_dup (X : rX G P cc nL own y ret A p s m args meth c) {v : Value} (k : Nat) (hk : P[k]? = some (pc, .dup, 1)) (hp : pc + 1 = pc') (hv : v.category = 1) (kk : W p l e R s m args below meth c H locs cells slots Q (F0 m pc' ls (v :: v :: rest))) : W p l e R s m args below meth c H locs cells slots Q (F0 m pc ls (v :: rest)) := by
  subst hp
  exact lv_dup X.1.1 X.1.2.1 (X.d hk) hv kk
theorem r_pop (X : rX G P cc nL own y ret A p s m args meth c) {v : Value} (k : Nat) (hk : P[k]? = some (pc, .pop, 1)) (hp : pc + 1 = pc') (hv : v.category = 1) (kk : W p l e R s m args below meth c H locs cells slots Q (F0 m pc' ls rest)) : W p l e R s m args below meth c H locs cells slots Q (F0 m pc ls (v :: rest)) := by
  subst hp
  exact lv_pop X.1.1 X.1.2.1 (X.d hk) hv kk
theorem r_dup2 (X : rX G P cc nL own y ret A p s m args meth c) {va vb : Value} (k : Nat) (hk : P[k]? = some (pc, .dup2, 1)) (hp : pc + 1 = pc') (ha : va.category = 1) (hb : vb.category = 1) (kk : W p l e R s m args below meth c H locs cells slots Q (F0 m pc' ls (va :: vb :: va :: vb :: rest))) : W p l e R s m args below meth c H locs cells slots Q (F0 m pc ls (va :: vb :: rest)) := by
  subst hp
  exact lv_dup2_11 X.1.1 X.1.2.1 (X.d hk) ha hb kk
theorem r_lconst (X : rX G P cc nL own y ret A p s m args meth c) {n : Fin 2} (v : Int64) (k : Nat) (hk : P[k]? = some (pc, .lconst n, 1)) (hp : pc + 1 = pc') (hv : Int64.ofNat (n : Nat) = v) (kk : W p l e R s m args below meth c H locs cells slots Q (F0 m pc' ls (.long v :: rest))) : W p l e R s m args below meth c H locs cells slots Q (F0 m pc ls rest) := by
  subst hp
  exact lv_lconst X.1.1 X.1.2.1 (X.d hk) hv kk
theorem r_lcmp (X : rX G P cc nL own y ret A p s m args meth c) {x y : Int64} (k : Nat) (hk : P[k]? = some (pc, .lcmp, 1)) (hp : pc + 1 = pc')  (kk : W p l e R s m args below meth c H locs cells slots Q (F0 m pc' ls (.int (lg_cmp x y) :: rest))) : W p l e R s m args below meth c H locs cells slots Q (F0 m pc ls (.long y :: .long x :: rest)) := by
  subst hp
  exact W.lcmp X.1.1 X.1.2.1 (X.d hk) kk
theorem r_goto (X : rX G P cc nL own y ret A p s m args meth c) {off : Int} (tgt : Nat) (k : Nat) (hk : P[k]? = some (pc, .goto off, 3)) (ht : (pc : Int) + off = (tgt : Int)) (kk : W p l e R s m args below meth c H locs cells slots Q (F0 m tgt ls rest)) : W p l e R s m args below meth c H locs cells slots Q (F0 m pc ls rest) :=
  lv_goto X.1.1 X.1.2.1 (X.d hk) ht kk
theorem r_tabIn (X : rX G P cc nL own y ret A p s m args meth c) {dflt lo hi : Int} {offs : Array Int} {len : Nat} {x : Int32} {off : Int} (tgt : Nat) (k : Nat) (hk : P[k]? = some (pc, .tableswitch dflt lo hi offs, len)) (z : Int32) (hx : x = z) (h1 : ¬ z.toInt < lo ∧ ¬ hi < z.toInt) (ho : offs[(z.toInt - lo).toNat]? = some off) (ht : (pc : Int) + off = (tgt : Int)) (kk : W p l e R s m args below meth c H locs cells slots Q (F0 m tgt ls rest)) : W p l e R s m args below meth c H locs cells slots Q (F0 m pc ls (.int x :: rest)) := by
  subst hx
  exact lv_tableIn X.1.1 X.1.2.1 (X.d hk) h1.1 h1.2 ho ht kk
theorem r_tabOut (X : rX G P cc nL own y ret A p s m args meth c) {dflt lo hi : Int} {offs : Array Int} {len : Nat} {x : Int32} (tgt : Nat) (k : Nat) (hk : P[k]? = some (pc, .tableswitch dflt lo hi offs, len)) (h : x.toInt < lo ∨ hi < x.toInt) (ht : (pc : Int) + dflt = (tgt : Int)) (kk : W p l e R s m args below meth c H locs cells slots Q (F0 m tgt ls rest)) : W p l e R s m args below meth c H locs cells slots Q (F0 m pc ls (.int x :: rest)) :=
  lv_tableOut X.1.1 X.1.2.1 (X.d hk) h ht kk
theorem r_look (X : rX G P cc nL own y ret A p s m args meth c) {dflt : Int} {ps : Array (Int × Int)} {len : Nat} {x : Int32} {off : Int} (tgt : Nat) (k : Nat) (hk : P[k]? = some (pc, .lookupswitch dflt ps, len)) (hp : (ps.toList.zip (ps.toList.drop 1)).all (fun (a, next) => a.1 < next.1) = true) (ho : Op.lookupswitch.offset ps.toList dflt x.toInt = off) (ht : (pc : Int) + off = (tgt : Int)) (kk : W p l e R s m args below meth c H locs cells slots Q (F0 m tgt ls rest)) : W p l e R s m args below meth c H locs cells slots Q (F0 m pc ls (.int x :: rest)) :=
  lv_lookup X.1.1 X.1.2.1 (X.d hk) hp ho ht kk
/-- a field of a class of ours: what the tables say of it -/
def FK (own : String) (idx ci k : Nat) (ty : FieldType) (fin : Bool) : Prop := ∃ (C : String) (T : u_T) (N : Nat) (ty0 : Nat → FieldType), vwCl[ci]? = some (C, T, N) ∧ k < N ∧ (∀ w ∈ u_ws C T N, w ∈ WG) ∧ (∀ k, k < N → parseFieldDescriptor (T k).2.2.1 = some (ty0 k)) ∧ (∀ a, a < N → ∀ b, b < N → a ≠ b → (T a).2.1 ≠ (T b).2.1) ∧ (T k).1 = C ∧ (T k).2.2.2 = fin ∧ parseFieldDescriptor (T k).2.2.1 = some ty ∧ Cond.fieldLink own idx C (T k).2.1 (T k).2.2.1 ∈ WG
def FN (own : String) (idx ci k : Nat) (ty : FieldType) (fin : Bool) : Prop := ∃ (C : String) (T : u_T) (N : Nat) (ty0 : Nat → FieldType) (host : String), vwCl[ci]? = some (C, T, N) ∧ k < N ∧ (∀ w ∈ u_ws C T N, w ∈ WG) ∧ (∀ k, k < N → parseFieldDescriptor (T k).2.2.1 = some (ty0 k)) ∧ (∀ a, a < N → ∀ b, b < N → a ≠ b → (T a).2.1 ≠ (T b).2.1) ∧ (T k).1 = C ∧ (T k).2.2.2 = fin ∧ parseFieldDescriptor (T k).2.2.1 = some ty ∧ Cond.fieldLinkNest own idx C (T k).2.1 (T k).2.2.1 host ∈ NWs
theorem rX.g (X : rX G P cc nL own y ret A p s m args meth c) : gOK G A s s.heap := X.2.2.1
theorem rX.gu {C : String} {T : u_T} {N : Nat} (h : ∀ w ∈ u_ws C T N, w ∈ WG) : ∀ w ∈ u_ws C T N, w ∈ Cond.code y cc nL ret :: WG := fun w hw => List.mem_cons_of_mem _ (h w hw)
theorem r_get (X : rX G P cc nL own y ret A p s m args meth c) (Y : rY G A s ws H locs) {idx ci j : Nat} {ty : FieldType} {fin : Bool} (k : Nat) (hk : P[k]? = some (pc, .getfield idx, 3)) (hp : pc + 3 = pc') (F : FK own idx ci j ty fin) (q0 : Nat) {a : Nat} {fs : List Value} (he : ws[q0]? = some (a, .inr (ci, fs))) {v : Value} (hv : fs[j]? = some v) (kk : W p l e R s m args below meth c H locs cells slots Q (F0 m pc' ls (v :: rest))) : W p l e R s m args below meth c H locs cells slots Q (F0 m pc ls (.ref a :: rest)) := by
  subst hp
  obtain ⟨C, T, N, ty0, h1, h2, h3, h4, h5, h6, h7, h8, h9⟩ := F
  exact va_get (D := G.1) X.1.1 X.1.2.1 X.1.2.2.2.2 (rX.gu h3) X.1.2.2.2.1 X.g.1 Y.1 q0 he h1 j h2 (X.w h9) (fun x hx => by rw [h6] at hx; exact hx) hv (X.d hk) kk
theorem r_getN (X : rX G P cc nL own y ret A p s m args meth c) (Y : rY G A s ws H locs) {idx ci j : Nat} {ty : FieldType} {fin : Bool} (k : Nat) (hk : P[k]? = some (pc, .getfield idx, 3)) (hp : pc + 3 = pc') (F : FN own idx ci j ty fin) (q0 : Nat) {a : Nat} {fs : List Value} (he : ws[q0]? = some (a, .inr (ci, fs))) {v : Value} (hv : fs[j]? = some v) (kk : W p l e R s m args below meth c H locs cells slots Q (F0 m pc' ls (v :: rest))) : W p l e R s m args below meth c H locs cells slots Q (F0 m pc ls (.ref a :: rest)) := by
  subst hp
  obtain ⟨C, T, N, ty0, host, h1, h2, h3, h4, h5, h6, h7, h8, h9⟩ := F
  exact va_getN (D := G.1) X.1.1 X.1.2.1 X.1.2.2.2.2 (rX.gu h3) X.1.2.2.2.1 X.g.1 Y.1 q0 he h1 j h2 (va_Nw.use rfl (X.g.2.1.1 _ h9)) (fun x hx => by rw [h6] at hx; exact hx) hv (X.d hk) kk
theorem r_put (X : rX G P cc nL own y ret A p s m args meth c) (Y : rY G A s ws H locs) {idx ci j : Nat} {ty : FieldType} (k : Nat) (hk : P[k]? = some (pc, .putfield idx, 3)) (hp : pc + 3 = pc') (F : FK own idx ci j ty false) (q0 : Nat) {a : Nat} {fs : List Value} {v : Value} (he : ws[q0]? = some (a, .inr (ci, fs))) (hn : narrow ty v = v) (hf : fits ty v = true) (hl : j < fs.length) (hw : ws.set q0 (a, .inr (ci, fs.set j v)) = ws') (kk : ∀ H locs, rY G A s ws' H locs → W p l e R s m args below meth c H locs cells slots Q (F0 m pc' ls rest)) : W p l e R s m args below meth c H locs cells slots Q (F0 m pc ls (v :: .ref a :: rest)) := by
  subst hp
  subst hw
  obtain ⟨C, T, N, ty0, h1, h2, h3, h4, h5, h6, h7, h8, h9⟩ := F
  exact va_put (D := G.1) X.1.1 X.1.2.1 X.1.2.2.2.2 (rX.gu h3) ty0 h4 h5 X.1.2.2.2.1 X.g.1 Y.1 Y.2.1 Y.2.2 q0 he h1 j h2 (X.w h9) (fun x hx => by rw [h6] at hx; exact hx) h7 h8 hn hf hl (X.d hk) (fun H1 l1 a1 a2 a3 => kk H1 l1 ⟨a1, a2, a3⟩)
theorem r_putN (X : rX G P cc nL own y ret A p s m args meth c) (Y : rY G A s ws H locs) {idx ci j : Nat} {ty : FieldType} (k : Nat) (hk : P[k]? = some (pc, .putfield idx, 3)) (hp : pc + 3 = pc') (F : FN own idx ci j ty false) (q0 : Nat) {a : Nat} {fs : List Value} {v : Value} (he : ws[q0]? = some (a, .inr (ci, fs))) (hn : narrow ty v = v) (hf : fits ty v = true) (hl : j < fs.length) (hw : ws.set q0 (a, .inr (ci, fs.set j v)) = ws') (kk : ∀ H locs, rY G A s ws' H locs → W p l e R s m args below meth c H locs cells slots Q (F0 m pc' ls rest)) : W p l e R s m args below meth c H locs cells slots Q (F0 m pc ls (v :: .ref a :: rest)) := by
  subst hp
  subst hw
  obtain ⟨C, T, N, ty0, host, h1, h2, h3, h4, h5, h6, h7, h8, h9⟩ := F
  exact va_putN (D := G.1) X.1.1 X.1.2.1 X.1.2.2.2.2 (rX.gu h3) ty0 h4 h5 X.1.2.2.2.1 X.g.1 Y.1 Y.2.1 Y.2.2 q0 he h1 j h2 (va_Nw.use rfl (X.g.2.1.1 _ h9)) (fun x hx => by rw [h6] at hx; exact hx) h7 h8 hn hf hl (X.d hk) (fun H1 l1 a1 a2 a3 => kk H1 l1 ⟨a1, a2, a3⟩)
theorem r_putF (X : rX G P cc nL own y ret A p s m args meth c) (Y : rY G A s ws H locs) {idx ci j : Nat} {ty : FieldType} (k : Nat) (hk : P[k]? = some (pc, .putfield idx, 3)) (hp : pc + 3 = pc') (F : FK own idx ci j ty true) (hin : y.name = "<init>") (hown : ∀ r : vw_C, vwCl[ci]? = some r → r.1 = own) (q0 : Nat) {a : Nat} {fs : List Value} {v : Value} (he : ws[q0]? = some (a, .inr (ci, fs))) (hn : narrow ty v = v) (hf : fits ty v = true) (hl : j < fs.length) (hw : ws.set q0 (a, .inr (ci, fs.set j v)) = ws') (kk : ∀ H locs, rY G A s ws' H locs → W p l e R s m args below meth c H locs cells slots Q (F0 m pc' ls rest)) : W p l e R s m args below meth c H locs cells slots Q (F0 m pc ls (v :: .ref a :: rest)) := by
  subst hp
  subst hw
  obtain ⟨C, T, N, ty0, h1, h2, h3, h4, h5, h6, h7, h8, h9⟩ := F
  exact va_putF (D := G.1) X.1.1 X.1.2.1 X.1.2.2.2.2 (rX.gu h3) ty0 h4 h5 X.1.2.2.2.1 X.g.1 Y.1 Y.2.1 Y.2.2 q0 he h1 j h2 (X.w h9) (fun x hx => by rw [h6] at hx; exact hx) h7 (X.2.2.2.2.2.2 hin) (h6.trans (hown _ h1)) h8 hn hf hl (X.d hk) (fun H1 l1 a1 a2 a3 => kk H1 l1 ⟨a1, a2, a3⟩)
theorem r_iald (X : rX G P cc nL own y ret A p s m args meth c) (Y : rY G A s ws H locs) (k : Nat) (hk : P[k]? = some (pc, .iaload, 1)) (hp : pc + 1 = pc') (q0 : Nat) {a n : Nat} {f : Nat → Int32} {i : Int32} (he : ws[q0]? = some (a, .inl (cyI G, n, .inl f))) (hin : vp_in i n) (kk : W p l e R s m args below meth c H locs cells slots Q (F0 m pc' ls (.int (f i.toNatClampNeg) :: rest))) : W p l e R s m args below meth c H locs cells slots Q (F0 m pc ls (.int i :: .ref a :: rest)) := by
  subst hp
  exact va_iald (D := G.1) (tys := tyG G) X.1.1 X.1.2.1 X.g.1 Y.1 q0 0 he rfl hin (X.d hk) kk
theorem r_iast (X : rX G P cc nL own y ret A p s m args meth c) (Y : rY G A s ws H locs) (k : Nat) (hk : P[k]? = some (pc, .iastore, 1)) (hp : pc + 1 = pc') (q0 : Nat) {a n : Nat} {f : Nat → Int32} {i x : Int32} (he : ws[q0]? = some (a, .inl (cyI G, n, .inl f))) (hin : vp_in i n) (hw : ws.set q0 (a, .inl (cyI G, n, .inl (upd f i.toNatClampNeg x))) = ws') (kk : ∀ H locs, rY G A s ws' H locs → W p l e R s m args below meth c H locs cells slots Q (F0 m pc' ls rest)) : W p l e R s m args below meth c H locs cells slots Q (F0 m pc ls (.int x :: .int i :: .ref a :: rest)) := by
  subst hp
  subst hw
  exact va_iast (D := G.1) (tys := tyG G) X.1.1 X.1.2.1 X.g.1 Y.1 Y.2.1 Y.2.2 q0 0 he rfl hin (X.d hk) (fun H1 l1 a1 a2 a3 => kk H1 l1 ⟨a1, a2, a3⟩)
theorem r_alen (X : rX G P cc nL own y ret A p s m args meth c) (Y : rY G A s ws H locs) (k : Nat) (hk : P[k]? = some (pc, .arraylength, 1)) (hp : pc + 1 = pc') (q0 : Nat) {a n : Nat} {f : Nat → Int32} (v : Int32) (he : ws[q0]? = some (a, .inl (cyI G, n, .inl f))) (hv : Int32.ofNat n = v) (kk : W p l e R s m args below meth c H locs cells slots Q (F0 m pc' ls (.int v :: rest))) : W p l e R s m args below meth c H locs cells slots Q (F0 m pc ls (.ref a :: rest)) := by
  subst hp
  exact va_alen (D := G.1) (tys := tyG G) X.1.1 X.1.2.1 X.g.1 Y.1 q0 0 he rfl hv (X.d hk) kk
theorem r_aald (X : rX G P cc nL own y ret A p s m args meth c) (Y : rY G A s ws H locs) (k : Nat) (hk : P[k]? = some (pc, .aaload, 1)) (hp : pc + 1 = pc') (q0 : Nat) {a n : Nat} {f : Nat → Option Nat} {i : Int32} (b : Nat) (he : ws[q0]? = some (a, .inl (cyB G, n, .inr (.inr (.inr (.inr f)))))) (hin : vp_in i n) (hb : f i.toNatClampNeg = some b) (kk : W p l e R s m args below meth c H locs cells slots Q (F0 m pc' ls (.ref b :: rest))) : W p l e R s m args below meth c H locs cells slots Q (F0 m pc ls (.int i :: .ref a :: rest)) := by
  subst hp
  exact va_aldq (D := G.1) (tys := tyG G) X.1.1 X.1.2.1 X.g.1 Y.1 q0 1 he rfl hin (X.d hk) (by rw [hb]; exact kk)
theorem r_gets_kab (X : rX G P cc nL own y ret A p s m args meth c) (Y : rY G A s ws H locs) {idx : Nat} (k : Nat) (hk : P[k]? = some (pc, .getstatic idx, 3)) (hp : pc + 3 = pc') (hw : Cond.fieldLink own idx "TableFirms" "KIND_ABOVE" "[I" ∈ WG) (kk : W p l e R s m args below meth c H locs cells slots Q (F0 m pc' ls (.ref G.2.2.1 :: rest))) : W p l e R s m args below meth c H locs cells slots Q (F0 m pc ls rest) := by
  subst hp
  exact va_gets X.1.1 X.1.2.1 X.g.2.2.1.1 Y.2.2 X.1.2.2.2.1 (X.w hw) (fun _ h => h) (X.d hk) kk
theorem r_getsN_kab (X : rX G P cc nL own y ret A p s m args meth c) (Y : rY G A s ws H locs) {idx : Nat} {host : String} (k : Nat) (hk : P[k]? = some (pc, .getstatic idx, 3)) (hp : pc + 3 = pc') (hw : Cond.fieldLinkNest own idx "TableFirms" "KIND_ABOVE" "[I" host ∈ NWs) (kk : W p l e R s m args below meth c H locs cells slots Q (F0 m pc' ls (.ref G.2.2.1 :: rest))) : W p l e R s m args below meth c H locs cells slots Q (F0 m pc ls rest) := by
  subst hp
  exact va_getsN X.1.1 X.1.2.1 X.g.2.2.1.1 Y.2.2 X.1.2.2.2.1 (va_Nw.use rfl (X.g.2.1.1 _ hw)) (fun _ h => h) (X.d hk) kk
theorem r_sld_kab (X : rX G P cc nL own y ret A p s m args meth c) (Y : rY G A s ws H locs) (k : Nat) (hk : P[k]? = some (pc, .iaload, 1)) (hp : pc + 1 = pc') {i : Int32} (hin : vp_in i 6) (kk : W p l e R s m args below meth c H locs cells slots Q (F0 m pc' ls (.int (kx0 i.toNatClampNeg) :: rest))) : W p l e R s m args below meth c H locs cells slots Q (F0 m pc ls (.int i :: .ref G.2.2.1 :: rest)) := by
  subst hp
  exact va_sld X.1.1 X.1.2.1 X.g.2.2.1.2.1 X.g.2.2.1.2.2.1 X.g.2.2.1.2.2.2 Y.2.2 hin (X.d hk) kk
theorem r_gets_sb (X : rX G P cc nL own y ret A p s m args meth c) (Y : rY G A s ws H locs) {idx : Nat} (k : Nat) (hk : P[k]? = some (pc, .getstatic idx, 3)) (hp : pc + 3 = pc') (hw : Cond.fieldLink own idx "TableFirms$Asks" "SIZE_BODIES" "[I" ∈ WG) (kk : W p l e R s m args below meth c H locs cells slots Q (F0 m pc' ls (.ref G.2.2.2.1 :: rest))) : W p l e R s m args below meth c H locs cells slots Q (F0 m pc ls rest) := by
  subst hp
  exact va_gets X.1.1 X.1.2.1 X.g.2.2.2.1.1 Y.2.2 X.1.2.2.2.1 (X.w hw) (fun _ h => h) (X.d hk) kk
theorem r_getsN_sb (X : rX G P cc nL own y ret A p s m args meth c) (Y : rY G A s ws H locs) {idx : Nat} {host : String} (k : Nat) (hk : P[k]? = some (pc, .getstatic idx, 3)) (hp : pc + 3 = pc') (hw : Cond.fieldLinkNest own idx "TableFirms$Asks" "SIZE_BODIES" "[I" host ∈ NWs) (kk : W p l e R s m args below meth c H locs cells slots Q (F0 m pc' ls (.ref G.2.2.2.1 :: rest))) : W p l e R s m args below meth c H locs cells slots Q (F0 m pc ls rest) := by
  subst hp
  exact va_getsN X.1.1 X.1.2.1 X.g.2.2.2.1.1 Y.2.2 X.1.2.2.2.1 (va_Nw.use rfl (X.g.2.1.1 _ hw)) (fun _ h => h) (X.d hk) kk
theorem r_sld_sb (X : rX G P cc nL own y ret A p s m args meth c) (Y : rY G A s ws H locs) (k : Nat) (hk : P[k]? = some (pc, .iaload, 1)) (hp : pc + 1 = pc') {i : Int32} (hin : vp_in i 6) (kk : W p l e R s m args below meth c H locs cells slots Q (F0 m pc' ls (.int (kx1 i.toNatClampNeg) :: rest))) : W p l e R s m args below meth c H locs cells slots Q (F0 m pc ls (.int i :: .ref G.2.2.2.1 :: rest)) := by
  subst hp
  exact va_sld X.1.1 X.1.2.1 X.g.2.2.2.1.2.1 X.g.2.2.2.1.2.2.1 X.g.2.2.2.1.2.2.2 Y.2.2 hin (X.d hk) kk
theorem r_gets_mb (X : rX G P cc nL own y ret A p s m args meth c) (Y : rY G A s ws H locs) {idx : Nat} (k : Nat) (hk : P[k]? = some (pc, .getstatic idx, 3)) (hp : pc + 3 = pc') (hw : Cond.fieldLink own idx "TableFirms$Asks" "MARK_BODIES" "[I" ∈ WG) (kk : W p l e R s m args below meth c H locs cells slots Q (F0 m pc' ls (.ref G.2.2.2.2 :: rest))) : W p l e R s m args below meth c H locs cells slots Q (F0 m pc ls rest) := by
  subst hp
  exact va_gets X.1.1 X.1.2.1 X.g.2.2.2.2.1 Y.2.2 X.1.2.2.2.1 (X.w hw) (fun _ h => h) (X.d hk) kk
theorem r_getsN_mb (X : rX G P cc nL own y ret A p s m args meth c) (Y : rY G A s ws H locs) {idx : Nat} {host : String} (k : Nat) (hk : P[k]? = some (pc, .getstatic idx, 3)) (hp : pc + 3 = pc') (hw : Cond.fieldLinkNest own idx "TableFirms$Asks" "MARK_BODIES" "[I" host ∈ NWs) (kk : W p l e R s m args below meth c H locs cells slots Q (F0 m pc' ls (.ref G.2.2.2.2 :: rest))) : W p l e R s m args below meth c H locs cells slots Q (F0 m pc ls rest) := by
  subst hp
  exact va_getsN X.1.1 X.1.2.1 X.g.2.2.2.2.1 Y.2.2 X.1.2.2.2.1 (va_Nw.use rfl (X.g.2.1.1 _ hw)) (fun _ h => h) (X.d hk) kk
theorem r_sld_mb (X : rX G P cc nL own y ret A p s m args meth c) (Y : rY G A s ws H locs) (k : Nat) (hk : P[k]? = some (pc, .iaload, 1)) (hp : pc + 1 = pc') {i : Int32} (hin : vp_in i 6) (kk : W p l e R s m args below meth c H locs cells slots Q (F0 m pc' ls (.int (kx2 i.toNatClampNeg) :: rest))) : W p l e R s m args below meth c H locs cells slots Q (F0 m pc ls (.int i :: .ref G.2.2.2.2 :: rest)) := by
  subst hp
  exact va_sld X.1.1 X.1.2.1 X.g.2.2.2.2.2.1 X.g.2.2.2.2.2.2.1 X.g.2.2.2.2.2.2.2 Y.2.2 hin (X.d hk) kk
theorem r_copyi (X : rX G P cc nL own y ret A p s m args meth c) (Y : rY G A s ws H locs) {idx : Nat} (k : Nat) (hk : P[k]? = some (pc, .invokestatic idx, 3)) (hp : pc + 3 = pc') (hw : Cond.methodLink own idx arraycopyName ∈ WG ∧ Cond.native arraycopyName ∈ WG ∧ Cond.static arraycopyName ∈ WG ∧ Cond.initialized "java/lang/System" ∈ WG) (q0 q1 : Nat) {a0 a n0 n1 : Nat} {f g : Nat → Int32} {sp dp n : Int32} (he0 : ws[q0]? = some (a0, .inl (cyI G, n0, .inl f))) (he1 : ws[q1]? = some (a, .inl (cyI G, n1, .inl g))) (hl : ls.size = nL)
    (hgd : (¬ sp < 0 ∧ ¬ dp < 0 ∧ ¬ n < 0) ∧ sp.toNatClampNeg + n.toNatClampNeg ≤ n0 ∧ dp.toNatClampNeg + n.toNatClampNeg ≤ n1) (hfr : 1 ≤ R.frames ∧ (rest.map fun v => v.category).sum + (nativeFrameWords "java/lang/System" "arraycopy" 5 + 11) ≤ R.locals) (hws : ws.set q1 (a, .inl (cyI G, n1, .inl (va_cpy f g sp.toNatClampNeg dp.toNatClampNeg n.toNatClampNeg))) = ws') (kk : ∀ H locs, rY G A s ws' H locs → W p l e R s m args below meth c H locs cells slots Q (F0 m pc' ls rest)) : W p l e R s m args below meth c H locs cells slots Q (F0 m pc ls (.int n :: .int dp :: .ref a :: .int sp :: .ref a0 :: rest)) := by
  subst hp
  subst hws
  exact va_copyi (D := G.1) (tys := tyG G) X.1.1 X.1.2.1 (X.1.2.2.1.trans hl.symm) X.1.2.2.2.1 (X.w hw.1) (X.w hw.2.1) (X.w hw.2.2.1) (X.w hw.2.2.2) X.g.1 Y.1 Y.2.1 Y.2.2 q0 q1 0 0 he0 he1 rfl rfl rfl hgd.1.1 hgd.1.2.1 hgd.1.2.2 hgd.2.1 hgd.2.2 (fun _ _ => rfl) hfr.1 hfr.2 (X.d hk) (fun H1 l1 a1 a2 a3 => kk H1 l1 ⟨a1, a2, a3⟩)
theorem r_min (X : rX G P cc nL own y ret A p s m args meth c) {idx : Nat} (k : Nat) (hk : P[k]? = some (pc, .invokestatic idx, 3)) (hp : pc + 3 = pc') (hw : Cond.methodLink own idx Lib.Math.min.name ∈ WG ∧ Cond.static Lib.Math.min.name ∈ WG ∧ Cond.initialized "java/lang/Math" ∈ WG ∧ Cond.code Lib.Math.min.name Lib.Math.min.code 2 (some .int) ∈ WG) (hl : ls.size = nL) {x y' : Int32} (hfr : 1 ≤ R.frames ∧ (rest.map fun v => v.category).sum + 13 ≤ R.locals ∧ cells ≤ R.cells ∧ slots ≤ R.slots) (kk : W p l e R s m args below meth c H locs cells slots Q (F0 m pc' ls (.int (if y' < x then y' else x) :: rest))) : W p l e R s m args below meth c H locs cells slots Q (F0 m pc ls (.int y' :: .int x :: rest)) := by
  subst hp
  exact va_mmin X.1.1 X.1.2.1 (X.1.2.2.1.trans hl.symm) X.1.2.2.2.1 (X.w hw.1) (X.w hw.2.1) (X.w hw.2.2.1) (X.w hw.2.2.2) hfr.1 hfr.2.1 hfr.2.2.1 hfr.2.2.2 (X.d hk) kk
theorem r_maxl (X : rX G P cc nL own y ret A p s m args meth c) {idx : Nat} (k : Nat) (hk : P[k]? = some (pc, .invokestatic idx, 3)) (hp : pc + 3 = pc') (hw : Cond.methodLink own idx Lib.MathLoose.max_long.x ∈ WG ∧ Cond.static Lib.MathLoose.max_long.x ∈ WG ∧ Cond.initialized "java/lang/Math" ∈ WG ∧ Cond.code Lib.MathLoose.max_long.x Lib.MathLoose.max_long.code 4 (some .long) ∈ WG) (hl : ls.size = nL) {x y' : Int64} (hfr : 1 ≤ R.frames ∧ (rest.map fun v => v.category).sum + 15 ≤ R.locals ∧ cells ≤ R.cells ∧ slots ≤ R.slots) (kk : W p l e R s m args below meth c H locs cells slots Q (F0 m pc' ls (.long (if y' < x then x else y') :: rest))) : W p l e R s m args below meth c H locs cells slots Q (F0 m pc ls (.long y' :: .long x :: rest)) := by
  subst hp
  exact va_mmax_long X.1.1 X.1.2.1 (X.1.2.2.1.trans hl.symm) X.1.2.2.2.1 (X.w hw.1) (X.w hw.2.1) (X.w hw.2.2.1) (X.w hw.2.2.2) hfr.1 hfr.2.1 hfr.2.2.1 hfr.2.2.2 (X.d hk) kk
theorem fm_of {α β : Type} {is : List α} {f : α → Option β} {w : List β} (h : is.map f = w.map some) : is.filterMap f = w := by
  induction is generalizing w with
  | nil => cases w with
    | nil => rfl
    | cons b w => cases h
  | cons i is ih => cases w with
    | nil => cases h
    | cons b w =>
      simp only [List.map_cons, List.cons.injEq] at h
      rw [List.filterMap_cons_some h.1, ih h.2]
theorem gi_cons {a b : Cond} (h : b ∈ WG) : GoodIn (a :: WG) (b :: WG) := fun w hw => by
  rcases List.mem_cons.mp hw with rfl | hw
  · exact ⟨List.mem_cons_of_mem _ h, good_of_word (WG_gd _ h)⟩
  · exact ⟨List.mem_cons_of_mem _ hw, good_of_word (WG_gd _ hw)⟩
def noMH (y : MethodName) (n : Nat) : Prop := y.cls ≠ "java/lang/invoke/MethodHandle" ∧ y.cls ≠ "java/lang/invoke/VarHandle" ∧ (parseMethodDescriptor y.desc).map (fun d => d.parameters.length) = some n
def MLv (own : String) (idx : Nat) (y : MethodName) (cc : ByteArray) (nL : Nat) (ret : Option FieldType) (ci n : Nat) : Prop := (∃ r : vw_C, vwCl[ci]? = some r ∧ r.1 = y.cls) ∧ noMH y n ∧ Cond.methodLink own idx y ∈ WG ∧ Cond.instanceMethod y ∈ WG ∧ Cond.selects y.cls y y ∈ WG ∧ Cond.initialized y.cls ∈ WG ∧ Cond.code y cc nL ret ∈ WG
def MLn (own : String) (idx : Nat) (y : MethodName) (cc : ByteArray) (nL : Nat) (ret : Option FieldType) (ci n : Nat) : Prop := (∃ r : vw_C, vwCl[ci]? = some r ∧ r.1 = y.cls) ∧ noMH y n ∧ (∃ host, Cond.methodLinkNest own idx y host ∈ NWs) ∧ Cond.instanceMethod y ∈ WG ∧ Cond.selects y.cls y y ∈ WG ∧ Cond.initialized y.cls ∈ WG ∧ Cond.code y cc nL ret ∈ WG
def MLs (own : String) (idx : Nat) (y : MethodName) (cc : ByteArray) (nL : Nat) (ret : Option FieldType) (n : Nat) : Prop := noMH y n ∧ Cond.methodLink own idx y ∈ WG ∧ Cond.static y ∈ WG ∧ Cond.initialized y.cls ∈ WG ∧ Cond.code y cc nL ret ∈ WG
def MLsn (own : String) (idx : Nat) (y : MethodName) (cc : ByteArray) (nL : Nat) (ret : Option FieldType) (n : Nat) : Prop := noMH y n ∧ (∃ host, Cond.methodLinkNest own idx y host ∈ NWs) ∧ Cond.static y ∈ WG ∧ Cond.initialized y.cls ∈ WG ∧ Cond.code y cc nL ret ∈ WG
theorem pre_of {wc : va_W} {av : List Value} (X : rX G P cc nL own y ret A p s m args meth c) (Y : rY G A s ws H locs) (isC : List Nat) (hC1 : isC.map (fun i => ws[i]?) = wc.map some) (hnC : va_nd isC = true) : ∀ U : State, U.heap = H → s.WarmedH U.vm → gPc G av wc H.size av.toArray U := fun U hU hW => by
  have hFc := va_free Y.2.1 Y.2.2 X.2.2.2.1 isC hC1
  refine ⟨rfl, by rw [hU], ⟨va_K.moved hW.alike X.g.1, gN.warm X.g.2.1 hW, X.g.2.2.to hW.alike (fun a h1 h2 => by rw [hU]; exact Y.2.2.2.1 a h1 h2) (by rw [hU]; exact Y.2.2.1) (fun q h => hFc q h)⟩, by rw [hU]; exact Y.1.sub isC (fm_of hC1), (Y.2.1.sub isC hnC hC1).weaken (fun _ _ _ _ => trivial)⟩
/-- behind a call -/
theorem run_of {S : Type} {wc wr : va_W} {a : Array Value} {M : Option S} {rv : S → Option Value} {wc' w2 : S → va_W} (X : rX G P cc nL own y ret A p s m args meth c) (Y : rY G A s ws H locs) (isC isR is2 : List Nat) (hC1 : isC.map (fun i => ws[i]?) = wc.map some) (hR1 : isR.map (fun i => ws[i]?) = wr.map some) (hnR : va_nd isR = true) (hdis : ∀ i ∈ isR, i ∉ isC) (hn2 : va_nd is2 = true) (h2 : ∀ u, is2.map (fun i => (wr ++ wc' u)[i]?) = (w2 u).map some)
    (run : va_Run p l e R s m args below meth c H locs cells slots 0 0 (F0 m pc ls st) rest (gQc G wc H.size M rv wc' a) (va_A wc H.size))
    (kk : ∀ (u : S) (H : Heap) (locs : List Loc), M = some u → rY G A s (w2 u) H locs → W p l e R s m args below meth c H locs cells slots Q (F0 m (pc + 3) ls ((rv u).toList ++ rest))) : W p l e R s m args below meth c H locs cells slots Q (F0 m pc ls st) := by
  have hFc := va_free Y.2.1 Y.2.2 X.2.2.2.1 isC hC1
  intro T hT XT
  obtain ⟨v, st₀, t, T', L, h0, XT', hL, e1, e2, ⟨⟨u, hu, hoc, hP1, hD1⟩, hz, hk1⟩, stp⟩ := run T hT XT
  cases hoc
  rw [h0] at hz hk1
  obtain ⟨hP2, hD2⟩ := va_join Y.1 Y.2.1 isC isR hC1 hR1 hnR hdis hk1 (fun q h => hFc q h) hP1 hD1
  have hS2 : va_S A s.heap T'.heap (locs ++ L) := ⟨Nat.le_trans Y.2.2.1 (by rw [e1]; exact hz), fun q h1 h2 => by rw [e1, hk1 q (Nat.lt_of_lt_of_le h1 Y.2.2.1) (fun z => h2 (hFc q z))]; exact Y.2.2.2.1 q h1 h2, fun q hq => by
      rcases List.mem_append.mp hq with h | h
      · exact Y.2.2.2.2 q h
      · exact hFc _ (hL q h)⟩
  obtain ⟨t2, a1, b1⟩ := kk u T'.heap (locs ++ L) hu ⟨by rw [e1]; exact hP2.sub is2 (fm_of (h2 u)), hD2.sub is2 hn2 (h2 u), hS2⟩ T' rfl XT'
  exact ⟨t2, stp t2 a1, b1⟩
/-- loops and joins of a mirror -/
def lp {σ β : Type} (F : (σ → Option β) → σ → Option β) : Nat → σ → Option β
  | 0, _ => none
  | n + 1, s => F (lp F n) s
def jn {σ α : Type} (r : σ → Option α) (k : (σ → Option α) → Option α) : Option α := k r
theorem lp_rule {σ β : Type} {F : (σ → Option β) → σ → Option β} {LL : Option β} (I : σ → Prop) (hne : LL ≠ none) (step : ∀ (rec : σ → Option β) (st : σ), (∀ st', rec st' = LL → I st') → F rec st = LL → I st) : ∀ (N : Nat) (s0 : σ), lp F N s0 = LL → I s0
  | 0, _, h => absurd h.symm hne
  | n + 1, s0, h => step (lp F n) s0 (lp_rule I hne step n) h
theorem mL {α β : Type} {o : Option β} {f : β → Option α} {M : Option α} (h : o.bind f = M) (hn : M ≠ none) : ∃ LL, o = LL ∧ LL ≠ none ∧ ∀ b, some b = LL → f b = M := ⟨o, rfl, mB h hn, fun b hb => mS h hb.symm⟩
theorem mJ {σ α : Type} {r : σ → Option α} {k : (σ → Option α) → Option α} {M : Option α} (h : jn r k = M) : ∃ J : σ → Option α, (∀ v, J v = r v) ∧ k J = M := ⟨r, fun _ => rfl, h⟩
def dj (a b : List Nat) : Bool := a.all (fun i => !b.contains i)
theorem dj_of {a b : List Nat} (h : dj a b = true) : ∀ i ∈ a, i ∉ b := fun i hi hb => by
  have h1 := List.all_eq_true.mp h i hi
  simp [List.contains_iff_mem, hb] at h1
theorem nb {r : Int32} (h : r = 0 ∨ r = 1) : narrow .boolean (.int r) = .int r := by
  rcases h with rfl | rfl <;> rfl
theorem tsw {x : Int32} (lo : Nat) (n : Nat) (h : ∀ k : Nat, k < n → ¬ x = Int32.ofNat (lo + k)) (hb : lo + n < 2 ^ 31) : x.toInt < (lo : Int) ∨ ((lo + n : Nat) : Int) ≤ x.toInt := by
  rcases Int.lt_or_le x.toInt (lo : Int) with h1 | h1
  · exact Or.inl h1
  · rcases Int.lt_or_le x.toInt ((lo + n : Nat) : Int) with h2 | h2
    · exfalso
      refine h (x.toInt - lo).toNat (by omega) ?_
      have e : lo + (x.toInt - lo).toNat = x.toInt.toNat := by omega
      rw [e]
      have e3 := nI_toInt (n := x.toInt.toNat) (by omega)
      refine Int32.toInt_inj.mp ?_
      show x.toInt = (nI x.toInt.toNat).toInt
      rw [e3]
      omega
    · exact Or.inr h2
/-- behind a call that changes nothing -/
theorem run_of0 {S : Type} {wc : va_W} {a : Array Value} {M : Option S} {rv : S → Option Value} (X : rX G P cc nL own y ret A p s m args meth c) (Y : rY G A s ws H locs) (isC : List Nat) (hC1 : isC.map (fun i => ws[i]?) = wc.map some)
    (run : va_Run p l e R s m args below meth c H locs cells slots 0 0 (F0 m pc ls st) rest (gQc G wc H.size M rv (fun _ => wc) a) (va_A wc H.size))
    (kk : ∀ (u : S) (H : Heap) (locs : List Loc), M = some u → rY G A s ws H locs → W p l e R s m args below meth c H locs cells slots Q (F0 m (pc + 3) ls ((rv u).toList ++ rest))) : W p l e R s m args below meth c H locs cells slots Q (F0 m pc ls st) := by
  have hFc := va_free Y.2.1 Y.2.2 X.2.2.2.1 isC hC1
  intro T hT XT
  obtain ⟨v, st₀, t, T', L, h0, XT', hL, e1, e2, ⟨⟨u, hu, hoc, hP1, hD1⟩, hz, hk1⟩, stp⟩ := run T hT XT
  cases hoc
  rw [h0] at hz hk1
  have hP2 : va_P G.1 vwCl ws t.heap := by
    intro k q hq
    have hlt := (Y.1 k q hq).lt
    by_cases hin : va_A wc H.size q.1
    · rcases hin with ⟨k2, e3, h3⟩ | h3
      · have h4 : (isC.map (fun i => ws[i]?))[k2]? = some (some (q.1, e3)) := by rw [hC1, List.getElem?_map, h3]; rfl
        rw [List.getElem?_map] at h4
        cases hi : isC[k2]? with
        | none => rw [hi] at h4; cases h4
        | some i =>
          rw [hi] at h4
          have h5 : ws[i]? = some (q.1, e3) := Option.some.inj h4
          have h6 := Y.2.1.1 k i q (q.1, e3) hq h5 rfl
          subst h6
          rw [hq] at h5
          have h7 : q = (q.1, e3) := Option.some.inj h5
          exact hP1 k2 q (by rw [h7]; exact h3)
      · omega
    · exact (Y.1 k q hq).kept (hk1 q.1 hlt hin)
  have hS2 : va_S A s.heap T'.heap (locs ++ L) := ⟨Nat.le_trans Y.2.2.1 (by rw [e1]; exact hz), fun q h1 h2 => by rw [e1, hk1 q (Nat.lt_of_lt_of_le h1 Y.2.2.1) (fun z => h2 (hFc q z))]; exact Y.2.2.2.1 q h1 h2, fun q hq => by
      rcases List.mem_append.mp hq with h | h
      · exact Y.2.2.2.2 q h
      · exact hFc _ (hL q h)⟩
  obtain ⟨t2, a1, b1⟩ := kk u T'.heap (locs ++ L) hu ⟨by rw [e1]; exact hP2, Y.2.1, hS2⟩ T' rfl XT'
  exact ⟨t2, stp t2 a1, b1⟩
end ROWS
