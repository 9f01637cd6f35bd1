/-! ===== what a step of the reference's leaves as it was ===== -/
/-- all but now, before, acts, rows, bests is as it was -/
def Kp (S S' : MS) : Prop := (ms_status S' = ms_status S ∧ ms_fault S' = ms_fault S ∧ ms_items S' = ms_items S ∧ ms_lanes S' = ms_lanes S ∧ ms_sizes S' = ms_sizes S ∧ ms_length S' = ms_length S ∧ ms_tape S' = ms_tape S ∧ ms_traced S' = ms_traced S ∧ ms_trace S' = ms_trace S) ∧
  (ms_points S' = ms_points S ∧ ms_home S' = ms_home S ∧ ms_men S' = ms_men S ∧ ms_firms S' = ms_firms S ∧ ms_kinds S' = ms_kinds S ∧ ms_hasTable S' = ms_hasTable S ∧ ms_otherOne S' = ms_otherOne S ∧ ms_otherKind S' = ms_otherKind S) ∧ ms_imaged S' = ms_imaged S ∧ ms_images S' = ms_images S
def Kn (S S' : MS) : Prop := ms_now S' = ms_now S ∧ ms_acts S' = ms_acts S ∧ ms_before S' = ms_before S
theorem Kp.refl (S : MS) : Kp S S := ⟨⟨rfl, rfl, rfl, rfl, rfl, rfl, rfl, rfl, rfl⟩, ⟨rfl, rfl, rfl, rfl, rfl, rfl, rfl, rfl⟩, rfl, rfl⟩
theorem Kn.refl (S : MS) : Kn S S := ⟨rfl, rfl, rfl⟩
theorem Kp.trans {A B C : MS} (a : Kp A B) (b : Kp B C) : Kp A C := by
  obtain ⟨⟨a1, a2, a3, a4, a5, a6, a7, a8, a9⟩, ⟨c1, c2, c3, c4, c5, c6, c7, c8⟩, d1, d2⟩ := a
  obtain ⟨⟨b1, b2, b3, b4, b5, b6, b7, b8, b9⟩, ⟨e1, e2, e3, e4, e5, e6, e7, e8⟩, f1, f2⟩ := b
  exact ⟨⟨b1.trans a1, b2.trans a2, b3.trans a3, b4.trans a4, b5.trans a5, b6.trans a6, b7.trans a7, b8.trans a8, b9.trans a9⟩, ⟨e1.trans c1, e2.trans c2, e3.trans c3, e4.trans c4, e5.trans c5, e6.trans c6, e7.trans c7, e8.trans c8⟩, f1.trans d1, f2.trans d2⟩
theorem Kn.trans {A B C : MS} (a : Kn A B) (b : Kn B C) : Kn A C := ⟨b.1.trans a.1, b.2.1.trans a.2.1, b.2.2.trans a.2.2⟩
theorem kp_rows (S : MS) (R : Nat → Int32) : Kp S (ms_s_rows S R) := ⟨⟨rfl, rfl, rfl, rfl, rfl, rfl, rfl, rfl, rfl⟩, ⟨rfl, rfl, rfl, rfl, rfl, rfl, rfl, rfl⟩, rfl, rfl⟩
theorem kn_rows (S : MS) (R : Nat → Int32) : Kn S (ms_s_rows S R) := ⟨rfl, rfl, rfl⟩
theorem kp_bests (S : MS) (R : Nat → Int32) : Kp S (ms_s_bests S R) := ⟨⟨rfl, rfl, rfl, rfl, rfl, rfl, rfl, rfl, rfl⟩, ⟨rfl, rfl, rfl, rfl, rfl, rfl, rfl, rfl⟩, rfl, rfl⟩
theorem kn_bests (S : MS) (R : Nat → Int32) : Kn S (ms_s_bests S R) := ⟨rfl, rfl, rfl⟩
theorem kp_now (S : MS) (R : Nat → Int32) : Kp S (ms_s_now S R) := ⟨⟨rfl, rfl, rfl, rfl, rfl, rfl, rfl, rfl, rfl⟩, ⟨rfl, rfl, rfl, rfl, rfl, rfl, rfl, rfl⟩, rfl, rfl⟩
theorem kp_acts (S : MS) (a : Int32) : Kp S (ms_s_acts S a) := ⟨⟨rfl, rfl, rfl, rfl, rfl, rfl, rfl, rfl, rfl⟩, ⟨rfl, rfl, rfl, rfl, rfl, rfl, rfl, rfl⟩, rfl, rfl⟩
theorem kp_before (S : MS) (R : Nat → Int32) : Kp S (ms_s_before S R) := ⟨⟨rfl, rfl, rfl, rfl, rfl, rfl, rfl, rfl, rfl⟩, ⟨rfl, rfl, rfl, rfl, rfl, rfl, rfl, rfl⟩, rfl, rfl⟩
section KP
variable {pts hm n : Nat} {fm kd ps : Nat → Nat} {L i0 i1 : BD} {S S' : MS} {thr trn cub D : Nat} {ow : Int32} {ac : AC} {tf : TF} {rw_ : RW} {tp : TP} {bs : IA} {as : AS}
theorem EMb.kp (E : EMb pts hm n fm kd ps S) (k : Kp S S') (h : ms_now S' = ms_now S) : EMb pts hm n fm kd ps S' := by
  obtain ⟨-, ⟨c1, c2, c3, c4, c5, c6, c7, c8⟩, -⟩ := k
  obtain ⟨e1, e2, e3, e4⟩ := E
  exact ⟨c1.trans e1, c2.trans e2, c3.trans e3, fun i hi => by rw [c4, c5, h]; exact e4 i hi⟩
theorem ES.kp (E : ES pts hm n fm kd S) (k : Kp S S') : ES pts hm n fm kd S' := by
  obtain ⟨-, ⟨c1, c2, c3, c4, c5, c6, c7, c8⟩, -⟩ := k
  obtain ⟨e1, e2, e3, e4⟩ := E
  exact ⟨c1.trans e1, c2.trans e2, c3.trans e3, fun i hi => by rw [c4, c5, c7, c8]; exact e4 i hi⟩
theorem RelAct.kn {pts n : Nat} (A : RelAct pts n ac S) (h1 : ms_acts S' = ms_acts S) (h2 : ms_before S' = ms_before S) : RelAct pts n ac S' := by
  unfold RelAct at A ⊢
  rw [h1, h2]
  exact A
theorem RelImg.kp {k : Nat} {I : BD} {m : Nat} (h : RelImg k I S m) (q : Kp S S') : RelImg k I S' m := by
  obtain ⟨-, -, -, d2⟩ := q
  unfold RelImg at h ⊢
  rw [d2]
  exact h
def RelIm (i0 i1 : BD) (S : MS) : Prop := ∃ m0 m1 : Nat, ms_imaged S = nI (m0 + 2 * m1) ∧ RelImg 0 i0 S m0 ∧ RelImg 1 i1 S m1
theorem RelIm.kp (h : RelIm i0 i1 S) (q : Kp S S') : RelIm i0 i1 S' := by
  obtain ⟨m0, m1, a, b, c⟩ := h
  exact ⟨m0, m1, q.2.2.1.trans a, b.kp q, c.kp q⟩
theorem TabR.kp (h : TabR L S pts hm n fm kd ps thr trn cub ow) (k : Kp S S') (q : ms_now S' = ms_now S) : TabR L S' pts hm n fm kd ps thr trn cub ow := by
  obtain ⟨c1, ok, okt, E, T, EM, TM, c6, hoo⟩ := h
  refine ⟨c1, ok, okt, E, T, EM.kp k q, by rw [q]; exact TM, ?_, ?_⟩
  · exact k.2.1.2.2.2.2.2.1.trans c6
  · exact k.2.1.2.2.2.2.2.2.1.trans hoo
theorem relB_of (B : TabR L S pts hm n fm kd ps thr trn cub ow) (A : RelAct pts n ac S) (I : RelIm i0 i1 S) : RelB L i0 i1 ac S := by
  obtain ⟨c1, ok, okt, E, T, EM, TM, c6, hoo⟩ := B
  exact ⟨pts, hm, n, fm, kd, ps, thr, trn, cub, ow, Or.inr ⟨c1, ok, okt, T, TM, c6⟩, E, EM, A, hoo, I⟩
theorem Rel.mk {L' i0' i1' : BD} {ac' : AC} (h : Rel tf rw_ tp bs L i0 i1 ac as S) (k : Kp S S') (B : RelB L' i0' i1' ac' S') : Rel tf rw_ tp bs L' i0' i1' ac' as S' := by
  obtain ⟨hT, hR, hP, hA, -⟩ := h
  obtain ⟨⟨a1, a2, a3, a4, a5, a6, a7, a8, a9⟩, -⟩ := k
  refine ⟨⟨hT.1.trans a2.symm, hT.2.trans a1.symm⟩, ?_, ?_, ?_, B⟩
  · unfold RelRow at hR ⊢
    rw [a3, a4, a5]
    exact hR
  · unfold RelTape at hP ⊢
    rw [a6, a7]
    exact hP
  · unfold RelAsk at hA ⊢
    rw [a8, a9]
    exact hA
theorem Rel.tabs (h : Rel tf rw_ tp bs L i0 i1 ac as S) : (bd_men L = 0 ∧ ms_men S = 0 ∧ ms_hasTable S = 0 ∧ ac_kept ac = 0) ∨ ∃ (pts hm n : Nat) (fm kd ps : Nat → Nat) (thr trn cub : Nat) (ow : Int32), TabR L S pts hm n fm kd ps thr trn cub ow ∧ RelAct pts n ac S ∧ RelIm i0 i1 S := by
  obtain ⟨pts, hm, n, fm, kd, ps, thr, trn, cub, ow, hcase, E, EM, hAct, hoo, hImg⟩ := h.2.2.2.2
  rcases hcase with ⟨c1, c2, c3, c4, c5, c6, c7⟩ | ⟨c1, ok, okt, T, TM, c6⟩
  · subst c1
    exact Or.inl ⟨E.2.2.1, EM.2.2.1, c6, c7.1⟩
  · exact Or.inr ⟨pts, hm, n, fm, kd, ps, thr, trn, cub, ow, ⟨c1, ok, okt, E, T, EM, TM, c6, hoo⟩, hAct, hImg⟩
theorem Rel.kp (h : Rel tf rw_ tp bs L i0 i1 ac as S) (k : Kp S S') (q : Kn S S') : Rel tf rw_ tp bs L i0 i1 ac as S' := by
  refine h.mk k ?_
  obtain ⟨pts, hm, n, fm, kd, ps, thr, trn, cub, ow, hcase, E, EM, hAct, hoo, hImg⟩ := h.2.2.2.2
  refine ⟨pts, hm, n, fm, kd, ps, thr, trn, cub, ow, ?_, E, EM.kp k q.1, hAct.kn q.2.1 q.2.2, k.2.1.2.2.2.2.2.2.1.trans hoo, RelIm.kp hImg k⟩
  rw [q.1, k.2.1.2.2.2.2.2.1, k.2.2.1]
  exact hcase
theorem kp_aside (S : MS) {D : Nat} (hD : D < 4) : ∃ S', M_X8_aside S (nI D) = some S' ∧ Kp S S' ∧ Kn S S' ∧ ms_rows S' = asR D (ms_rows S) (ms_now S) 12 := ⟨_, s8_aside S hD, kp_rows S _, kn_rows S _, rfl⟩
theorem kp_deeper (S : MS) {D : Nat} (hD : D < 3) : ∃ S', M_X8_deeper S (nI D) = some S' ∧ Kp S S' ∧ Kn S S' ∧ ms_rows S' = asR (D + 1) (ms_rows S) (fun x => ms_rows S (12 * D + x)) 12 := ⟨_, s8_deeper S hD, kp_rows S _, kn_rows S _, rfl⟩
theorem kp_wonNow (E : EMb pts hm n fm kd ps S) (ho : ms_otherOne S = -1000000) (ok : OKb pts hm n fm kd ps) : ∃ S', M_X8_wonNow S = some (mnb 1000 (winA pts n fm ps), S') ∧ Kp S S' ∧ Kn S S' ∧ ms_rows S' = asR 0 (ms_rows S) (ms_now S) 12 := ⟨_, s8_wonNow E ho ok, kp_rows S _, kn_rows S _, rfl⟩
theorem kp_goMan (hS : ES pts hm n fm kd S) (hE : ER pts n ps D S) (hD : D < 4) (ok : OKb pts hm n fm kd ps) {i d : Nat} (hi : i < n) (hd1 : 1 ≤ d) (hd : d ≤ 6) :
    ∃ S', M_X8_goMan S (nI D) (nI i) (nI d) = some S' ∧ ER pts n (goA pts n fm ps i (aimA pts (fm i) (kd i) (ps i) d)) D S' ∧ (∀ k, (k < 12 * D ∨ 12 * D + 8 ≤ k) → ms_rows S' k = ms_rows S k) ∧ Kp S S' ∧ Kn S S' := by
  obtain ⟨R, a, b, c⟩ := s8_goMan hS hE hD ok hi hd1 hd
  exact ⟨_, a, b, c, kp_rows S _, kn_rows S _⟩
theorem kp_goTurn (T : EMt thr trn cub ow (fun c => ms_rows S (12 * D + c))) (hD : D < 4) (ht : thr < 2) :
    ∃ S', M_X8_goTurn S (nI D) = some S' ∧ EMt (1 - thr) (trn + 1) cub ow (fun c => ms_rows S' (12 * D + c)) ∧ (∀ k, k ≠ 12 * D + 8 → k ≠ 12 * D + 11 → ms_rows S' k = ms_rows S k) ∧ Kp S S' ∧ Kn S S' := by
  obtain ⟨R, a, b, c⟩ := s8_goTurn T hD ht
  exact ⟨_, a, b, c, kp_rows S _, kn_rows S _⟩
theorem kp_goRuled (hS : ES pts hm n fm kd S) (hE : ER pts n ps D S) (T : EMt thr trn cub ow (fun c => ms_rows S (12 * D + c))) (hD : D < 4) (ok : OKb pts hm n fm kd ps) {d : Nat} (ht : thr < 2) (hd1 : 1 ≤ d) (hd : d ≤ 6) :
    ∃ S', M_X8_goRuled S (nI D) (nI d) = some (mnb 1000 (rulA pts hm n fm kd ps thr d n), S') ∧ ER pts n (turA pts hm n fm kd ps thr d) D S' ∧ EMt (1 - thr) (trn + 1) cub ow (fun c => ms_rows S' (12 * D + c)) ∧ (∀ k, (k < 12 * D ∨ 12 * D + 12 ≤ k) → ms_rows S' k = ms_rows S k) ∧ Kp S S' ∧ Kn S S' := by
  obtain ⟨R, a, b, c, d⟩ := s8_goRuled hS hE T hD ok ht hd1 hd
  exact ⟨_, a, b, c, d, kp_rows S _, kn_rows S _⟩
theorem kp_take (S : MS) : ∃ S', M_X8_take S = some S' ∧ Kp S S' ∧ ms_now S' = asR 0 (ms_now S) (ms_rows S) 12 ∧ ms_acts S' = ms_acts S ∧ ms_before S' = ms_before S := ⟨_, s8_take S, kp_now S _, rfl, rfl, rfl⟩
theorem kp_keep (A : RelAct pts n ac S) (B : TabR L S pts hm n fm kd ps thr trn cub ow) :
    ∃ ac' S', M_X0_keep ac L = some ac' ∧ M_X8_note S = some S' ∧ RelAct pts n ac' S' ∧ Kp S S' ∧ ms_now S' = ms_now S ∧ ms_rows S' = ms_rows S := by
  obtain ⟨c1, ok, okt, E, T, EM, TM, c6, hoo⟩ := B
  obtain ⟨ac', a, Bf, g1, g2, g3⟩ := sp_keep A ok okt E T EM TM
  exact ⟨ac', _, g1, g2, g3, (kp_acts S a).trans (kp_before _ _), rfl, rfl⟩
/-- what stands aside is what stands -/
theorem er_rows {S0 : MS} (E : EMb pts hm n fm kd ps S0) (hn : n ≤ 8) (h : ms_rows S = asR D (ms_rows S0) (ms_now S0) 12) : ER pts n ps D S := fun i hi => by
  rw [h, asR_in (show i < 12 by omega)]
  exact (E.2.2.2 i hi).2.2
theorem emt_rows {S0 : MS} (T : EMt thr trn cub ow (ms_now S0)) (h : ms_rows S = asR D (ms_rows S0) (ms_now S0) 12) : EMt thr trn cub ow (fun c => ms_rows S (12 * D + c)) := by
  rw [h]
  exact emt_aside T
theorem er_same {S0 : MS} (E : ER pts n ps D S0) (hn : n ≤ 8) (h : ∀ k, 12 * D ≤ k → k < 12 * D + 8 → ms_rows S k = ms_rows S0 k) : ER pts n ps D S := fun i hi => (h _ (by omega) (by omega)).trans (E i hi)
end KP
