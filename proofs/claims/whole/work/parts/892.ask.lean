/-! ===== ask ===== -/
def gBG (BG : AS → BD → Int32 → Int32 → Int32 → Option (Int32 × AS)) (AN : BD → AS → Int32 → Int32 → Int32 → Option (Int32 × AS)) (S0 : AS) (S1 : BD) (i2 : Int32) (i3 : Int32) (i4 : Int32) : Option (Int32 × AS) :=
  (if i4 ≤ (20 : Int32) then ((M_X1_leave S0 i3).bind (fun u2 => (if i3 = 10 then ((M_X2_pipsOf S1 i2).bind (fun u4 => (some (u4, u2)))) else (if i3 = 11 then ((BG u2 S1 i2 (10 : Int32) ((i4 + (1 : Int32)))).bind (fun u5 => ((AN S1 u5.2 i2 (1 : Int32) ((i4 + (1 : Int32)))).bind (fun u6 => (some ((u5.1 + u6.1), u6.2)))))) else (if i3 = 12 then ((BG u2 S1 i2 (11 : Int32) ((i4 + (1 : Int32)))).bind (fun u7 => (some ((-u7.1), u7.2)))) else (if i3 = 13 then ((BG u2 S1 i2 (10 : Int32) ((i4 + (1 : Int32)))).bind (fun u8 => (some ((u8.1 - (100 : Int32)), u8.2)))) else (if i3 = 14 then ((BG u2 S1 i2 (13 : Int32) ((i4 + (1 : Int32)))).bind (fun u9 => (some (((2 : Int32) * u9.1), u9.2)))) else (if i3 = 15 then (some ((0 : Int32), u2)) else (if i3 = 16 then (some ((0 : Int32), u2)) else (if i3 = 17 then (some ((0 : Int32), u2)) else (if i3 = 18 then (some ((0 : Int32), u2)) else (if i3 = 19 then (some ((0 : Int32), u2)) else (if i3 = 20 then (some (i2, u2)) else (if i3 = 21 then ((BG u2 S1 i2 (20 : Int32) ((i4 + (1 : Int32)))).bind (fun u10 => (some ((u10.1 + (bd_cube S1)), u10.2)))) else (if i3 = 22 then ((BG u2 S1 i2 (21 : Int32) ((i4 + (1 : Int32)))).bind (fun u11 => (some ((u11.1 - (1000 : Int32)), u11.2)))) else (if i3 = 23 then ((BG u2 S1 i2 (20 : Int32) ((i4 + (1 : Int32)))).bind (fun u12 => ((AN S1 u12.2 i2 (0 : Int32) ((i4 + (1 : Int32)))).bind (fun u13 => (some ((u12.1 - u13.1), u13.2)))))) else (if i3 = 24 then ((BG u2 S1 i2 (21 : Int32) ((i4 + (1 : Int32)))).bind (fun u14 => (some (((2 : Int32) * u14.1), u14.2)))) else (some ((0 : Int32), u2))))))))))))))))))) else (some ((0 : Int32), S0)))
def gAN (BG : AS → BD → Int32 → Int32 → Int32 → Option (Int32 × AS)) (S0 : BD) (S1 : AS) (i2 : Int32) (i3 : Int32) (i4 : Int32) : Option (Int32 × AS) :=
  (if inb i2 8 = true then ((M_X1_bodyTold i3 (((bd_kindsTold S0) (i2).toNatClampNeg))).bind (fun u2 => ((lp (σ := Int32 × Int32 × Int32) (β := Int32) (fun rec3 st3 => (if (6 : Int32) ≤ st3.2.2 then (some st3.2.1) else (if st3.2.1 = 0 then (if inb st3.1 6 = true then ((M_X1_bodyTold i3 ((kx0 (st3.1).toNatClampNeg))).bind (fun u8 => (rec3 ((kx0 (st3.1).toNatClampNeg), u8, (st3.2.2 + (1 : Int32)))))) else none) else (some st3.2.1)))) 1000000 (((bd_kindsTold S0) (i2).toNatClampNeg), u2, (0 : Int32))).bind (fun b3 => ((BG S1 S0 i2 b3 i4).bind (fun u4 => (some (u4.1, u4.2)))))))) else none)
theorem bg_1 : M_X1_begun_1 = gBG M_X1_begun_0 M_X1_anew_0 := rfl
theorem bg_2 : M_X1_begun_2 = gBG M_X1_begun_1 M_X1_anew_1 := rfl
theorem bg_3 : M_X1_begun_3 = gBG M_X1_begun_2 M_X1_anew_2 := rfl
theorem bg_4 : M_X1_begun_4 = gBG M_X1_begun_3 M_X1_anew_3 := rfl
theorem an_2 : M_X1_anew_2 = gAN M_X1_begun_2 := rfl
theorem an_3 : M_X1_anew_3 = gAN M_X1_begun_3 := rfl
theorem an_4 : M_X1_anew_4 = gAN M_X1_begun_4 := rfl
/-- all but the trace is as it was -/
def Ka (S S' : MS) : Prop := (ms_status S' = ms_status S ∧ ms_fault S' = ms_fault S ∧ ms_items S' = ms_items S ∧ ms_lanes S' = ms_lanes S ∧ ms_sizes S' = ms_sizes S ∧ ms_length S' = ms_length S ∧ ms_tape S' = ms_tape S) ∧
  (ms_points S' = ms_points S ∧ ms_home S' = ms_home S ∧ ms_men S' = ms_men S ∧ ms_firms S' = ms_firms S ∧ ms_kinds S' = ms_kinds S ∧ ms_hasTable S' = ms_hasTable S ∧ ms_otherOne S' = ms_otherOne S) ∧ (ms_imaged S' = ms_imaged S ∧ ms_images S' = ms_images S) ∧ Kn S S'
theorem Ka.trans {A B C : MS} (a : Ka A B) (b : Ka B C) : Ka A C := by
  obtain ⟨⟨a1, a2, a3, a4, a5, a6, a7⟩, ⟨c1, c2, c3, c4, c5, c6, c7⟩, ⟨d1, d2⟩, k⟩ := a
  obtain ⟨⟨b1, b2, b3, b4, b5, b6, b7⟩, ⟨e1, e2, e3, e4, e5, e6, e7⟩, ⟨f1, f2⟩, l⟩ := b
  exact ⟨⟨b1.trans a1, b2.trans a2, b3.trans a3, b4.trans a4, b5.trans a5, b6.trans a6, b7.trans a7⟩, ⟨e1.trans c1, e2.trans c2, e3.trans c3, e4.trans c4, e5.trans c5, e6.trans c6, e7.trans c7⟩, ⟨f1.trans d1, f2.trans d2⟩, k.trans l⟩
theorem ka_traced (S : MS) (v : Int32) : Ka S (ms_s_traced S v) := ⟨⟨rfl, rfl, rfl, rfl, rfl, rfl, rfl⟩, ⟨rfl, rfl, rfl, rfl, rfl, rfl, rfl⟩, ⟨rfl, rfl⟩, rfl, rfl, rfl⟩
theorem ka_trace (S : MS) (v : Nat → Int32) : Ka S (ms_s_trace S v) := ⟨⟨rfl, rfl, rfl, rfl, rfl, rfl, rfl⟩, ⟨rfl, rfl, rfl, rfl, rfl, rfl, rfl⟩, ⟨rfl, rfl⟩, rfl, rfl, rfl⟩
theorem ka_refl (S : MS) : Ka S S := ⟨⟨rfl, rfl, rfl, rfl, rfl, rfl, rfl⟩, ⟨rfl, rfl, rfl, rfl, rfl, rfl, rfl⟩, ⟨rfl, rfl⟩, rfl, rfl, rfl⟩
theorem Rel.ka {tf : TF} {rw_ : RW} {tp : TP} {bs : IA} {L i0 i1 : BD} {ac : AC} {as as' : AS} {S S' : MS} (h : Rel tf rw_ tp bs L i0 i1 ac as S) (k : Ka S S') (ha : RelAsk as' S') : Rel tf rw_ tp bs L i0 i1 ac as' S' := by
  obtain ⟨hT, hR, hP, hA, hB⟩ := h
  obtain ⟨pts, hm, n, fm, kd, ps, thr, trn, cub, ow, hcase, E, EM, hAct, hoo, m0, m1, im, j0, j1⟩ := hB
  obtain ⟨⟨a1, a2, a3, a4, a5, a6, a7⟩, ⟨c1, c2, c3, c4, c5, c6, c7⟩, ⟨d1, d2⟩, q⟩ := k
  have hi : ∀ k I m, RelImg k I S m → RelImg k I S' m := fun k I m hh => by
    unfold RelImg at hh ⊢
    rw [d2]
    exact hh
  refine ⟨⟨hT.1.trans a2.symm, hT.2.trans a1.symm⟩, ?_, ?_, ha, pts, hm, n, fm, kd, ps, thr, trn, cub, ow, ?_, E, ?_, hAct.kn q.2.1 q.2.2, c7.trans hoo, m0, m1, d1.trans im, hi _ _ _ j0, hi _ _ _ j1⟩
  · unfold RelRow at hR ⊢
    rw [a3, a4, a5]
    exact hR
  · unfold RelTape at hP ⊢
    rw [a6, a7]
    exact hP
  · rw [q.1, c6, d1]
    exact hcase
  · obtain ⟨e1, e2, e3, e4⟩ := EM
    exact ⟨c1.trans e1, c2.trans e2, c3.trans e3, fun i hi => by rw [c4, c5, q.1]; exact e4 i hi⟩
theorem leave_two {as : AS} {S : MS} (h : RelAsk as S) (b : Int32) : ∃ as' S', M_X1_leave as b = some as' ∧ M_X8_leaves S b = some S' ∧ RelAsk as' S' ∧ Ka S S' := by
  obtain ⟨n, hn, e1, e2, e3⟩ := h
  unfold M_X1_leave M_X8_leaves
  rw [e1, e2]
  by_cases c : n = 16
  · subst c
    rw [if_pos (show (16 : Int32) ≤ nI 16 by decide), if_pos (show (16 : Int32) ≤ nI 16 by decide)]
    exact ⟨_, _, rfl, rfl, ⟨16, hn, e1, e2, e3⟩, ka_refl S⟩
  · have l1 : ¬ (16 : Int32) ≤ nI n := fun z => absurd ((leI (show 16 < 2 ^ 31 by omega) (show n < 2 ^ 31 by omega)).1 z) (by omega)
    rw [if_neg l1, if_neg l1, inb_nI (show n < 16 by omega) (by omega), cl (show n < 2 ^ 31 by omega), nI_p1]
    refine ⟨_, _, rfl, rfl, ⟨n + 1, by omega, rfl, rfl, fun k hk => ?_⟩, (ka_traced S _).trans (ka_trace _ _)⟩
    show upd (as_numbers as) n b k = upd (ms_trace S) n b k
    by_cases e : k = n
    · subst e; rw [upd_at, upd_at]
    · rw [upd_ne e, upd_ne e]; exact e3 k (by omega)
def Two (S0 : MS) (F : AS → Option (Int32 × AS)) (G : MS → Option (Int32 × MS)) : Prop := ∀ as S, RelAsk as S → Ka S0 S → ∃ v as' S', F as = some (v, as') ∧ G S = some (v, S') ∧ RelAsk as' S' ∧ Ka S0 S'
section ASK
variable {pts hm n : Nat} {fm kd ps : Nat → Nat} {L : BD} {S0 : MS} {thr trn cub : Nat} {ow : Int32} {i t : Nat} {BG : AS → BD → Int32 → Int32 → Int32 → Option (Int32 × AS)} {AN : BD → AS → Int32 → Int32 → Int32 → Option (Int32 × AS)}
theorem t20 (h : t ≤ 20) : nI t ≤ (20 : Int32) := (leI (show t < 2 ^ 31 by omega) (show 20 < 2 ^ 31 by omega)).2 h
theorem ka_pips (B : TabR L S0 pts hm n fm kd ps thr trn cub ow) (hi : i < n) {S : MS} (k : Ka S0 S) : M_X8_pipsAt S (ms_firms S i) (ms_now S i) = some (nI (pipA pts (fm i) (ps i))) := by
  obtain ⟨c1, ok, okt, E, T, EM, TM, c6, hoo⟩ := B
  obtain ⟨o1, o2, o3, o4⟩ := ok.2.2.2.2.2 i hi
  rw [k.2.1.2.2.2.1, k.2.2.2.1, (EM.2.2.2 i hi).1, (EM.2.2.2 i hi).2.2]
  exact s8_pipsAt (k.2.1.1.trans EM.1) ok.2.1 o1 o4
theorem ka_kind (B : TabR L S0 pts hm n fm kd ps thr trn cub ow) (hi : i < n) {S : MS} (k : Ka S0 S) : ms_kinds S (nI i).toNatClampNeg = nI (kd i) := by
  have hn := B.n8
  obtain ⟨c1, ok, okt, E, T, EM, TM, c6, hoo⟩ := B
  rw [cl (show i < 2 ^ 31 by omega), k.2.1.2.2.2.2.1]
  exact (EM.2.2.2 i hi).2.1
theorem tb10 (B : TabR L S0 pts hm n fm kd ps thr trn cub ow) (hi : i < n) (ht : t ≤ 20) : Two S0 (fun a => gBG BG AN a L (nI i) 10 (nI t)) (fun S => M_X8_body10 S (nI i)) := by
  have hn := B.n8
  have hi8 : inb (nI i) 8 = true := inb_nI (show i < 8 by omega) (by omega)
  have hi12 : inb (nI i) 12 = true := inb_nI (show i < 12 by omega) (by omega)
  have ei : (nI i).toNatClampNeg = i := cl (by omega)
  intro as S hA hK
  obtain ⟨a1, S1, l1, l2, l3, l4⟩ := leave_two hA 10
  have hK1 := hK.trans l4
  have hp := ka_pips B hi hK1
  refine ⟨nI (pipA pts (fm i) (ps i)), a1, S1, ?_, ?_, l3, hK1⟩
  · simp only [gBG, t20 ht, if_true, l1, ob, sp_pipsOf B.2.2.2.1 B.2.1 hi]
  · simp only [M_X8_body10, l2, ob, hi8, hi12, if_true, ei, hp]
theorem tb20 (B : TabR L S0 pts hm n fm kd ps thr trn cub ow) (hi : i < n) (ht : t ≤ 20) : Two S0 (fun a => gBG BG AN a L (nI i) 20 (nI t)) (fun S => M_X8_body20 S (nI i)) := by
  have hn := B.n8
  have hi8 : inb (nI i) 8 = true := inb_nI (show i < 8 by omega) (by omega)
  have hi12 : inb (nI i) 12 = true := inb_nI (show i < 12 by omega) (by omega)
  have ei : (nI i).toNatClampNeg = i := cl (by omega)
  intro as S hA hK
  obtain ⟨a1, S1, l1, l2, l3, l4⟩ := leave_two hA 20
  have hK1 := hK.trans l4
  refine ⟨nI i, a1, S1, ?_, ?_, l3, hK1⟩
  · simp only [gBG, t20 ht, if_true, l1, ob, show ¬ (20 : Int32) = 10 by decide, show ¬ (20 : Int32) = 11 by decide, show ¬ (20 : Int32) = 12 by decide, show ¬ (20 : Int32) = 13 by decide, show ¬ (20 : Int32) = 14 by decide, show ¬ (20 : Int32) = 15 by decide, show ¬ (20 : Int32) = 16 by decide, show ¬ (20 : Int32) = 17 by decide, show ¬ (20 : Int32) = 18 by decide, show ¬ (20 : Int32) = 19 by decide, show ¬ (20 : Int32) = 21 by decide, show ¬ (20 : Int32) = 22 by decide, show ¬ (20 : Int32) = 23 by decide, show ¬ (20 : Int32) = 24 by decide, if_false]
  · simp only [M_X8_body20, l2, ob]
theorem tb10z (B : TabR L S0 pts hm n fm kd ps thr trn cub ow) (hi : i < n) (ht : t ≤ 20) : Two S0 (fun a => M_X1_begun_0 a L (nI i) 10 (nI t)) (fun S => M_X8_body10 S (nI i)) := by
  have hn := B.n8
  have hi8 : inb (nI i) 8 = true := inb_nI (show i < 8 by omega) (by omega)
  have hi12 : inb (nI i) 12 = true := inb_nI (show i < 12 by omega) (by omega)
  have ei : (nI i).toNatClampNeg = i := cl (by omega)
  intro as S hA hK
  obtain ⟨a1, S1, l1, l2, l3, l4⟩ := leave_two hA 10
  have hK1 := hK.trans l4
  have hp := ka_pips B hi hK1
  refine ⟨nI (pipA pts (fm i) (ps i)), a1, S1, ?_, ?_, l3, hK1⟩
  · simp only [M_X1_begun_0, t20 ht, if_true, l1, ob, sp_pipsOf B.2.2.2.1 B.2.1 hi]
  · simp only [M_X8_body10, l2, ob, hi8, hi12, if_true, ei, hp]
theorem tb20z (B : TabR L S0 pts hm n fm kd ps thr trn cub ow) (hi : i < n) (ht : t ≤ 20) : Two S0 (fun a => M_X1_begun_0 a L (nI i) 20 (nI t)) (fun S => M_X8_body20 S (nI i)) := by
  have hn := B.n8
  have hi8 : inb (nI i) 8 = true := inb_nI (show i < 8 by omega) (by omega)
  have hi12 : inb (nI i) 12 = true := inb_nI (show i < 12 by omega) (by omega)
  have ei : (nI i).toNatClampNeg = i := cl (by omega)
  intro as S hA hK
  obtain ⟨a1, S1, l1, l2, l3, l4⟩ := leave_two hA 20
  have hK1 := hK.trans l4
  refine ⟨nI i, a1, S1, ?_, ?_, l3, hK1⟩
  · simp only [M_X1_begun_0, t20 ht, if_true, l1, ob, show ¬ (20 : Int32) = 10 by decide, show ¬ (20 : Int32) = 11 by decide, show ¬ (20 : Int32) = 12 by decide, show ¬ (20 : Int32) = 13 by decide, show ¬ (20 : Int32) = 14 by decide, show ¬ (20 : Int32) = 15 by decide, show ¬ (20 : Int32) = 16 by decide, show ¬ (20 : Int32) = 17 by decide, show ¬ (20 : Int32) = 18 by decide, show ¬ (20 : Int32) = 19 by decide, show ¬ (20 : Int32) = 21 by decide, show ¬ (20 : Int32) = 22 by decide, show ¬ (20 : Int32) = 23 by decide, show ¬ (20 : Int32) = 24 by decide, if_false]
  · simp only [M_X8_body20, l2, ob]
theorem tb21 (B : TabR L S0 pts hm n fm kd ps thr trn cub ow) (hi : i < n) (ht : t ≤ 20) (hsub : Two S0 (fun a => BG a L (nI i) 20 (nI (t + 1))) (fun S => M_X8_body20 S (nI i))) : Two S0 (fun a => gBG BG AN a L (nI i) 21 (nI t)) (fun S => M_X8_body21 S (nI i)) := by
  have hn := B.n8
  have hi8 : inb (nI i) 8 = true := inb_nI (show i < 8 by omega) (by omega)
  have hi12 : inb (nI i) 12 = true := inb_nI (show i < 12 by omega) (by omega)
  have ei : (nI i).toNatClampNeg = i := cl (by omega)
  intro as S hA hK
  obtain ⟨a1, S1, l1, l2, l3, l4⟩ := leave_two hA 21
  have hK1 := hK.trans l4
  obtain ⟨v, a2, S2, w1, w2, w3, w4⟩ := hsub a1 S1 l3 hK1
  have w1 : BG a1 L (nI i) 20 (nI (t + 1)) = some (v, a2) := w1
  have w2 : M_X8_body20 S1 (nI i) = some (v, S2) := w2
  have hc : bd_cube L = nI cub := B.2.2.2.2.1.2.2.1
  have h9 : ms_now S2 ((9 : Int32)).toNatClampNeg = nI cub := by
    rw [w4.2.2.2.1]
    exact B.2.2.2.2.2.2.1.2.2.1
  refine ⟨v + nI cub, a2, S2, ?_, ?_, w3, w4⟩
  · simp only [gBG, t20 ht, if_true, l1, ob, show ¬ (21 : Int32) = 10 by decide, show ¬ (21 : Int32) = 11 by decide, show ¬ (21 : Int32) = 12 by decide, show ¬ (21 : Int32) = 13 by decide, show ¬ (21 : Int32) = 14 by decide, show ¬ (21 : Int32) = 15 by decide, show ¬ (21 : Int32) = 16 by decide, show ¬ (21 : Int32) = 17 by decide, show ¬ (21 : Int32) = 18 by decide, show ¬ (21 : Int32) = 19 by decide, show ¬ (21 : Int32) = 20 by decide, show ¬ (21 : Int32) = 22 by decide, show ¬ (21 : Int32) = 23 by decide, show ¬ (21 : Int32) = 24 by decide, if_false, nI_p1, w1, hc]
  · simp only [M_X8_body21, l2, ob, w2, h9]
theorem tb13 (B : TabR L S0 pts hm n fm kd ps thr trn cub ow) (hi : i < n) (ht : t ≤ 20) (hsub : Two S0 (fun a => BG a L (nI i) 10 (nI (t + 1))) (fun S => M_X8_body10 S (nI i))) : Two S0 (fun a => gBG BG AN a L (nI i) 13 (nI t)) (fun S => M_X8_body13 S (nI i)) := by
  have hn := B.n8
  have hi8 : inb (nI i) 8 = true := inb_nI (show i < 8 by omega) (by omega)
  have hi12 : inb (nI i) 12 = true := inb_nI (show i < 12 by omega) (by omega)
  have ei : (nI i).toNatClampNeg = i := cl (by omega)
  intro as S hA hK
  obtain ⟨a1, S1, l1, l2, l3, l4⟩ := leave_two hA 13
  have hK1 := hK.trans l4
  obtain ⟨v, a2, S2, w1, w2, w3, w4⟩ := hsub a1 S1 l3 hK1
  have w1 : BG a1 L (nI i) 10 (nI (t + 1)) = some (v, a2) := w1
  have w2 : M_X8_body10 S1 (nI i) = some (v, S2) := w2
  refine ⟨v - 100, a2, S2, ?_, ?_, w3, w4⟩
  · simp only [gBG, t20 ht, if_true, l1, ob, show ¬ (13 : Int32) = 10 by decide, show ¬ (13 : Int32) = 11 by decide, show ¬ (13 : Int32) = 12 by decide, show ¬ (13 : Int32) = 14 by decide, show ¬ (13 : Int32) = 15 by decide, show ¬ (13 : Int32) = 16 by decide, show ¬ (13 : Int32) = 17 by decide, show ¬ (13 : Int32) = 18 by decide, show ¬ (13 : Int32) = 19 by decide, show ¬ (13 : Int32) = 20 by decide, show ¬ (13 : Int32) = 21 by decide, show ¬ (13 : Int32) = 22 by decide, show ¬ (13 : Int32) = 23 by decide, show ¬ (13 : Int32) = 24 by decide, if_false, nI_p1, w1]
  · simp only [M_X8_body13, l2, ob, w2]
theorem tb22 (B : TabR L S0 pts hm n fm kd ps thr trn cub ow) (hi : i < n) (ht : t ≤ 20) (hk : kd i = 3) (hsub : Two S0 (fun a => BG a L (nI i) 21 (nI (t + 1))) (fun S => M_X8_body21 S (nI i))) : Two S0 (fun a => gBG BG AN a L (nI i) 22 (nI t)) (fun S => M_X8_clerkMark S (nI i)) := by
  have hn := B.n8
  have hi8 : inb (nI i) 8 = true := inb_nI (show i < 8 by omega) (by omega)
  have hi12 : inb (nI i) 12 = true := inb_nI (show i < 12 by omega) (by omega)
  have ei : (nI i).toNatClampNeg = i := cl (by omega)
  intro as S hA hK
  obtain ⟨a1, S1, l1, l2, l3, l4⟩ := leave_two hA 22
  have hK1 := hK.trans l4
  obtain ⟨v, a2, S2, w1, w2, w3, w4⟩ := hsub a1 S1 l3 hK1
  have w1 : BG a1 L (nI i) 21 (nI (t + 1)) = some (v, a2) := w1
  have w2 : M_X8_body21 S1 (nI i) = some (v, S2) := w2
  have hkS := ka_kind B hi hK
  rw [hk] at hkS
  refine ⟨v - 1000, a2, S2, ?_, ?_, w3, w4⟩
  · simp only [gBG, t20 ht, if_true, l1, ob, show ¬ (22 : Int32) = 10 by decide, show ¬ (22 : Int32) = 11 by decide, show ¬ (22 : Int32) = 12 by decide, show ¬ (22 : Int32) = 13 by decide, show ¬ (22 : Int32) = 14 by decide, show ¬ (22 : Int32) = 15 by decide, show ¬ (22 : Int32) = 16 by decide, show ¬ (22 : Int32) = 17 by decide, show ¬ (22 : Int32) = 18 by decide, show ¬ (22 : Int32) = 19 by decide, show ¬ (22 : Int32) = 20 by decide, show ¬ (22 : Int32) = 21 by decide, show ¬ (22 : Int32) = 23 by decide, show ¬ (22 : Int32) = 24 by decide, if_false, nI_p1, w1]
  · simp only [M_X8_clerkMark, hi8, if_true, hkS, show (nI 3 = (2 : Int32)) = False from eq_false (by decide), show (nI 3 = (3 : Int32)) = True from eq_true rfl, show (nI 2 = (2 : Int32)) = True from eq_true rfl, show (nI 5 = (5 : Int32)) = True from eq_true rfl, if_true, if_false, l2, ob, w2]
theorem tb24 (B : TabR L S0 pts hm n fm kd ps thr trn cub ow) (hi : i < n) (ht : t ≤ 20) (hk : kd i = 2) (hsub : Two S0 (fun a => BG a L (nI i) 21 (nI (t + 1))) (fun S => M_X8_body21 S (nI i))) : Two S0 (fun a => gBG BG AN a L (nI i) 24 (nI t)) (fun S => M_X8_clerkMark S (nI i)) := by
  have hn := B.n8
  have hi8 : inb (nI i) 8 = true := inb_nI (show i < 8 by omega) (by omega)
  have hi12 : inb (nI i) 12 = true := inb_nI (show i < 12 by omega) (by omega)
  have ei : (nI i).toNatClampNeg = i := cl (by omega)
  intro as S hA hK
  obtain ⟨a1, S1, l1, l2, l3, l4⟩ := leave_two hA 24
  have hK1 := hK.trans l4
  obtain ⟨v, a2, S2, w1, w2, w3, w4⟩ := hsub a1 S1 l3 hK1
  have w1 : BG a1 L (nI i) 21 (nI (t + 1)) = some (v, a2) := w1
  have w2 : M_X8_body21 S1 (nI i) = some (v, S2) := w2
  have hkS := ka_kind B hi hK
  rw [hk] at hkS
  refine ⟨2 * v, a2, S2, ?_, ?_, w3, w4⟩
  · simp only [gBG, t20 ht, if_true, l1, ob, show ¬ (24 : Int32) = 10 by decide, show ¬ (24 : Int32) = 11 by decide, show ¬ (24 : Int32) = 12 by decide, show ¬ (24 : Int32) = 13 by decide, show ¬ (24 : Int32) = 14 by decide, show ¬ (24 : Int32) = 15 by decide, show ¬ (24 : Int32) = 16 by decide, show ¬ (24 : Int32) = 17 by decide, show ¬ (24 : Int32) = 18 by decide, show ¬ (24 : Int32) = 19 by decide, show ¬ (24 : Int32) = 20 by decide, show ¬ (24 : Int32) = 21 by decide, show ¬ (24 : Int32) = 22 by decide, show ¬ (24 : Int32) = 23 by decide, if_false, nI_p1, w1]
  · simp only [M_X8_clerkMark, hi8, if_true, hkS, show (nI 3 = (2 : Int32)) = False from eq_false (by decide), show (nI 3 = (3 : Int32)) = True from eq_true rfl, show (nI 2 = (2 : Int32)) = True from eq_true rfl, show (nI 5 = (5 : Int32)) = True from eq_true rfl, if_true, if_false, l2, ob, w2]
theorem tb14 (B : TabR L S0 pts hm n fm kd ps thr trn cub ow) (hi : i < n) (ht : t ≤ 20) (hk : kd i = 5) (hsub : Two S0 (fun a => BG a L (nI i) 13 (nI (t + 1))) (fun S => M_X8_body13 S (nI i))) : Two S0 (fun a => gBG BG AN a L (nI i) 14 (nI t)) (fun S => M_X8_partnerSize S (nI i)) := by
  have hn := B.n8
  have hi8 : inb (nI i) 8 = true := inb_nI (show i < 8 by omega) (by omega)
  have hi12 : inb (nI i) 12 = true := inb_nI (show i < 12 by omega) (by omega)
  have ei : (nI i).toNatClampNeg = i := cl (by omega)
  intro as S hA hK
  obtain ⟨a1, S1, l1, l2, l3, l4⟩ := leave_two hA 14
  have hK1 := hK.trans l4
  obtain ⟨v, a2, S2, w1, w2, w3, w4⟩ := hsub a1 S1 l3 hK1
  have w1 : BG a1 L (nI i) 13 (nI (t + 1)) = some (v, a2) := w1
  have w2 : M_X8_body13 S1 (nI i) = some (v, S2) := w2
  have hkS := ka_kind B hi hK
  rw [hk] at hkS
  refine ⟨2 * v, a2, S2, ?_, ?_, w3, w4⟩
  · simp only [gBG, t20 ht, if_true, l1, ob, show ¬ (14 : Int32) = 10 by decide, show ¬ (14 : Int32) = 11 by decide, show ¬ (14 : Int32) = 12 by decide, show ¬ (14 : Int32) = 13 by decide, show ¬ (14 : Int32) = 15 by decide, show ¬ (14 : Int32) = 16 by decide, show ¬ (14 : Int32) = 17 by decide, show ¬ (14 : Int32) = 18 by decide, show ¬ (14 : Int32) = 19 by decide, show ¬ (14 : Int32) = 20 by decide, show ¬ (14 : Int32) = 21 by decide, show ¬ (14 : Int32) = 22 by decide, show ¬ (14 : Int32) = 23 by decide, show ¬ (14 : Int32) = 24 by decide, if_false, nI_p1, w1]
  · simp only [M_X8_partnerSize, hi8, if_true, hkS, show (nI 3 = (2 : Int32)) = False from eq_false (by decide), show (nI 3 = (3 : Int32)) = True from eq_true rfl, show (nI 2 = (2 : Int32)) = True from eq_true rfl, show (nI 5 = (5 : Int32)) = True from eq_true rfl, if_true, if_false, l2, ob, w2]
theorem tb12 (B : TabR L S0 pts hm n fm kd ps thr trn cub ow) (hi : i < n) (ht : t ≤ 20) (hk : kd i = 2) (hsub : Two S0 (fun a => BG a L (nI i) 11 (nI (t + 1))) (fun S => M_X8_body11 S (nI i))) : Two S0 (fun a => gBG BG AN a L (nI i) 12 (nI t)) (fun S => M_X8_size S (nI i)) := by
  have hn := B.n8
  have hi8 : inb (nI i) 8 = true := inb_nI (show i < 8 by omega) (by omega)
  have hi12 : inb (nI i) 12 = true := inb_nI (show i < 12 by omega) (by omega)
  have ei : (nI i).toNatClampNeg = i := cl (by omega)
  intro as S hA hK
  obtain ⟨a1, S1, l1, l2, l3, l4⟩ := leave_two hA 12
  have hK1 := hK.trans l4
  obtain ⟨v, a2, S2, w1, w2, w3, w4⟩ := hsub a1 S1 l3 hK1
  have w1 : BG a1 L (nI i) 11 (nI (t + 1)) = some (v, a2) := w1
  have w2 : M_X8_body11 S1 (nI i) = some (v, S2) := w2
  have hkS := ka_kind B hi hK
  rw [hk] at hkS
  refine ⟨-v, a2, S2, ?_, ?_, w3, w4⟩
  · simp only [gBG, t20 ht, if_true, l1, ob, show ¬ (12 : Int32) = 10 by decide, show ¬ (12 : Int32) = 11 by decide, show ¬ (12 : Int32) = 13 by decide, show ¬ (12 : Int32) = 14 by decide, show ¬ (12 : Int32) = 15 by decide, show ¬ (12 : Int32) = 16 by decide, show ¬ (12 : Int32) = 17 by decide, show ¬ (12 : Int32) = 18 by decide, show ¬ (12 : Int32) = 19 by decide, show ¬ (12 : Int32) = 20 by decide, show ¬ (12 : Int32) = 21 by decide, show ¬ (12 : Int32) = 22 by decide, show ¬ (12 : Int32) = 23 by decide, show ¬ (12 : Int32) = 24 by decide, if_false, nI_p1, w1]
  · simp only [M_X8_size, hi8, if_true, hkS, show (nI 2 ≤ (3 : Int32)) = True from eq_true (by decide), show (nI 3 = (2 : Int32)) = False from eq_false (by decide), show (nI 3 = (3 : Int32)) = True from eq_true rfl, show (nI 2 = (2 : Int32)) = True from eq_true rfl, show (nI 5 = (5 : Int32)) = True from eq_true rfl, if_true, if_false, l2, ob, w2]
theorem tb11 (B : TabR L S0 pts hm n fm kd ps thr trn cub ow) (hi : i < n) (ht : t ≤ 20) (hsub : Two S0 (fun a => BG a L (nI i) 10 (nI (t + 1))) (fun S => M_X8_body10 S (nI i))) (hsub2 : Two S0 (fun a => AN L a (nI i) 1 (nI (t + 1))) (fun S => M_X8_clerkMark S (nI i))) : Two S0 (fun a => gBG BG AN a L (nI i) 11 (nI t)) (fun S => M_X8_body11 S (nI i)) := by
  have hn := B.n8
  have hi8 : inb (nI i) 8 = true := inb_nI (show i < 8 by omega) (by omega)
  have hi12 : inb (nI i) 12 = true := inb_nI (show i < 12 by omega) (by omega)
  have ei : (nI i).toNatClampNeg = i := cl (by omega)
  intro as S hA hK
  obtain ⟨a1, S1, l1, l2, l3, l4⟩ := leave_two hA 11
  have hK1 := hK.trans l4
  obtain ⟨v, a2, S2, w1, w2, w3, w4⟩ := hsub a1 S1 l3 hK1
  have w1 : BG a1 L (nI i) 10 (nI (t + 1)) = some (v, a2) := w1
  have w2 : M_X8_body10 S1 (nI i) = some (v, S2) := w2
  obtain ⟨u, a3, S3, x1, x2, x3, x4⟩ := hsub2 a2 S2 w3 w4
  have x1 : AN L a2 (nI i) 1 (nI (t + 1)) = some (u, a3) := x1
  have x2 : M_X8_clerkMark S2 (nI i) = some (u, S3) := x2
  refine ⟨v + u, a3, S3, ?_, ?_, x3, x4⟩
  · simp only [gBG, t20 ht, if_true, l1, ob, show ¬ (11 : Int32) = 10 by decide, show ¬ (11 : Int32) = 12 by decide, show ¬ (11 : Int32) = 13 by decide, show ¬ (11 : Int32) = 14 by decide, show ¬ (11 : Int32) = 15 by decide, show ¬ (11 : Int32) = 16 by decide, show ¬ (11 : Int32) = 17 by decide, show ¬ (11 : Int32) = 18 by decide, show ¬ (11 : Int32) = 19 by decide, show ¬ (11 : Int32) = 20 by decide, show ¬ (11 : Int32) = 21 by decide, show ¬ (11 : Int32) = 22 by decide, show ¬ (11 : Int32) = 23 by decide, show ¬ (11 : Int32) = 24 by decide, if_false, nI_p1, w1, x1]
  · simp only [M_X8_body11, l2, ob, w2, x2]
theorem tb23 (B : TabR L S0 pts hm n fm kd ps thr trn cub ow) (hi : i < n) (ht : t ≤ 20) (hk : 4 ≤ kd i) (hsub : Two S0 (fun a => BG a L (nI i) 20 (nI (t + 1))) (fun S => M_X8_body20 S (nI i))) (hsub2 : Two S0 (fun a => AN L a (nI i) 0 (nI (t + 1))) (fun S => M_X8_partnerSize S (nI i))) : Two S0 (fun a => gBG BG AN a L (nI i) 23 (nI t)) (fun S => M_X8_mark S (nI i)) := by
  have hn := B.n8
  have hi8 : inb (nI i) 8 = true := inb_nI (show i < 8 by omega) (by omega)
  have hi12 : inb (nI i) 12 = true := inb_nI (show i < 12 by omega) (by omega)
  have ei : (nI i).toNatClampNeg = i := cl (by omega)
  intro as S hA hK
  obtain ⟨a1, S1, l1, l2, l3, l4⟩ := leave_two hA 23
  have hK1 := hK.trans l4
  obtain ⟨v, a2, S2, w1, w2, w3, w4⟩ := hsub a1 S1 l3 hK1
  have w1 : BG a1 L (nI i) 20 (nI (t + 1)) = some (v, a2) := w1
  have w2 : M_X8_body20 S1 (nI i) = some (v, S2) := w2
  obtain ⟨u, a3, S3, x1, x2, x3, x4⟩ := hsub2 a2 S2 w3 w4
  have x1 : AN L a2 (nI i) 0 (nI (t + 1)) = some (u, a3) := x1
  have x2 : M_X8_partnerSize S2 (nI i) = some (u, S3) := x2
  have hkS := ka_kind B hi hK
  have o3 := (B.2.1.2.2.2.2.2 i hi).2.2.1
  have h4 : (4 : Int32) ≤ nI (kd i) := (leI (show 4 < 2 ^ 31 by omega) (show kd i < 2 ^ 31 by omega)).2 hk
  refine ⟨v - u, a3, S3, ?_, ?_, x3, x4⟩
  · simp only [gBG, t20 ht, if_true, l1, ob, show ¬ (23 : Int32) = 10 by decide, show ¬ (23 : Int32) = 11 by decide, show ¬ (23 : Int32) = 12 by decide, show ¬ (23 : Int32) = 13 by decide, show ¬ (23 : Int32) = 14 by decide, show ¬ (23 : Int32) = 15 by decide, show ¬ (23 : Int32) = 16 by decide, show ¬ (23 : Int32) = 17 by decide, show ¬ (23 : Int32) = 18 by decide, show ¬ (23 : Int32) = 19 by decide, show ¬ (23 : Int32) = 20 by decide, show ¬ (23 : Int32) = 21 by decide, show ¬ (23 : Int32) = 22 by decide, show ¬ (23 : Int32) = 24 by decide, if_false, nI_p1, w1, x1]
  · simp only [M_X8_mark, hi8, if_true, hkS, h4, l2, ob, w2, x2]
theorem Two.wrap {F : AS → Option (Int32 × AS)} {G G' : MS → Option (Int32 × MS)} (h : Two S0 F G) (e : ∀ S, Ka S0 S → G' S = (G S).bind (fun u => some (u.1, u.2))) : Two S0 F G' := by
  intro as S hA hK
  obtain ⟨v, a2, S2, w1, w2, w3, w4⟩ := h as S hA hK
  exact ⟨v, a2, S2, w1, by rw [e S hK, w2]; rfl, w3, w4⟩
theorem Two.wrap7 {F F' : AS → Option (Int32 × AS)} {G : MS → Option (Int32 × MS)} (h : Two S0 F G) (e : ∀ a, F' a = (F a).bind (fun u => some (u.1, u.2))) : Two S0 F' G := by
  intro as S hA hK
  obtain ⟨v, a2, S2, w1, w2, w3, w4⟩ := h as S hA hK
  exact ⟨v, a2, S2, by rw [e as, w1]; rfl, w2, w3, w4⟩
/-- which body is told for a kind -/
def bdyA (w k : Nat) : Int32 := if w = 0 then (if k = 1 then 11 else if k = 2 then 12 else if k = 3 then 11 else if k = 4 then 13 else 14) else (if k = 1 then 21 else if k = 2 then 24 else if k = 3 then 22 else 23)
theorem an_body (B : TabR L S0 pts hm n fm kd ps thr trn cub ow) (hi : i < n) {w : Nat} (hw : w < 2) (d : Int32) (a : AS) : gAN BG L a (nI i) (nI w) d = (BG a L (nI i) (bdyA w (kd i)) d).bind (fun u => some (u.1, u.2)) := by
  have hn := B.n8
  obtain ⟨o1, o2, o3, o4⟩ := B.2.1.2.2.2.2.2 i hi
  have hk := (B.2.2.2.1.2.2.2.1 i hi).2.1
  unfold gAN
  rw [inb_nI (show i < 8 by omega) (by omega), cl (show i < 2 ^ 31 by omega), hk]
  generalize kd i = k at *
  rcases (show w = 0 ∨ w = 1 by omega) with rfl | rfl <;> rcases (show k = 1 ∨ k = 2 ∨ k = 3 ∨ k = 4 ∨ k = 5 by omega) with rfl | rfl | rfl | rfl | rfl <;> rfl
theorem size_two (B : TabR L S0 pts hm n fm kd ps thr trn cub ow) (hi : i < n) : Two S0 (fun a => M_X1_anew_4 L a (nI i) 0 0) (fun S => M_X8_size S (nI i)) := by
  have hn := B.n8
  have hi8 : inb (nI i) 8 = true := inb_nI (show i < 8 by omega) (by omega)
  obtain ⟨o1, o2, o3, o4⟩ := B.2.1.2.2.2.2.2 i hi
  rw [an_4]
  refine Two.wrap7 (F := fun a => M_X1_begun_4 a L (nI i) (bdyA 0 (kd i)) (nI 0)) ?_ (fun a => an_body B hi (w := 0) (by omega) 0 a)
  rw [bg_4]
  rcases (show kd i = 1 ∨ kd i = 2 ∨ kd i = 3 ∨ kd i = 4 ∨ kd i = 5 by omega) with hk | hk | hk | hk | hk
  · rw [hk]
    refine Two.wrap (tb11 B hi (t := 0) (by omega) (by rw [bg_3]; exact tb10 B hi (by omega)) ?_) (fun S hK => ?_)
    · rw [an_3]
      refine Two.wrap7 (F := fun a => M_X1_begun_3 a L (nI i) (bdyA 1 (kd i)) (nI 1)) ?_ (fun a => an_body B hi (w := 1) (by omega) (nI 1) a)
      rw [bg_3, hk]
      refine Two.wrap (tb21 B hi (t := 1) (by omega) (by rw [bg_2]; exact tb20 B hi (by omega))) (fun S hK => ?_)
      have hkS := ka_kind B hi hK
      rw [hk] at hkS
      simp only [M_X8_clerkMark, hi8, if_true, hkS, show (nI 1 = (2 : Int32)) = False from eq_false (by decide), show (nI 1 = (3 : Int32)) = False from eq_false (by decide), if_false]
    · have hkS := ka_kind B hi hK
      rw [hk] at hkS
      simp only [M_X8_size, hi8, if_true, hkS, show (nI 1 ≤ (3 : Int32)) = True from eq_true (by decide), show (nI 1 = (2 : Int32)) = False from eq_false (by decide), if_false]
  · rw [hk]
    refine tb12 B hi (t := 0) (by omega) hk ?_
    rw [bg_3]
    refine tb11 B hi (t := 1) (by omega) (by rw [bg_2]; exact tb10 B hi (by omega)) ?_
    rw [an_2]
    refine Two.wrap7 (F := fun a => M_X1_begun_2 a L (nI i) (bdyA 1 (kd i)) (nI 2)) ?_ (fun a => an_body B hi (w := 1) (by omega) (nI 2) a)
    rw [bg_2, hk]
    refine tb24 B hi (t := 2) (by omega) hk ?_
    rw [bg_1]
    exact tb21 B hi (t := 3) (by omega) (tb20z B hi (by omega))
  · rw [hk]
    refine Two.wrap (tb11 B hi (t := 0) (by omega) (by rw [bg_3]; exact tb10 B hi (by omega)) ?_) (fun S hK => ?_)
    · rw [an_3]
      refine Two.wrap7 (F := fun a => M_X1_begun_3 a L (nI i) (bdyA 1 (kd i)) (nI 1)) ?_ (fun a => an_body B hi (w := 1) (by omega) (nI 1) a)
      rw [bg_3, hk]
      refine tb22 B hi (t := 1) (by omega) hk ?_
      rw [bg_2]
      exact tb21 B hi (t := 2) (by omega) (by rw [bg_1]; exact tb20 B hi (by omega))
    · have hkS := ka_kind B hi hK
      rw [hk] at hkS
      simp only [M_X8_size, hi8, if_true, hkS, show (nI 3 ≤ (3 : Int32)) = True from eq_true (by decide), show (nI 3 = (2 : Int32)) = False from eq_false (by decide), if_false]
  · rw [hk]
    refine Two.wrap (tb13 B hi (t := 0) (by omega) (by rw [bg_3]; exact tb10 B hi (by omega))) (fun S hK => ?_)
    have hkS := ka_kind B hi hK
    rw [hk] at hkS
    simp only [M_X8_size, M_X8_partnerSize, hi8, if_true, hkS, show (nI 4 ≤ (3 : Int32)) = False from eq_false (by decide), show (nI 4 = (5 : Int32)) = False from eq_false (by decide), if_false]
    cases M_X8_body13 S (nI i) <;> rfl
  · rw [hk]
    refine Two.wrap (tb14 B hi (t := 0) (by omega) hk ?_) (fun S hK => ?_)
    · rw [bg_3]
      exact tb13 B hi (t := 1) (by omega) (by rw [bg_2]; exact tb10 B hi (by omega))
    · have hkS := ka_kind B hi hK
      rw [hk] at hkS
      simp only [M_X8_size, hi8, if_true, hkS, show (nI 5 ≤ (3 : Int32)) = False from eq_false (by decide), if_false]
theorem mark_two (B : TabR L S0 pts hm n fm kd ps thr trn cub ow) (hi : i < n) : Two S0 (fun a => M_X1_anew_4 L a (nI i) 1 0) (fun S => M_X8_mark S (nI i)) := by
  have hn := B.n8
  have hi8 : inb (nI i) 8 = true := inb_nI (show i < 8 by omega) (by omega)
  obtain ⟨o1, o2, o3, o4⟩ := B.2.1.2.2.2.2.2 i hi
  rw [an_4]
  refine Two.wrap7 (F := fun a => M_X1_begun_4 a L (nI i) (bdyA 1 (kd i)) (nI 0)) ?_ (fun a => an_body B hi (w := 1) (by omega) 0 a)
  rw [bg_4]
  rcases (show kd i = 1 ∨ kd i = 2 ∨ kd i = 3 ∨ kd i = 4 ∨ kd i = 5 by omega) with hk | hk | hk | hk | hk
  · rw [hk]
    refine Two.wrap (tb21 B hi (t := 0) (by omega) (by rw [bg_3]; exact tb20 B hi (by omega))) (fun S hK => ?_)
    have hkS := ka_kind B hi hK
    rw [hk] at hkS
    simp only [M_X8_mark, M_X8_clerkMark, hi8, if_true, hkS, show ((4 : Int32) ≤ nI 1) = False from eq_false (by decide), show (nI 1 = (2 : Int32)) = False from eq_false (by decide), show (nI 1 = (3 : Int32)) = False from eq_false (by decide), if_false]
    cases M_X8_body21 S (nI i) <;> rfl
  · rw [hk]
    refine Two.wrap (tb24 B hi (t := 0) (by omega) hk (by rw [bg_3]; exact tb21 B hi (t := 1) (by omega) (by rw [bg_2]; exact tb20 B hi (by omega)))) (fun S hK => ?_)
    have hkS := ka_kind B hi hK
    rw [hk] at hkS
    simp only [M_X8_mark, hi8, if_true, hkS, show ((4 : Int32) ≤ nI 2) = False from eq_false (by decide), if_false]
  · rw [hk]
    refine Two.wrap (tb22 B hi (t := 0) (by omega) hk (by rw [bg_3]; exact tb21 B hi (t := 1) (by omega) (by rw [bg_2]; exact tb20 B hi (by omega)))) (fun S hK => ?_)
    have hkS := ka_kind B hi hK
    rw [hk] at hkS
    simp only [M_X8_mark, hi8, if_true, hkS, show ((4 : Int32) ≤ nI 3) = False from eq_false (by decide), if_false]
  · rw [hk]
    refine tb23 B hi (t := 0) (by omega) (by omega) (by rw [bg_3]; exact tb20 B hi (by omega)) ?_
    rw [an_3]
    refine Two.wrap7 (F := fun a => M_X1_begun_3 a L (nI i) (bdyA 0 (kd i)) (nI 1)) ?_ (fun a => an_body B hi (w := 0) (by omega) (nI 1) a)
    rw [bg_3, hk]
    refine Two.wrap (tb13 B hi (t := 1) (by omega) (by rw [bg_2]; exact tb10 B hi (by omega))) (fun S hK => ?_)
    have hkS := ka_kind B hi hK
    rw [hk] at hkS
    simp only [M_X8_partnerSize, hi8, if_true, hkS, show (nI 4 = (5 : Int32)) = False from eq_false (by decide), if_false]
  · rw [hk]
    refine tb23 B hi (t := 0) (by omega) (by omega) (by rw [bg_3]; exact tb20 B hi (by omega)) ?_
    rw [an_3]
    refine Two.wrap7 (F := fun a => M_X1_begun_3 a L (nI i) (bdyA 0 (kd i)) (nI 1)) ?_ (fun a => an_body B hi (w := 0) (by omega) (nI 1) a)
    rw [bg_3, hk]
    refine tb14 B hi (t := 1) (by omega) hk ?_
    rw [bg_2]
    exact tb13 B hi (t := 2) (by omega) (by rw [bg_1]; exact tb10 B hi (by omega))
end ASK
theorem sim_ask {tf : TF} {rw_ : RW} {tp : TP} {bs : IA} {L i0 i1 : BD} {ac : AC} {as : AS} {S : MS} (h : Rel tf rw_ tp bs L i0 i1 ac as S) (x y : Int32) :
    ∃ v as' S', M_X7_ask tf L as x y = some (v, as') ∧ M_X8_ask S x y = some (v, S') ∧ Rel tf rw_ tp bs L i0 i1 ac as' S' := by
  unfold M_X7_ask M_X8_ask
  rcases h.tabs with ⟨e1, e2, e3, e4⟩ | ⟨pts, hm, n, fm, kd, ps, thr, trn, cub, ow, B, A, I⟩
  · rw [sp_isMan7 (n := 0) e1, sp_isMan8 (n := 0) e2, b01_f man_no]
    exact ⟨_, _, _, rfl, rfl, h⟩
  have hn := B.n8
  rw [sp_isMan7 B.2.2.2.1.2.2.1, sp_isMan8 B.2.2.2.2.2.1.2.2.1, sp_isChoice7, show (0 : Int64) = (0 : Int32).toInt64 from rfl, show (1 : Int64) = (1 : Int32).toInt64 from rfl, sp_in]
  simp only [ob, b01_no]
  by_cases hm1 : 0 ≤ x ∧ x ≤ nI n - 1
  · obtain ⟨i, hi, rfl⟩ := man_of hn hm1
    have nm : ¬ ¬ (0 ≤ nI i ∧ nI i ≤ nI n - 1) := fun z => z hm1
    simp only [nm, if_false]
    by_cases hy : 0 ≤ y ∧ y ≤ 1
    · have ny : ¬ ¬ (0 ≤ y ∧ y ≤ 1) := fun z => z hy
      simp only [ny, if_false]
      have hA0 : RelAsk (as_s_left as 0) (ms_s_traced S 0) := ⟨0, by omega, rfl, rfl, fun k hk => absurd hk (Nat.not_lt_zero k)⟩
      have hK0 := ka_traced S 0
      unfold M_X1_answerOf
      by_cases c : y = 0
      · subst c
        obtain ⟨v, a2, S2, w1, w2, w3, w4⟩ := size_two B hi _ _ hA0 hK0
        have w1 : M_X1_anew_4 L (as_s_left as 0) (nI i) 0 0 = some (v, a2) := w1
        have w2 : M_X8_size (ms_s_traced S 0) (nI i) = some (v, S2) := w2
        rw [w1, if_pos rfl, w2]
        exact ⟨_, _, _, rfl, rfl, h.ka w4 w3⟩
      · obtain ⟨k, -, hk, rfl⟩ := rng_of (lo := 0) (hi := 1) rfl rfl (by omega) (by omega) hy
        have hk1 : k = 1 := by
          rcases (show k = 0 ∨ k = 1 by omega) with e | e
          · exact absurd (by rw [e]; rfl) c
          · exact e
        subst hk1
        obtain ⟨v, a2, S2, w1, w2, w3, w4⟩ := mark_two B hi _ _ hA0 hK0
        have w1 : M_X1_anew_4 L (as_s_left as 0) (nI i) (nI 1) 0 = some (v, a2) := w1
        have w2 : M_X8_mark (ms_s_traced S 0) (nI i) = some (v, S2) := w2
        rw [w1, if_neg c, w2]
        exact ⟨_, _, _, rfl, rfl, h.ka w4 w3⟩
    · simp only [hy, not_false_eq_true, if_true]
      exact ⟨_, _, _, rfl, rfl, h⟩
  · simp only [hm1, not_false_eq_true, if_true]
    exact ⟨_, _, _, rfl, rfl, h⟩
