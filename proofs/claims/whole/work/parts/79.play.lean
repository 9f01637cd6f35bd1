/-! ===== play, move ===== -/
theorem goA_le {pts n : Nat} {fm ps : Nat → Nat} {i to j : Nat} (ht : to ≤ pts + 1) (h : ps j ≤ pts + 1) : goA pts n fm ps i to j ≤ pts + 1 := by
  unfold goA
  split
  · exact ht
  · split <;> omega
theorem OKb.go {pts hm n : Nat} {fm kd ps : Nat → Nat} (ok : OKb pts hm n fm kd ps) {i to : Nat} (ht : to ≤ pts + 1) : OKb pts hm n fm kd (goA pts n fm ps i to) :=
  ⟨ok.1, ok.2.1, ok.2.2.1, ok.2.2.2.1, ok.2.2.2.2.1, fun j hj => by
    obtain ⟨a, b, c, d⟩ := ok.2.2.2.2.2 j hj
    exact ⟨a, b, c, goA_le ht d⟩⟩
theorem OKb.tur {pts hm n : Nat} {fm kd ps : Nat → Nat} (ok : OKb pts hm n fm kd ps) {f d : Nat} : OKb pts hm n fm kd (turA pts hm n fm kd ps f d) := by
  unfold turA
  rcases rulA_is (pts := pts) (hm := hm) (n := n) (fm := fm) (kd := kd) (ps := ps) (k := n) (f := f) (d := d) with c4 | ⟨c4, c5, c6⟩
  · rw [if_neg (by omega)]; exact ok
  · have hn := ok.2.2.2.2.1
    rw [if_pos (by omega)]
    exact ok.go (aimA_le (ok.2.2.2.2.2 _ c4).2.2.2)
theorem thr_of {x : Int32} (h : 1 ≤ x ∧ x ≤ 6) : ∃ d, 1 ≤ d ∧ d ≤ 6 ∧ x = nI d := by
  obtain ⟨d, hd, rfl⟩ := nI_of (x := x) (not_neg h.1)
  exact ⟨d, (leI (a := 1) (by omega) (by omega)).1 h.1, (leI (b := 6) (by omega) (by omega)).1 h.2, rfl⟩
theorem asR0 {f R : Nat → Int32} {j : Nat} (hj : j < 12) : asR 0 f R 12 j = R (12 * 0 + j) := by
  have h := asR_in (D := 0) (k := 12) (j := j) (f := f) (g := R) hj
  rw [Nat.mul_zero, Nat.zero_add] at h ⊢
  exact h
theorem emb_take {pts hm n : Nat} {fm kd ps qs : Nat → Nat} {S S1 S' : MS} (EM : EMb pts hm n fm kd ps S) (k : Kp S S') (hn : n ≤ 8) (hE : ER pts n qs 0 S1) (h : ms_now S' = asR 0 (ms_now S1) (ms_rows S1) 12) : EMb pts hm n fm kd qs S' := by
  obtain ⟨-, ⟨c1, c2, c3, c4, c5, c6, c7, c8⟩, -⟩ := k
  obtain ⟨e1, e2, e3, e4⟩ := EM
  refine ⟨c1.trans e1, c2.trans e2, c3.trans e3, fun i hi => ⟨by rw [c4]; exact (e4 i hi).1, by rw [c5]; exact (e4 i hi).2.1, ?_⟩⟩
  rw [h, asR0 (by omega)]
  exact hE i hi
theorem emt_take {thr trn cub : Nat} {ow : Int32} {f R : Nat → Int32} (h : EMt thr trn cub ow (fun c => R (12 * 0 + c))) : EMt thr trn cub ow (asR 0 f R 12) :=
  ⟨(asR0 (by omega)).trans h.1, (asR0 (by omega)).trans h.2.1, (asR0 (by omega)).trans h.2.2.1, (asR0 (by omega)).trans h.2.2.2⟩
theorem emt_same {thr trn cub : Nat} {ow : Int32} {f g : Nat → Int32} (h : EMt thr trn cub ow f) (e : ∀ c, 8 ≤ c → c < 12 → g c = f c) : EMt thr trn cub ow g :=
  ⟨(e 11 (by omega) (by omega)).trans h.1, (e 8 (by omega) (by omega)).trans h.2.1, (e 9 (by omega) (by omega)).trans h.2.2.1, (e 10 (by omega) (by omega)).trans h.2.2.2⟩
theorem sim_play {tf : TF} {rw_ : RW} {tp : TP} {bs : IA} {L i0 i1 : BD} {ac : AC} {as : AS} {S : MS} (h : Rel tf rw_ tp bs L i0 i1 ac as S) (x : Int32) :
    ∃ v L' ac' S', M_X7_play tf L ac x = some (v, L', ac') ∧ M_X8_play S x = some (v, S') ∧ Rel tf rw_ tp bs L' i0 i1 ac' as S' := by
  unfold M_X7_play M_X8_play
  rcases h.tabs with ⟨e1, e2, e3, e4⟩ | ⟨pts, hm, n, fm, kd, ps, thr, trn, cub, ow, B, A, I⟩
  · rw [no_tab e1, e3]
    exact ⟨_, _, _, _, rfl, rfl, h⟩
  · have hn := B.n8
    have hno := B.no (tf := tf)
    have hov := B.over (tf := tf)
    have hhas := B.has
    have B0 := B
    obtain ⟨c1, ok, okt, E, T, EM, TM, c6, hoo⟩ := B
    obtain ⟨S1, w1, w2, w3, w4⟩ := kp_wonNow EM hoo ok
    rw [hno, if_neg hhas, sp_isThrow7, sp_isThrow8, hov, w1]
    simp only [ob, if_true, b01_no]
    by_cases hx : 1 ≤ x ∧ x ≤ 6
    · obtain ⟨d, hd1, hd, rfl⟩ := thr_of hx
      have nx : ¬ ¬ (1 ≤ nI d ∧ nI d ≤ 6) := fun z => z hx
      simp only [nx, if_false, won_no]
      by_cases hw : winA pts n fm ps < 1000
      · simp only [hw, not_true_eq_false, if_false]
        exact ⟨_, _, _, _, rfl, rfl, h.kp w2 w3⟩
      · have B1 := B0.kp w2 w3.1
        have t11 : ms_now S1 ((11 : Int32)).toNatClampNeg = nI trn := B1.2.2.2.2.2.2.1.1
        have o2 := okt.2.1
        simp only [hw, not_false_eq_true, if_true, t11, T.1, show ((999 : Int32)) = nI 999 from rfl, ltI (show trn < 2 ^ 31 by omega) (show 999 < 2 ^ 31 by omega), eqI (show trn < 2 ^ 31 by omega) (show 999 < 2 ^ 31 by omega)]
        by_cases ht : trn < 999
        · rw [if_pos ht, if_neg (show ¬ trn = 999 by omega)]
          obtain ⟨ac', S2, g1, g2, g3, g4, g5, g6⟩ := kp_keep (A.kn w3.2.1 w3.2.2) B1
          obtain ⟨L', h1, h2, h3⟩ := sp_turnByRule E T ok okt.1 hd1 hd
          have k2 := w2.trans g4
          have hS' : ES pts hm n fm kd S2 := (es_of EM hoo hn).kp k2
          have hE' : ER pts n ps 0 S2 := er_rows EM hn (g6.trans w4)
          have hT' : EMt thr trn cub ow (fun c => ms_rows S2 (12 * 0 + c)) := emt_rows TM (g6.trans w4)
          obtain ⟨S3, r1, r2, r3, r4, r5, r6⟩ := kp_goRuled hS' hE' hT' (show 0 < 4 by omega) ok okt.1 hd1 hd
          have r1 : M_X8_goRuled S2 (0 : Int32) (nI d) = _ := r1
          obtain ⟨S4, q1, q2, q3, q4, q5⟩ := kp_take S3
          have k4 := (k2.trans r5).trans q2
          rw [g1, g2]
          simp only [ob]
          rw [h1, r1]
          simp only [ob]
          rw [q1]
          refine ⟨_, _, _, _, rfl, rfl, h.mk k4 (relB_of (pts := pts) (hm := hm) (n := n) (fm := fm) (kd := kd) (ps := turA pts hm n fm kd ps thr d) (thr := 1 - thr) (trn := trn + 1) (cub := cub) (ow := ow) ⟨c1, ok.tur, ⟨by have := okt.1; omega, by omega, okt.2.2⟩, h2, h3, emb_take EM k4 hn r2 q3, ?_, k4.2.1.2.2.2.2.2.1.trans c6, k4.2.1.2.2.2.2.2.2.1.trans hoo⟩ (g3.kn (q4.trans r6.2.1) (q5.trans r6.2.2)) (I.kp k4))⟩
          rw [q3]
          exact emt_take r3
        · rw [if_neg ht, if_pos (show trn = 999 by omega)]
          exact ⟨_, _, _, _, rfl, rfl, h.kp w2 w3⟩
    · simp only [hx, not_false_eq_true, if_true]
      exact ⟨_, _, _, _, rfl, rfl, h⟩
theorem sim_move {tf : TF} {rw_ : RW} {tp : TP} {bs : IA} {L i0 i1 : BD} {ac : AC} {as : AS} {S : MS} (h : Rel tf rw_ tp bs L i0 i1 ac as S) (x y : Int32) :
    ∃ v L' ac' S', M_X7_move tf L ac x y = some (v, L', ac') ∧ M_X8_move S x y = some (v, S') ∧ Rel tf rw_ tp bs L' i0 i1 ac' as S' := by
  unfold M_X7_move M_X8_move
  rcases h.tabs with ⟨e1, e2, e3, e4⟩ | ⟨pts, hm, n, fm, kd, ps, thr, trn, cub, ow, B, A, I⟩
  · rw [sp_isMan7 (n := 0) e1, sp_isMan8 (n := 0) e2, b01_f man_no]
    exact ⟨_, _, _, _, rfl, rfl, h⟩
  have hn := B.n8
  have hov := B.over (tf := tf)
  have B0 := B
  obtain ⟨c1, ok, okt, E, T, EM, TM, c6, hoo⟩ := B
  have hpt : pts ≤ 12 := ok.2.1
  obtain ⟨S1, w1, w2, w3, w4⟩ := kp_wonNow EM hoo ok
  rw [sp_isMan7 E.2.2.1, sp_isMan8 EM.2.2.1, sp_isThrow7, sp_isThrow8, hov, w1]
  simp only [ob, b01_no]
  by_cases hm1 : 0 ≤ x ∧ x ≤ nI n - 1
  · obtain ⟨i, hi, rfl⟩ := man_of hn hm1
    have nm : ¬ ¬ (0 ≤ nI i ∧ nI i ≤ nI n - 1) := fun z => z hm1
    obtain ⟨o1, o2, o3, o4⟩ := ok.2.2.2.2.2 i hi
    simp only [nm, if_false]
    by_cases hx : 1 ≤ y ∧ y ≤ 6
    · obtain ⟨d, hd1, hd, rfl⟩ := thr_of hx
      have nx : ¬ ¬ (1 ≤ nI d ∧ nI d ≤ 6) := fun z => z hx
      simp only [nx, if_false, won_no]
      by_cases hw : winA pts n fm ps < 1000
      · simp only [hw, not_true_eq_false, if_false]
        exact ⟨_, _, _, _, rfl, rfl, h.kp w2 w3⟩
      · have B1 := B0.kp w2 w3.1
        have EM1 := B1.2.2.2.2.2.1
        have t11 : ms_now S1 ((11 : Int32)).toNatClampNeg = nI trn := B1.2.2.2.2.2.2.1.1
        have t8 : ms_now S1 ((8 : Int32)).toNatClampNeg = nI thr := B1.2.2.2.2.2.2.1.2.1
        have ot := okt.2.1
        have oh := okt.1
        have hS0 := (es_of EM hoo hn).kp w2
        have hE0 : ER pts n ps 0 S1 := er_rows EM hn w4
        have hcan : M_X8_can S1 (0 : Int32) (nI i) (nI d) = _ := s8_can hS0 hE0 (show 0 < 4 by omega) ok hi hd1 hd
        simp only [hw, not_false_eq_true, if_true]
        rw [inb_nI (show i < 8 by omega) (by omega), inb_nI (show i < 12 by omega) (by omega), cl (show i < 2 ^ 31 by omega), (E.2.2.2.1 i hi).1, (EM1.2.2.2 i hi).1, T.2.1, t8, sp_canGo E ok hi hd1 hd, hcan]
        simp only [ob, if_true, b01_no, t11, T.1, show ((999 : Int32)) = nI 999 from rfl, ltI (show trn < 2 ^ 31 by omega) (show 999 < 2 ^ 31 by omega), eqI (show trn < 2 ^ 31 by omega) (show 999 < 2 ^ 31 by omega), eqI (show fm i < 2 ^ 31 by omega) (show thr < 2 ^ 31 by omega)]
        by_cases cf : fm i = thr
        · rw [if_pos cf, if_pos cf]
          by_cases cc : canA pts hm n fm kd ps i d = true
          · have nc : ¬ ¬ (canA pts hm n fm kd ps i d = true) := fun z => z cc
            simp only [nc, if_false]
            by_cases ht : trn < 999
            · rw [if_pos ht, if_neg (show ¬ trn = 999 by omega)]
              obtain ⟨ac', S2, g1, g2, g3, g4, g5, g6⟩ := kp_keep (A.kn w3.2.1 w3.2.2) B1
              have hto := aimA_le (pts := pts) (f := fm i) (k := kd i) (d := d) o4
              obtain ⟨L1, h1, h2, h3⟩ := sp_go E ok hi hd1 hd (canA_few cc)
              obtain ⟨L', q1, q2, q3⟩ := sp_passThrow h2 (T.same h3) okt.1
              have k2 := w2.trans g4
              have hS' : ES pts hm n fm kd S2 := (es_of EM hoo hn).kp k2
              have hE' : ER pts n ps 0 S2 := er_rows EM hn (g6.trans w4)
              have hT2 : EMt thr trn cub ow (fun c => ms_rows S2 (12 * 0 + c)) := emt_rows TM (g6.trans w4)
              obtain ⟨S3, r1, r2, r3, r4, r5⟩ := kp_goMan hS' hE' (show 0 < 4 by omega) ok hi hd1 hd
              have hT' : EMt thr trn cub ow (fun c => ms_rows S3 (12 * 0 + c)) := emt_same hT2 (fun c a1 a2 => r3 _ (by omega))
              obtain ⟨S4, u1, u2, u3, u4, u5⟩ := kp_goTurn hT' (by omega) okt.1
              have r1 : M_X8_goMan S2 (0 : Int32) (nI i) (nI d) = _ := r1
              have u1 : M_X8_goTurn S3 (0 : Int32) = _ := u1
              obtain ⟨S5, v1, v2, v3, v4, v5⟩ := kp_take S4
              have hgi : goA pts n fm ps i (aimA pts (fm i) (kd i) (ps i) d) i = aimA pts (fm i) (kd i) (ps i) d := if_pos rfl
              have k5 := ((k2.trans r4).trans u4).trans v2
              have EM2 := emb_take EM k5 hn (er_same r2 hn (fun k a1 a2 => u3 k (by omega) (by omega))) v3
              have e12 : ms_now S5 i = nI (trc pts (aimA pts (fm i) (kd i) (ps i) d)) := by rw [(EM2.2.2.2 i hi).2.2, hgi]
              have e7 : bd_places L' i = nI (aimA pts (fm i) (kd i) (ps i) d) := by rw [(q2.2.2.2.1 i hi).2.2, hgi]
              have tl := trc_le hto hpt
              have t9 := trc_99 hto hpt
              have TM5 : EMt (1 - thr) (trn + 1) cub ow (ms_now S5) := by
                rw [v3]
                exact emt_take u2
              have hRel : Rel tf rw_ tp bs L' i0 i1 ac' as S5 := h.mk k5 (relB_of ⟨c1, ok.go hto, ⟨by omega, by omega, okt.2.2⟩, q2, q3, EM2, TM5, k5.2.1.2.2.2.2.2.1.trans c6, k5.2.1.2.2.2.2.2.2.1.trans hoo⟩ (g3.kn (v4.trans (u5.2.1.trans r5.2.1)) (v5.trans (u5.2.2.trans r5.2.2))) (I.kp k5))
              rw [g1, g2]
              simp only [ob]
              rw [h1, r1]
              simp only [ob]
              rw [q1, u1]
              simp only [ob]
              rw [v1]
              simp only [ob]
              rw [e7, sp_placeTold q2 hpt hto, e12]
              simp only [ob, show ((99 : Int32)) = nI 99 from rfl, eqI (show trc pts (aimA pts (fm i) (kd i) (ps i) d) < 2 ^ 31 by omega) (show 99 < 2 ^ 31 by omega), t9]
              by_cases c9 : aimA pts (fm i) (kd i) (ps i) d = pts + 1
              · rw [if_pos c9, if_pos c9, EM2.1]
                exact ⟨_, _, _, _, rfl, rfl, hRel⟩
              · rw [if_neg c9, if_neg c9, trc_pt (show aimA pts (fm i) (kd i) (ps i) d < pts + 1 by omega)]
                exact ⟨_, _, _, _, rfl, rfl, hRel⟩
            · rw [if_neg ht, if_pos (show trn = 999 by omega)]
              exact ⟨_, _, _, _, rfl, rfl, h.kp w2 w3⟩
          · simp only [cc, not_false_eq_true, if_true]
            exact ⟨_, _, _, _, rfl, rfl, h.kp w2 w3⟩
        · rw [if_neg cf, if_neg cf]
          exact ⟨_, _, _, _, rfl, rfl, h.kp w2 w3⟩
    · simp only [hx, not_false_eq_true, if_true]
      exact ⟨_, _, _, _, rfl, rfl, h⟩
  · simp only [hm1, not_false_eq_true, if_true]
    exact ⟨_, _, _, _, rfl, rfl, h⟩
