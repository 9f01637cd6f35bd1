/-! ===== play, move ===== -/
theorem goA_le {pts n : Nat} {fm ps : Nat → Nat} {i to j : Nat} (ht : to ≤ pts + 1) (h : ps j ≤ pts + 1) : goA pts n fm ps i to j ≤ pts + 1 := by
  unfold goA
  split
  · exact ht
  · split <;> omega
theorem OKb.go {pts hm n : Nat} {fm kd ps : Nat → Nat} (ok : OKb pts hm n fm kd ps) {i to : Nat} (ht : to ≤ pts + 1) : OKb pts hm n fm kd (goA pts n fm ps i to) :=
  ⟨ok.1, ok.2.1, ok.2.2.1, ok.2.2.2.1, ok.2.2.2.2.1, fun j hj => by
    obtain ⟨a, b, c, d⟩ := ok.2.2.2.2.2 j hj
    exact ⟨a, b, c, goA_le ht d⟩⟩
theorem OKb.tur {pts hm n : Nat} {fm kd ps : Nat → Nat} (ok : OKb pts hm n fm kd ps) {f d : Nat} : OKb pts hm n fm kd (turA pts hm n fm kd ps f d) := by
  unfold turA
  rcases rulA_is (pts := pts) (hm := hm) (n := n) (fm := fm) (kd := kd) (ps := ps) (k := n) (f := f) (d := d) with c4 | ⟨c4, c5, c6⟩
  · rw [if_neg (by omega)]; exact ok
  · have hn := ok.2.2.2.2.1
    rw [if_pos (by omega)]
    exact ok.go (aimA_le (ok.2.2.2.2.2 _ c4).2.2.2)
theorem thr_of {x : Int32} (h : 1 ≤ x ∧ x ≤ 6) : ∃ d, 1 ≤ d ∧ d ≤ 6 ∧ x = nI d := by
  obtain ⟨d, hd, rfl⟩ := nI_of (x := x) (not_neg h.1)
  exact ⟨d, (leI (a := 1) (by omega) (by omega)).1 h.1, (leI (b := 6) (by omega) (by omega)).1 h.2, rfl⟩
theorem emb_take {pts hm n : Nat} {fm kd ps qs : Nat → Nat} {S : MS} {R : Nat → Int32} (EM : EMb pts hm n fm kd ps S) (hn : n ≤ 8) (hE : ∀ i, i < n → R (12 * 0 + i) = nI (trc pts (qs i))) : EMb pts hm n fm kd qs (ms_s_now S (asR 0 (ms_now S) R 12)) :=
  ⟨EM.1, EM.2.1, EM.2.2.1, fun i hi => ⟨(EM.2.2.2 i hi).1, (EM.2.2.2 i hi).2.1, by
    show asR 0 (ms_now S) R 12 i = _
    have h := asR_in (D := 0) (k := 12) (j := i) (f := ms_now S) (g := R) (by omega)
    have h2 := hE i hi
    rw [Nat.mul_zero, Nat.zero_add] at h h2
    exact h.trans h2⟩⟩
theorem emt_take {thr trn cub : Nat} {ow : Int32} {f R : Nat → Int32} (h : EMt thr trn cub ow (fun c => R (12 * 0 + c))) : EMt thr trn cub ow (asR 0 f R 12) := by
  have e : ∀ j, j < 12 → asR 0 f R 12 j = R (12 * 0 + j) := fun j hj => by
    have h := asR_in (D := 0) (k := 12) (j := j) (f := f) (g := R) hj
    rw [Nat.mul_zero, Nat.zero_add] at h ⊢
    exact h
  exact ⟨(e 11 (by omega)).trans h.1, (e 8 (by omega)).trans h.2.1, (e 9 (by omega)).trans h.2.2.1, (e 10 (by omega)).trans h.2.2.2⟩
theorem emt_same {thr trn cub : Nat} {ow : Int32} {f g : Nat → Int32} (h : EMt thr trn cub ow f) (e : ∀ c, 8 ≤ c → c < 12 → g c = f c) : EMt thr trn cub ow g :=
  ⟨(e 11 (by omega) (by omega)).trans h.1, (e 8 (by omega) (by omega)).trans h.2.1, (e 9 (by omega) (by omega)).trans h.2.2.1, (e 10 (by omega) (by omega)).trans h.2.2.2⟩
theorem sim_play {tf : TF} {rw_ : RW} {tp : TP} {bs : IA} {L i0 i1 : BD} {ac : AC} {as : AS} {S : MS} (h : Rel tf rw_ tp bs L i0 i1 ac as S) (x : Int32) :
    ∃ v L' ac' S', M_X7_play tf L ac x = some (v, L', ac') ∧ M_X8_play S x = some (v, S') ∧ Rel tf rw_ tp bs L' i0 i1 ac' as S' := by
  unfold M_X7_play M_X8_play
  rcases h.2.2.2.2.tab with ⟨e1, e2, e3⟩ | ⟨_, _, _, _, _, _, _, _, _, _, B⟩
  · rw [no_tab e1, e3]
    exact ⟨_, _, _, _, rfl, rfl, h⟩
  · clear B
    have h0 := h
    obtain ⟨hT, hR, hP, hA, hB⟩ := h
    obtain ⟨pts, hm, n, fm, kd, ps, thr, trn, cub, ow, hcase, E, EM, hAct, hoo, hImg⟩ := hB
    rcases hcase with ⟨c1, c2, c3, c4, c5, c6, c7⟩ | ⟨c1, ok, okt, T, TM, c6⟩
    · subst c1
      rw [no_tab E.2.2.1, c6]
      exact ⟨_, _, _, _, rfl, rfl, h0⟩
    have B : TabR L S pts hm n fm kd ps thr trn cub ow := ⟨c1, ok, okt, E, T, EM, TM, c6, hoo⟩
    have hn := B.n8
    rw [B.no, if_neg B.has, sp_isThrow7, sp_isThrow8, B.over, s8_wonNow EM hoo ok]
    simp only [ob, if_true, b01_no]
    by_cases hx : 1 ≤ x ∧ x ≤ 6
    · obtain ⟨d, hd1, hd, rfl⟩ := thr_of hx
      have nx : ¬ ¬ (1 ≤ nI d ∧ nI d ≤ 6) := fun z => z hx
      simp only [nx, if_false, won_no]
      by_cases hw : winA pts n fm ps < 1000
      · simp only [hw, not_true_eq_false, if_false]
        exact ⟨_, _, _, _, rfl, rfl, h0.rows _⟩
      · have t11 : ms_now S ((11 : Int32)).toNatClampNeg = nI trn := TM.1
        have o2 := okt.2.1
        simp only [hw, not_false_eq_true, if_true, t11, T.1, show ((999 : Int32)) = nI 999 from rfl, ltI (show trn < 2 ^ 31 by omega) (show 999 < 2 ^ 31 by omega), eqI (show trn < 2 ^ 31 by omega) (show 999 < 2 ^ 31 by omega)]
        by_cases ht : trn < 999
        · rw [if_pos ht, if_neg (show ¬ trn = 999 by omega)]
          obtain ⟨ac', a, Bf, g1, g2, g3⟩ := sp_keep hAct ok okt E T EM TM (S := ms_s_rows S (asR 0 (ms_rows S) (ms_now S) 12))
          obtain ⟨L', h1, h2, h3⟩ := sp_turnByRule E T ok okt.1 hd1 hd
          have hS' : ES pts hm n fm kd (ms_s_before (ms_s_acts (ms_s_rows S (asR 0 (ms_rows S) (ms_now S) 12)) a) Bf) := es_of EM hoo hn
          have hE' : ER pts n ps 0 (ms_s_before (ms_s_acts (ms_s_rows S (asR 0 (ms_rows S) (ms_now S) 12)) a) Bf) := er_aside (D := 0) EM hn
          have hT' := emt_aside (D := 0) (S := S) TM
          obtain ⟨R, r1, r2, r3, r4⟩ := s8_goRuled hS' hE' hT' (show 0 < 4 by omega) ok okt.1 hd1 hd
          have r1 : M_X8_goRuled _ (0 : Int32) (nI d) = _ := r1
          rw [g1, g2]
          simp only [ob]
          rw [h1, r1]
          simp only [ob]
          rw [s8_take]
          refine ⟨_, _, _, _, rfl, rfl, hT, hR, hP, hA, pts, hm, n, fm, kd, turA pts hm n fm kd ps thr d, 1 - thr, trn + 1, cub, ow, Or.inr ⟨c1, ok.tur, ⟨by have := okt.1; omega, by omega, okt.2.2⟩, h3, emt_take r3, c6⟩, h2, emb_take EM hn r2, g3, hoo, hImg⟩
        · rw [if_neg ht, if_pos (show trn = 999 by omega)]
          exact ⟨_, _, _, _, rfl, rfl, h0.rows _⟩
    · simp only [hx, not_false_eq_true, if_true]
      exact ⟨_, _, _, _, rfl, rfl, h0⟩
theorem sim_move {tf : TF} {rw_ : RW} {tp : TP} {bs : IA} {L i0 i1 : BD} {ac : AC} {as : AS} {S : MS} (h : Rel tf rw_ tp bs L i0 i1 ac as S) (x y : Int32) :
    ∃ v L' ac' S', M_X7_move tf L ac x y = some (v, L', ac') ∧ M_X8_move S x y = some (v, S') ∧ Rel tf rw_ tp bs L' i0 i1 ac' as S' := by
  unfold M_X7_move M_X8_move
  have h0 := h
  obtain ⟨hT, hR, hP, hA, hB⟩ := h
  obtain ⟨pts, hm, n, fm, kd, ps, thr, trn, cub, ow, hcase, E, EM, hAct, hoo, hImg⟩ := hB
  rw [sp_isMan7 E.2.2.1, sp_isMan8 EM.2.2.1]
  rcases hcase with ⟨c1, c2, c3, c4, c5, c6, c7⟩ | ⟨c1, ok, okt, T, TM, c6⟩
  · subst c1
    rw [b01_f man_no]
    exact ⟨_, _, _, _, rfl, rfl, h0⟩
  have B : TabR L S pts hm n fm kd ps thr trn cub ow := ⟨c1, ok, okt, E, T, EM, TM, c6, hoo⟩
  have hn := B.n8
  have hpt : pts ≤ 12 := ok.2.1
  rw [sp_isThrow7, sp_isThrow8, B.over, s8_wonNow EM hoo ok]
  simp only [ob, b01_no]
  by_cases hm1 : 0 ≤ x ∧ x ≤ nI n - 1
  · obtain ⟨i, hi, rfl⟩ := man_of hn hm1
    have nm : ¬ ¬ (0 ≤ nI i ∧ nI i ≤ nI n - 1) := fun z => z hm1
    obtain ⟨o1, o2, o3, o4⟩ := ok.2.2.2.2.2 i hi
    simp only [nm, if_false]
    by_cases hx : 1 ≤ y ∧ y ≤ 6
    · obtain ⟨d, hd1, hd, rfl⟩ := thr_of hx
      have nx : ¬ ¬ (1 ≤ nI d ∧ nI d ≤ 6) := fun z => z hx
      simp only [nx, if_false, won_no]
      by_cases hw : winA pts n fm ps < 1000
      · simp only [hw, not_true_eq_false, if_false]
        exact ⟨_, _, _, _, rfl, rfl, h0.rows _⟩
      · have t11 : ms_now S ((11 : Int32)).toNatClampNeg = nI trn := TM.1
        have t8 : ms_now S ((8 : Int32)).toNatClampNeg = nI thr := TM.2.1
        have ot := okt.2.1
        have oh := okt.1
        have hS0 := (es_of EM hoo hn).rows (R := asR 0 (ms_rows S) (ms_now S) 12)
        have hE0 := er_aside (D := 0) EM hn
        have hcan : M_X8_can _ (0 : Int32) (nI i) (nI d) = _ := s8_can hS0 hE0 (show 0 < 4 by omega) ok hi hd1 hd
        simp only [hw, not_false_eq_true, if_true]
        rw [inb_nI (show i < 8 by omega) (by omega), inb_nI (show i < 12 by omega) (by omega), cl (show i < 2 ^ 31 by omega), (E.2.2.2.1 i hi).1, (EM.2.2.2 i hi).1, T.2.1, t8, sp_canGo E ok hi hd1 hd, hcan]
        simp only [ob, if_true, b01_no, t11, T.1, show ((999 : Int32)) = nI 999 from rfl, ltI (show trn < 2 ^ 31 by omega) (show 999 < 2 ^ 31 by omega), eqI (show trn < 2 ^ 31 by omega) (show 999 < 2 ^ 31 by omega), eqI (show fm i < 2 ^ 31 by omega) (show thr < 2 ^ 31 by omega)]
        by_cases cf : fm i = thr
        · rw [if_pos cf, if_pos cf]
          by_cases cc : canA pts hm n fm kd ps i d = true
          · have nc : ¬ ¬ (canA pts hm n fm kd ps i d = true) := fun z => z cc
            simp only [nc, if_false]
            by_cases ht : trn < 999
            · rw [if_pos ht, if_neg (show ¬ trn = 999 by omega)]
              obtain ⟨ac', a, Bf, g1, g2, g3⟩ := sp_keep hAct ok okt E T EM TM (S := ms_s_rows S (asR 0 (ms_rows S) (ms_now S) 12))
              have hto := aimA_le (pts := pts) (f := fm i) (k := kd i) (d := d) o4
              obtain ⟨L1, h1, h2, h3⟩ := sp_go E ok hi hd1 hd (canA_few cc)
              obtain ⟨L', q1, q2, q3⟩ := sp_passThrow h2 (T.same h3) okt.1
              have hS' : ES pts hm n fm kd (ms_s_before (ms_s_acts (ms_s_rows S (asR 0 (ms_rows S) (ms_now S) 12)) a) Bf) := es_of EM hoo hn
              have hE' : ER pts n ps 0 (ms_s_before (ms_s_acts (ms_s_rows S (asR 0 (ms_rows S) (ms_now S) 12)) a) Bf) := er_aside (D := 0) EM hn
              obtain ⟨R1, r1, r2, r3⟩ := s8_goMan hS' hE' (show 0 < 4 by omega) ok hi hd1 hd
              have hT' : EMt thr trn cub ow (fun c => R1 (12 * 0 + c)) := emt_same (emt_aside (D := 0) (S := S) TM) (fun c a1 a2 => r3 _ (by omega))
              obtain ⟨R, u1, u2, u3⟩ := s8_goTurn (S := ms_s_rows (ms_s_before (ms_s_acts (ms_s_rows S (asR 0 (ms_rows S) (ms_now S) 12)) a) Bf) R1) (D := 0) hT' (by omega) okt.1
              have r1 : M_X8_goMan _ (0 : Int32) (nI i) (nI d) = _ := r1
              have u1 : M_X8_goTurn _ (0 : Int32) = _ := u1
              have hgi : goA pts n fm ps i (aimA pts (fm i) (kd i) (ps i) d) i = aimA pts (fm i) (kd i) (ps i) d := if_pos rfl
              have hE2 : ∀ j, j < n → R (12 * 0 + j) = nI (trc pts (goA pts n fm ps i (aimA pts (fm i) (kd i) (ps i) d) j)) := fun j hj => (u3 _ (by omega) (by omega)).trans (r2 j hj)
              have EM2 := emb_take (R := R) EM hn hE2
              have e12 : asR 0 (ms_now S) R 12 i = nI (trc pts (aimA pts (fm i) (kd i) (ps i) d)) := by rw [(EM2.2.2.2 i hi).2.2, hgi]
              have e7 : bd_places L' i = nI (aimA pts (fm i) (kd i) (ps i) d) := by rw [(q2.2.2.2.1 i hi).2.2, hgi]
              have tl := trc_le hto hpt
              have t9 := trc_99 hto hpt
              have hRel : Rel tf rw_ tp bs L' i0 i1 ac' as (ms_s_now (ms_s_rows (ms_s_before (ms_s_acts (ms_s_rows S (asR 0 (ms_rows S) (ms_now S) 12)) a) Bf) R) (asR 0 (ms_now S) R 12)) := ⟨hT, hR, hP, hA, pts, hm, n, fm, kd, goA pts n fm ps i (aimA pts (fm i) (kd i) (ps i) d), 1 - thr, trn + 1, cub, ow, Or.inr ⟨c1, ok.go hto, ⟨by omega, by omega, okt.2.2⟩, q3, emt_take u2, c6⟩, q2, EM2, g3, hoo, hImg⟩
              rw [g1, g2]
              simp only [ob]
              rw [h1, r1]
              simp only [ob]
              rw [q1, u1]
              simp only [ob]
              rw [s8_take]
              simp only [ob]
              rw [e7, sp_placeTold q2 hpt hto]
              simp only [ob]
              rw [e12]
              simp only [show ((99 : Int32)) = nI 99 from rfl, eqI (show trc pts (aimA pts (fm i) (kd i) (ps i) d) < 2 ^ 31 by omega) (show 99 < 2 ^ 31 by omega), t9]
              by_cases c9 : aimA pts (fm i) (kd i) (ps i) d = pts + 1
              · rw [if_pos c9, if_pos c9]
                exact ⟨_, _, _, _, rfl, congrArg some (Prod.ext EM.1 rfl), hRel⟩
              · rw [if_neg c9, if_neg c9, trc_pt (show aimA pts (fm i) (kd i) (ps i) d < pts + 1 by omega)]
                exact ⟨_, _, _, _, rfl, rfl, hRel⟩
            · rw [if_neg ht, if_pos (show trn = 999 by omega)]
              exact ⟨_, _, _, _, rfl, rfl, h0.rows _⟩
          · simp only [cc, not_false_eq_true, if_true]
            exact ⟨_, _, _, _, rfl, rfl, h0.rows _⟩
        · rw [if_neg cf, if_neg cf]
          exact ⟨_, _, _, _, rfl, rfl, h0.rows _⟩
    · simp only [hx, not_false_eq_true, if_true]
      exact ⟨_, _, _, _, rfl, rfl, h0⟩
  · simp only [hm1, not_false_eq_true, if_true]
    exact ⟨_, _, _, _, rfl, rfl, h0⟩
