theorem sim_whither {tf : TF} {rw_ : RW} {tp : TP} {bs : IA} {L i0 i1 : BD} {ac : AC} {as : AS} {S : MS} (h : Rel tf rw_ tp bs L i0 i1 ac as S) (x y : Int32) :
    ∃ v S', M_X7_whither tf L x y = some v ∧ M_X8_whither S x y = some (v, S') ∧ Rel tf rw_ tp bs L i0 i1 ac as S' := by
  have h0 := h
  obtain ⟨hT, hR, hP, hA, hB⟩ := h
  obtain ⟨pts, hm, n, fm, kd, ps, thr, trn, cub, ow, hcase, E, EM, hAct, hoo, hImg⟩ := hB
  unfold M_X7_whither M_X8_whither
  rw [sp_isThrow7, sp_isThrow8, sp_isMan7 E.2.2.1, sp_isMan8 EM.2.2.1]
  simp only [ob, b01_no]
  by_cases hm1 : 0 ≤ x ∧ x ≤ nI n - 1
  · have hn : n ≤ 8 := by
      rcases hcase with c | c
      · omega
      · exact c.2.1.2.2.2.2.1
    obtain ⟨i, hi, rfl⟩ := man_of hn hm1
    rcases hcase with ⟨c1, c2⟩ | ⟨c1, ok, okt, T, TM, c6⟩
    · omega
    have nm : ¬ ¬ (0 ≤ nI i ∧ nI i ≤ nI n - 1) := fun z => z hm1
    simp only [nm, if_false]
    by_cases hx : 1 ≤ y ∧ y ≤ 6
    · obtain ⟨d, hd, rfl⟩ := nI_of (x := y) (not_neg hx.1)
      have hd1 : 1 ≤ d := (leI (a := 1) (by omega) (by omega)).1 hx.1
      have hd6 : d ≤ 6 := (leI (b := 6) (by omega) (by omega)).1 hx.2
      have hto := aimA_le (pts := pts) (f := fm i) (k := kd i) (d := d) (ok.2.2.2.2.2 i hi).2.2.2
      have hS' := (es_of EM hoo hn).rows (R := asR 0 (ms_rows S) (ms_now S) 12)
      have nx : ¬ ¬ (1 ≤ nI d ∧ nI d ≤ 6) := fun z => z hx
      simp only [nx, if_false]
      rw [show ((0 : Int32)) = nI 0 from rfl, s8_aside S (show 0 < 4 by omega), sp_canGo E ok hi hd1 hd6, sp_aim E ok hi hd1 hd6]
      simp only [ob]
      rw [s8_can hS' (er_aside EM hn) (show 0 < 4 by omega) ok hi hd1 hd6, s8_target hS' (er_aside EM hn) (show 0 < 4 by omega) ok hi hd1 hd6, sp_placeTold E ok.2.1 hto]
      simp only [ob, show nI 0 = (0 : Int32) from rfl, b01_no]
      have hRel : Rel tf rw_ tp bs L i0 i1 ac as (ms_s_rows S (asR 0 (ms_rows S) (ms_now S) 12)) := ⟨hT, hR, hP, hA, pts, hm, n, fm, kd, ps, thr, trn, cub, ow, Or.inr ⟨c1, ok, okt, T, TM, c6⟩, E, EM, hAct, hoo, hImg⟩
      by_cases c : canA pts hm n fm kd ps i d = true
      · have nc : ¬ ¬ (canA pts hm n fm kd ps i d = true) := fun z => z c
        have t9 := trc_99 hto ok.2.1
        have tl := trc_le hto ok.2.1
        have hpt : pts ≤ 12 := ok.2.1
        simp only [nc, if_false, show ((99 : Int32)) = nI 99 from rfl, eqI (show trc pts (aimA pts (fm i) (kd i) (ps i) d) < 2 ^ 31 by omega) (show 99 < 2 ^ 31 by omega), t9]
        by_cases c9 : aimA pts (fm i) (kd i) (ps i) d = pts + 1
        · simp only [c9, if_true]
          exact ⟨_, _, rfl, congrArg some (Prod.ext EM.1 rfl), hRel⟩
        · simp only [c9, if_false, trc_pt (show aimA pts (fm i) (kd i) (ps i) d < pts + 1 by omega)]
          exact ⟨_, _, rfl, rfl, hRel⟩
      · simp only [c, not_false_eq_true, if_true]
        exact ⟨_, _, rfl, rfl, hRel⟩
    · simp only [hx, not_false_eq_true, if_true]
      exact ⟨_, _, rfl, rfl, h0⟩
  · simp only [hm1, not_false_eq_true, if_true]
    exact ⟨_, _, rfl, rfl, h0⟩
