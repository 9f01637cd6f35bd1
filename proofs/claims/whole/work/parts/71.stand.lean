/-! ===== stand, pips ===== -/
theorem sim_stand {tf : TF} {rw_ : RW} {tp : TP} {bs : IA} {L i0 i1 : BD} {ac : AC} {as : AS} {S : MS} (h : Rel tf rw_ tp bs L i0 i1 ac as S) (x : Int32) :
    ∃ v S', M_X7_stand tf L x = some v ∧ M_X8_stand S x = some (v, S') ∧ Rel tf rw_ tp bs L i0 i1 ac as S' := by
  have h0 := h
  obtain ⟨hT, hR, hP, hA, hB⟩ := h
  obtain ⟨pts, hm, n, fm, kd, ps, thr, trn, cub, ow, hcase, E, EM, hAct, hoo, hImg⟩ := hB
  unfold M_X7_stand M_X8_stand M_X7_hasNoTable
  rw [E.2.2.1]
  rcases hcase with ⟨c1, c2, c3, c4, c5, c6, c7⟩ | ⟨c1, ok, okt, T, TM, c6⟩
  · rw [c6, c1]
    exact ⟨_, _, rfl, rfl, h0⟩
  · have hn : n ≤ 8 := ok.2.2.2.2.1
    have hn0 : ¬ nI n = (0 : Int32) := fun z => absurd ((eqI (b := 0) (by omega) (by omega)).1 z) (by omega)
    rw [c6, if_neg hn0, if_neg (show ¬ (1 : Int32) = 0 by decide), sp_winner E ok, s8_wonNow EM hoo ok]
    have t8 : ms_now S ((8 : Int32)).toNatClampNeg = nI thr := TM.2.1
    have t9 : ms_now S ((9 : Int32)).toNatClampNeg = nI cub := TM.2.2.1
    have t10 : ms_now S ((10 : Int32)).toNatClampNeg = ow := TM.2.2.2
    simp only [ob, if_true, t8, t9, t10, T.2.1, T.2.2.1, T.2.2.2, E.1, E.2.1, EM.1, EM.2.1]
    have hRel : Rel tf rw_ tp bs L i0 i1 ac as (ms_s_rows S (asR 0 (ms_rows S) (ms_now S) 12)) := ⟨hT, hR, hP, hA, pts, hm, n, fm, kd, ps, thr, trn, cub, ow, Or.inr ⟨c1, ok, okt, T, TM, c6⟩, E, EM, hAct, hoo, hImg⟩
    by_cases d0 : x = 0
    · rw [if_pos d0, if_pos d0]; exact ⟨_, _, rfl, rfl, h0⟩
    rw [if_neg d0, if_neg d0]
    by_cases d1 : x = 1
    · rw [if_pos d1, if_pos d1]; exact ⟨_, _, rfl, rfl, h0⟩
    rw [if_neg d1, if_neg d1]
    by_cases d2 : x = 2
    · rw [if_pos d2, if_pos d2]; exact ⟨_, _, rfl, rfl, h0⟩
    rw [if_neg d2, if_neg d2]
    by_cases d3 : x = 3
    · rw [if_pos d3, if_pos d3]; exact ⟨_, _, rfl, rfl, hRel⟩
    rw [if_neg d3, if_neg d3]
    by_cases d4 : x = 4
    · rw [if_pos d4, if_pos d4]; exact ⟨_, _, rfl, rfl, h0⟩
    rw [if_neg d4, if_neg d4]
    by_cases d5 : x = 5
    · rw [if_pos d5, if_pos d5]; exact ⟨_, _, rfl, rfl, h0⟩
    rw [if_neg d5, if_neg d5]
    exact ⟨_, _, rfl, rfl, h0⟩
