theorem not_neg {x : Int32} (h : 1 ≤ x) : ¬ x < 0 := by
  have h1 := Int32.le_iff_toInt_le.1 h
  have e : ((1 : Int32)).toInt = 1 := by decide
  rw [lt0]
  omega
theorem sim_may {tf : TF} {rw_ : RW} {tp : TP} {bs : IA} {L i0 i1 : BD} {ac : AC} {as : AS} {S : MS} (h : Rel tf rw_ tp bs L i0 i1 ac as S) (x : Int32) :
    ∃ v S', M_X7_may tf L x = some v ∧ M_X8_may S x = some (v, S') ∧ Rel tf rw_ tp bs L i0 i1 ac as S' := by
  have h0 := h
  obtain ⟨hT, hR, hP, hA, hB⟩ := h
  obtain ⟨pts, hm, n, fm, kd, ps, thr, trn, cub, ow, hcase, E, EM, hAct, hoo, hImg⟩ := hB
  unfold M_X7_may M_X8_may M_X7_hasNoTable
  rw [sp_isThrow7, sp_isThrow8, E.2.2.1]
  rcases hcase with ⟨c1, c2, c3, c4, c5, c6, c7⟩ | ⟨c1, ok, okt, T, TM, c6⟩
  · rw [c6, c1]
    exact ⟨_, _, rfl, rfl, h0⟩
  · have hn : n ≤ 8 := ok.2.2.2.2.1
    have hn0 : ¬ nI n = (0 : Int32) := fun z => absurd ((eqI (b := 0) (by omega) (by omega)).1 z) (by omega)
    rw [c6, if_neg hn0, if_neg (show ¬ (1 : Int32) = 0 by decide)]
    simp only [ob, b01_no]
    by_cases hx : 1 ≤ x ∧ x ≤ 6
    · obtain ⟨d, hd, rfl⟩ := nI_of (x := x) (not_neg hx.1)
      have hd1 : 1 ≤ d := (leI (a := 1) (by omega) (by omega)).1 hx.1
      have hd6 : d ≤ 6 := (leI (b := 6) (by omega) (by omega)).1 hx.2
      rw [T.2.1, sp_menWhoCan E ok okt.1 hd1 hd6, show ((0 : Int32)) = nI 0 from rfl, s8_aside S (show 0 < 4 by omega)]
      have hl := s8_mayLoop (es_of EM hoo hn).rows (er_aside (D := 0) EM hn) ok okt.1 hd1 hd6 (S := ms_s_rows S (asR 0 (ms_rows S) (ms_now S) 12)) TM.2.1
      simp only [ob, hx, not_true_eq_false, if_false, and_self]
      refine ⟨_, _, rfl, (bind_of hl).trans rfl, ⟨hT, hR, hP, hA, ?_⟩⟩
      exact ⟨pts, hm, n, fm, kd, ps, thr, trn, cub, ow, Or.inr ⟨c1, ok, okt, T, TM, c6⟩, E, EM, hAct, hoo, hImg⟩
    · rw [if_pos hx, if_pos hx]
      exact ⟨_, _, rfl, rfl, h0⟩
