theorem firm_of {x : Int32} (h : 0 ≤ x ∧ x ≤ 1) : ∃ f, f < 2 ∧ x = nI f := by
  rw [le0] at h
  obtain ⟨k, hk, rfl⟩ := nI_of (x := x) (by rw [lt0]; omega)
  have h2 := (leI (b := 1) (by omega) (by omega)).1 h.2
  exact ⟨k, by omega, rfl⟩
theorem sim_pips {tf : TF} {rw_ : RW} {tp : TP} {bs : IA} {L i0 i1 : BD} {ac : AC} {as : AS} {S : MS} (h : Rel tf rw_ tp bs L i0 i1 ac as S) (x y : Int32) :
    ∃ v S', M_X7_pips tf L x y = some v ∧ M_X8_pips S x y = some (v, S') ∧ Rel tf rw_ tp bs L i0 i1 ac as S' := by
  have h0 := h
  obtain ⟨hT, hR, hP, hA, hB⟩ := h
  obtain ⟨pts, hm, n, fm, kd, ps, thr, trn, cub, ow, hcase, E, EM, hAct, hoo, hImg⟩ := hB
  unfold M_X7_pips M_X8_pips M_X7_hasNoTable
  rw [sp_isFirm7, sp_isFirm8, sp_isChoice7, show (0 : Int64) = (0 : Int32).toInt64 from rfl, show (1 : Int64) = (1 : Int32).toInt64 from rfl, sp_in, E.2.2.1]
  rcases hcase with ⟨c1, c2, c3, c4, c5, c6, c7⟩ | ⟨c1, ok, okt, T, TM, c6⟩
  · rw [c6, c1]
    exact ⟨_, _, rfl, rfl, h0⟩
  · have hn : n ≤ 8 := ok.2.2.2.2.1
    have hn0 : ¬ nI n = (0 : Int32) := fun z => absurd ((eqI (b := 0) (by omega) (by omega)).1 z) (by omega)
    have hRel : Rel tf rw_ tp bs L i0 i1 ac as (ms_s_rows S (asR 0 (ms_rows S) (ms_now S) 12)) := ⟨hT, hR, hP, hA, pts, hm, n, fm, kd, ps, thr, trn, cub, ow, Or.inr ⟨c1, ok, okt, T, TM, c6⟩, E, EM, hAct, hoo, hImg⟩
    rw [c6, if_neg hn0, if_neg (show ¬ (1 : Int32) = 0 by decide)]
    simp only [ob, b01_no]
    by_cases hf : 0 ≤ x ∧ x ≤ 1
    · obtain ⟨f, hf2, rfl⟩ := firm_of hf
      have nf : ¬ ¬ (0 ≤ nI f ∧ nI f ≤ 1) := fun z => z hf
      simp only [nf, if_false]
      by_cases hy : 0 ≤ y ∧ y ≤ 1
      · have ny : ¬ ¬ (0 ≤ y ∧ y ≤ 1) := fun z => z hy
        have hS' := (es_of EM hoo hn).rows (R := asR 0 (ms_rows S) (ms_now S) 12)
        have ha : M_X8_aside S (0 : Int32) = _ := s8_aside S (show 0 < 4 by omega)
        have hl : M_X8_lead _ (0 : Int32) (nI f) = _ := s8_lead hS' (er_aside EM hn) (show 0 < 4 by omega) ok hf2
        have hpa : M_X8_pipsOfAll _ (0 : Int32) (nI f) = _ := s8_pipsOfAll hS' (er_aside EM hn) (show 0 < 4 by omega) ok hf2
        simp only [ny, if_false]
        rw [ha]
        simp only [ob]
        rw [hl, hpa, sp_lead E hf2, inb_nI (show f < 2 by omega) (by omega), cl (show f < 2 ^ 31 by omega), (E.2.2.2.2.2 f hf2).1]
        by_cases d0 : y = 0
        · rw [if_pos d0, if_pos d0]; exact ⟨_, _, rfl, rfl, hRel⟩
        · rw [if_neg d0, if_neg d0]; exact ⟨_, _, rfl, rfl, hRel⟩
      · simp only [hy, not_false_eq_true, if_true]
        exact ⟨_, _, rfl, rfl, h0⟩
    · simp only [hf, not_false_eq_true, if_true]
      exact ⟨_, _, rfl, rfl, h0⟩
