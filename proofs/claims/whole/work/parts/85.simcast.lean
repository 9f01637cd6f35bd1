/-! ===== sims: cast, played, kinds ===== -/
theorem row_of {x : Int32} (h : 0 ≤ x ∧ x ≤ 7) : ∃ r, r < 8 ∧ x = nI r := by
  obtain ⟨q, hq, e⟩ := pl_of (pts := 7) (by omega) h
  exact ⟨q, by omega, e⟩
theorem sim_cast {tf : TF} {rw_ : RW} {tp : TP} {bs : IA} {L i0 i1 : BD} {ac : AC} {as : AS} {S : MS} (h : Rel tf rw_ tp bs L i0 i1 ac as S) (fs : FS) (told : IA) (M : BD) (x z : Int32) :
    ∃ v tf' told' M' S', M_X7_cast tf L rw_ fs told M x z = some (v, tf', told', M') ∧ M_X8_cast S x z = some (v, S') ∧ Rel tf' rw_ tp bs L i0 i1 ac as S' := by
  unfold M_X7_cast M_X8_cast
  rcases h.tabs with ⟨e1, e2, e3, e4⟩ | ⟨pts, hm, n, fm, kd, ps, thr, trn, cub, ow, B, A, I⟩
  · rw [no_tab e1, e3]
    exact ⟨_, _, _, _, _, rfl, rfl, h⟩
  have hn := B.n8
  have hno := B.no (tf := tf)
  have hov := B.over (tf := tf)
  have hhas := B.has
  have B0 := B
  obtain ⟨c1, ok, okt, E, T, EM, TM, c6, hoo⟩ := B
  obtain ⟨S1, w1, w2, w3, w4⟩ := kp_wonNow EM hoo ok
  have hR1 : RelRow rw_ S1 := (h.kp w2 w3).2.1
  have hmS1 : ms_men S1 = nI n := w2.2.1.2.2.1.trans EM.2.2.1
  rw [hno, if_neg hhas, sp_isRow7, sp_isRow8, hov, w1, E.2.2.1]
  simp only [ob, if_true, b01_no]
  by_cases hx : 0 ≤ x ∧ x ≤ 7
  · obtain ⟨r, hr, rfl⟩ := row_of hx
    have nx : ¬ ¬ (0 ≤ nI r ∧ nI r ≤ 7) := fun q => q hx
    simp only [nx, if_false, won_no]
    by_cases hw : winA pts n fm ps < 1000
    · simp only [hw, not_true_eq_false, if_false]
      exact ⟨_, _, _, _, _, rfl, rfl, h.kp w2 w3⟩
    · simp only [hw, not_false_eq_true, if_true]
      rcases told_finds hR1 hmS1 hn hr z with ⟨f1, f2⟩ | ⟨f1, f2⟩ | ⟨f1, f2, j, hj, rfl⟩
      · rw [f1, f2]
        simp only [ob, show ¬ (1 : Int32) = 0 by decide, if_false, M_X7_found, M_X8_found]
        exact ⟨_, _, _, _, _, rfl, rfl, h.kw (w2.w.trans (kw_status _ _)) (w3.trans (kn_status _ _)) (w2.2.1.2.2.2.2.2.2.1.trans hoo) rfl rfl⟩
      · rw [f1, f2]
        simp only [ob, show ¬ (2 : Int32) = 0 by decide, if_false, M_X7_found, M_X8_found]
        exact ⟨_, _, _, _, _, rfl, rfl, h.kw (w2.w.trans (kw_status _ _)) (w3.trans (kn_status _ _)) (w2.2.1.2.2.2.2.2.2.1.trans hoo) rfl rfl⟩
      · rw [f1, f2]
        simp only [ob, if_true]
        rw [sp_read hn told hr hj]
        simp only [ob]
        obtain ⟨b1, b2, g1, g2, g3, g4, g5⟩ := cast_two (S0 := fs) B0 h.2.1 told hr hj M w2 w3
        unfold M_X3_throwsSo
        refine ⟨b1.1, (tf_s_latestFinding tf 0), va_cpy (rw_items rw_) told (r * 40 + j) 0 n, b1.2, (ms_s_status b2.2 0), ?_, ?_, h.kw (g4.w.trans (kw_status _ _)) (g5.trans (kn_status _ _)) (g4.2.1.2.2.2.2.2.2.1.trans hoo) rfl rfl⟩
        · exact (bind_of ((bind_of g1).trans rfl)).trans rfl
        · refine (bind_of g2).trans ?_
          rw [← g3]
          rfl
  · simp only [hx, not_false_eq_true, if_true]
    exact ⟨_, _, _, _, _, rfl, rfl, h⟩
theorem sim_played {tf : TF} {rw_ : RW} {tp : TP} {bs : IA} {L i0 i1 : BD} {ac : AC} {as : AS} {S : MS} (h : Rel tf rw_ tp bs L i0 i1 ac as S) (fs : FS) (told : IA) (M : BD) (y x z : Int32) :
    ∃ v tf' told' M' S', M_X7_played tf L rw_ fs told M y x z = some (v, tf', told', M') ∧ M_X8_played S y x z = some (v, S') ∧ Rel tf' rw_ tp bs L i0 i1 ac as S' := by
  unfold M_X7_played M_X8_played
  rcases h.tabs with ⟨e1, e2, e3, e4⟩ | ⟨pts, hm, n, fm, kd, ps, thr, trn, cub, ow, B, A, I⟩
  · rw [no_tab e1, e3]
    exact ⟨_, _, _, _, _, rfl, rfl, h⟩
  have hn := B.n8
  have hno := B.no (tf := tf)
  have hov := B.over (tf := tf)
  have hhas := B.has
  have B0 := B
  obtain ⟨c1, ok, okt, E, T, EM, TM, c6, hoo⟩ := B
  obtain ⟨S1, w1, w2, w3, w4⟩ := kp_wonNow EM hoo ok
  have hR1 : RelRow rw_ S1 := (h.kp w2 w3).2.1
  have hmS1 : ms_men S1 = nI n := w2.2.1.2.2.1.trans EM.2.2.1
  rw [hno, if_neg hhas, sp_isThrow7, sp_isThrow8, sp_isRow7, sp_isRow8, hov, w1, E.2.2.1]
  simp only [ob, if_true, b01_no]
  by_cases hy : 1 ≤ y ∧ y ≤ 6
  · obtain ⟨d, hd1, hd, rfl⟩ := thr_of hy
    have ny : ¬ ¬ (1 ≤ nI d ∧ nI d ≤ 6) := fun q => q hy
    simp only [ny, if_false]
    by_cases hx : 0 ≤ x ∧ x ≤ 7
    · obtain ⟨r, hr, rfl⟩ := row_of hx
      have nx : ¬ ¬ (0 ≤ nI r ∧ nI r ≤ 7) := fun q => q hx
      simp only [nx, if_false, won_no]
      by_cases hw : winA pts n fm ps < 1000
      · simp only [hw, not_true_eq_false, if_false]
        exact ⟨_, _, _, _, _, rfl, rfl, h.kp w2 w3⟩
      · simp only [hw, not_false_eq_true, if_true]
        rcases told_finds hR1 hmS1 hn hr z with ⟨f1, f2⟩ | ⟨f1, f2⟩ | ⟨f1, f2, j, hj, rfl⟩
        · rw [f1, f2]
          simp only [ob, show ¬ (1 : Int32) = 0 by decide, if_false, M_X7_found, M_X8_found]
          exact ⟨_, _, _, _, _, rfl, rfl, h.kw (w2.w.trans (kw_status _ _)) (w3.trans (kn_status _ _)) (w2.2.1.2.2.2.2.2.2.1.trans hoo) rfl rfl⟩
        · rw [f1, f2]
          simp only [ob, show ¬ (2 : Int32) = 0 by decide, if_false, M_X7_found, M_X8_found]
          exact ⟨_, _, _, _, _, rfl, rfl, h.kw (w2.w.trans (kw_status _ _)) (w3.trans (kn_status _ _)) (w2.2.1.2.2.2.2.2.2.1.trans hoo) rfl rfl⟩
        · rw [f1, f2]
          simp only [ob, if_true]
          rw [sp_read hn told hr hj]
          simp only [ob]
          obtain ⟨b1, b2, g1, g2, g3, g4, g5⟩ := played_two (S0 := fs) B0 h.2.1 told hr hj hd1 hd M w2 w3
          unfold M_X3_menSo
          rw [T.2.1, sp_menWhoCan E ok okt.1 hd1 hd]
          refine ⟨b1.1, (tf_s_latestFinding tf 0), va_cpy (rw_items rw_) told (r * 40 + j) 0 n, b1.2, (ms_s_status b2.2 0), ?_, ?_, h.kw (g4.w.trans (kw_status _ _)) (g5.trans (kn_status _ _)) (g4.2.1.2.2.2.2.2.2.1.trans hoo) rfl rfl⟩
          · exact (bind_of ((bind_of g1).trans rfl)).trans rfl
          · refine (bind_of g2).trans ?_
            rw [← g3]
            rfl
    · simp only [hx, not_false_eq_true, if_true]
      exact ⟨_, _, _, _, _, rfl, rfl, h⟩
  · simp only [hy, not_false_eq_true, if_true]
    exact ⟨_, _, _, _, _, rfl, rfl, h⟩
theorem sim_kinds {tf : TF} {rw_ : RW} {tp : TP} {bs : IA} {L i0 i1 : BD} {ac : AC} {as : AS} {S : MS} (h : Rel tf rw_ tp bs L i0 i1 ac as S) (fs : FS) (told : IA) (M : BD) (t y x z : Int32) :
    ∃ v tf' told' M' S', M_X7_kinds tf L rw_ fs told M t y x z = some (v, tf', told', M') ∧ M_X8_kinds S t y x z = some (v, S') ∧ Rel tf' rw_ tp bs L i0 i1 ac as S' := by
  unfold M_X7_kinds M_X8_kinds
  rcases h.tabs with ⟨e1, e2, e3, e4⟩ | ⟨pts, hm, n, fm, kd, ps, thr, trn, cub, ow, B, A, I⟩
  · rw [sp_isMan7 (n := 0) e1, sp_isMan8 (n := 0) e2, b01_f man_no]
    exact ⟨_, _, _, _, _, rfl, rfl, h⟩
  have hn := B.n8
  have hov := B.over (tf := tf)
  have B0 := B
  obtain ⟨c1, ok, okt, E, T, EM, TM, c6, hoo⟩ := B
  obtain ⟨S1, w1, w2, w3, w4⟩ := kp_wonNow EM hoo ok
  have hR1 : RelRow rw_ S1 := (h.kp w2 w3).2.1
  have hmS1 : ms_men S1 = nI n := w2.2.1.2.2.1.trans EM.2.2.1
  rw [sp_isMan7 E.2.2.1, sp_isMan8 EM.2.2.1, sp_isThrow7, sp_isThrow8, sp_isRow7, sp_isRow8, hov, w1, E.2.2.1]
  simp only [ob, b01_no]
  by_cases hm1 : 0 ≤ t ∧ t ≤ nI n - 1
  · obtain ⟨i, hi, rfl⟩ := man_of hn hm1
    have nm : ¬ ¬ (0 ≤ nI i ∧ nI i ≤ nI n - 1) := fun z => z hm1
    simp only [nm, if_false]
    by_cases hy : 1 ≤ y ∧ y ≤ 6
    · obtain ⟨d, hd1, hd, rfl⟩ := thr_of hy
      have ny : ¬ ¬ (1 ≤ nI d ∧ nI d ≤ 6) := fun q => q hy
      simp only [ny, if_false]
      by_cases hx : 0 ≤ x ∧ x ≤ 7
      · obtain ⟨r, hr, rfl⟩ := row_of hx
        have nx : ¬ ¬ (0 ≤ nI r ∧ nI r ≤ 7) := fun q => q hx
        simp only [nx, if_false, won_no]
        by_cases hw : winA pts n fm ps < 1000
        · simp only [hw, not_true_eq_false, if_false]
          exact ⟨_, _, _, _, _, rfl, rfl, h.kp w2 w3⟩
        · simp only [hw, not_false_eq_true, if_true]
          rcases told_finds hR1 hmS1 hn hr z with ⟨f1, f2⟩ | ⟨f1, f2⟩ | ⟨f1, f2, j, hj, rfl⟩
          · rw [f1, f2]
            simp only [ob, show ¬ (1 : Int32) = 0 by decide, if_false, M_X7_found, M_X8_found]
            exact ⟨_, _, _, _, _, rfl, rfl, h.kw (w2.w.trans (kw_status _ _)) (w3.trans (kn_status _ _)) (w2.2.1.2.2.2.2.2.2.1.trans hoo) rfl rfl⟩
          · rw [f1, f2]
            simp only [ob, show ¬ (2 : Int32) = 0 by decide, if_false, M_X7_found, M_X8_found]
            exact ⟨_, _, _, _, _, rfl, rfl, h.kw (w2.w.trans (kw_status _ _)) (w3.trans (kn_status _ _)) (w2.2.1.2.2.2.2.2.2.1.trans hoo) rfl rfl⟩
          · rw [f1, f2]
            simp only [ob, if_true]
            rw [sp_read hn told hr hj]
            simp only [ob]
            have kq : Kp (ms_s_otherKind (ms_s_otherOne S (nI i)) (nI 1)) (ms_s_otherKind (ms_s_otherOne S1 (nI i)) (nI 1)) := by
              obtain ⟨⟨a1, a2, a3, a4, a5, a6, a7, a8, a9⟩, ⟨d1, d2, d3, d4, d5, d6, d7, d8⟩, b1, b2⟩ := w2
              exact ⟨⟨a1, a2, a3, a4, a5, a6, a7, a8, a9⟩, ⟨d1, d2, d3, d4, d5, d6, rfl, rfl⟩, b1, b2⟩
            have nq : Kn S (ms_s_otherKind (ms_s_otherOne S1 (nI i)) (nI 1)) := ⟨w3.1, w3.2.1, w3.2.2⟩
            obtain ⟨b1, b2, g1, g2, g3, g4, g5⟩ := kinds_two (S0 := fs) B0 h.2.1 told hr hj hi hd1 hd M kq nq
            unfold M_X3_kindsSo
            refine ⟨b1.1, (tf_s_latestFinding tf 0), va_cpy (rw_items rw_) told (r * 40 + j) 0 n, b1.2, (ms_s_status (ms_s_otherOne b2.2 (-1000000)) 0), ?_, ?_, h.kw ((g4.trans (kw_oo _ _)).trans (kw_status _ _)) ((g5.trans (kn_oo _ _)).trans (kn_status _ _)) rfl rfl rfl⟩
            · exact (bind_of ((bind_of g1).trans rfl)).trans rfl
            · refine (bind_of g2).trans ?_
              rw [← g3]
              rfl
      · simp only [hx, not_false_eq_true, if_true]
        exact ⟨_, _, _, _, _, rfl, rfl, h⟩
    · simp only [hy, not_false_eq_true, if_true]
      exact ⟨_, _, _, _, _, rfl, rfl, h⟩
  · simp only [hm1, not_false_eq_true, if_true]
    exact ⟨_, _, _, _, _, rfl, rfl, h⟩
