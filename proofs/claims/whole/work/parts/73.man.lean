theorem s8_pipsAt {pts f p : Nat} {S : MS} (e1 : ms_points S = nI pts) (hp : pts ≤ 12) (hf : f < 2) (h : p ≤ pts + 1) : M_X8_pipsAt S (nI f) (nI (trc pts p)) = some (nI (pipA pts f p)) := by
  have t1 := trc_le h hp
  unfold M_X8_pipsAt
  rw [e1]
  simp only [show ((99 : Int32)) = nI 99 from rfl, eqI (show trc pts p < 2 ^ 31 by omega) (show 99 < 2 ^ 31 by omega), eqI (show trc pts p < 2 ^ 31 by omega) (show pts < 2 ^ 31 by omega), show ((0 : Int32)) = nI 0 from rfl, eqI (show f < 2 ^ 31 by omega) (show 0 < 2 ^ 31 by omega), nI_1, trc_99 h hp]
  unfold pipA
  by_cases h1 : p = pts + 1
  · rw [if_pos h1, if_pos h1]
  · rw [if_neg h1, if_neg h1, trc_pt (by omega)]
    by_cases h2 : p = pts
    · rw [if_pos h2, if_pos h2]
    · rw [if_neg h2, if_neg h2]
      by_cases h3 : f = 0
      · rw [if_pos h3, if_pos h3, subI (by omega)]
      · rw [if_neg h3, if_neg h3]
theorem in03 {y : Int32} (h : 0 ≤ y ∧ y ≤ 3) : y = 0 ∨ y = 1 ∨ y = 2 ∨ y = 3 := by
  rw [le0] at h
  obtain ⟨k, hk, rfl⟩ := nI_of (x := y) (by rw [lt0]; omega)
  have h2 := (leI (b := 3) (by omega) (by omega)).1 h.2
  rcases (show k = 0 ∨ k = 1 ∨ k = 2 ∨ k = 3 by omega) with e | e | e | e
  · exact Or.inl (by rw [e]; rfl)
  · exact Or.inr (Or.inl (by rw [e]; rfl))
  · exact Or.inr (Or.inr (Or.inl (by rw [e]; rfl)))
  · exact Or.inr (Or.inr (Or.inr (by rw [e]; rfl)))
theorem sim_man {tf : TF} {rw_ : RW} {tp : TP} {bs : IA} {L i0 i1 : BD} {ac : AC} {as : AS} {S : MS} (h : Rel tf rw_ tp bs L i0 i1 ac as S) (x y : Int32) :
    ∃ v, M_X7_man tf L x y = some v ∧ M_X8_man S x y = some v := by
  obtain ⟨hT, hR, hP, hA, hB⟩ := h
  obtain ⟨pts, hm, n, fm, kd, ps, thr, trn, cub, ow, hcase, E, EM, hAct, hoo, hImg⟩ := hB
  unfold M_X7_man M_X8_man
  rw [show (0 : Int64) = (0 : Int32).toInt64 from rfl, show (3 : Int64) = (3 : Int32).toInt64 from rfl, sp_in, sp_isMan7 E.2.2.1, sp_isMan8 EM.2.2.1]
  simp only [ob, b01_no]
  by_cases hm1 : 0 ≤ x ∧ x ≤ nI n - 1
  · have hn : n ≤ 8 := by
      rcases hcase with c | c
      · omega
      · exact c.2.1.2.2.2.2.1
    obtain ⟨i, hi, rfl⟩ := man_of hn hm1
    rcases hcase with ⟨c1, c2⟩ | ⟨c1, ok, okt, T, TM, c6⟩
    · omega
    have nm : ¬ ¬ (0 ≤ nI i ∧ nI i ≤ nI n - 1) := fun z => z hm1
    have hpt : pts ≤ 12 := ok.2.1
    obtain ⟨f1, f2, f3⟩ := E.2.2.2.1 i hi
    obtain ⟨g1, g2, g3⟩ := EM.2.2.2 i hi
    obtain ⟨o1, o2, o3, o4⟩ := ok.2.2.2.2.2 i hi
    have t9 := trc_99 o4 hpt
    have tl := trc_le o4 hpt
    have hpp := pipA_le (f := fm i) o4
    have hh : hm ≤ 4 := ok.2.2.2.1
    simp only [nm, if_false]
    rw [inb_nI (show i < 8 by omega) (by omega), inb_nI (show i < 12 by omega) (by omega), cl (show i < 2 ^ 31 by omega), f1, f3, g1, g3, sp_off E, sp_pipsOf E ok hi, s8_pipsAt EM.1 hpt o1 o4]
    simp only [ob, if_true, E.2.1, EM.2.1, ltI (show hm < 2 ^ 31 by omega) (show pipA pts (fm i) (ps i) < 2 ^ 31 by omega), show ((99 : Int32)) = nI 99 from rfl, eqI (show trc pts (ps i) < 2 ^ 31 by omega) (show 99 < 2 ^ 31 by omega), t9, eqI (show ps i < 2 ^ 31 by omega) (show pts + 1 < 2 ^ 31 by omega)]
    by_cases hy : 0 ≤ y ∧ y ≤ 3
    · have ny : ¬ ¬ (0 ≤ y ∧ y ≤ 3) := fun z => z hy
      simp only [ny, if_false]
      rcases in03 hy with e | e | e | e
      · subst e
        exact ⟨_, rfl, rfl⟩
      · subst e
        rw [if_neg (show ¬ (1 : Int32) = 0 by decide), if_pos rfl, if_neg (show ¬ (1 : Int32) = 0 by decide), if_pos rfl]
        by_cases c : ps i = pts + 1
        · rw [if_pos c, if_pos c]; exact ⟨_, rfl, rfl⟩
        · rw [if_neg c, if_neg c, trc_pt (by omega)]; exact ⟨_, rfl, rfl⟩
      · subst e
        exact ⟨_, rfl, rfl⟩
      · subst e
        by_cases c : hm < pipA pts (fm i) (ps i)
        · simp only [c, if_true]; exact ⟨_, rfl, rfl⟩
        · simp only [c, if_false]; exact ⟨_, rfl, rfl⟩
    · have z0 : ¬ y = 0 := fun z => hy (by rw [z]; decide)
      have z1 : ¬ y = 1 := fun z => hy (by rw [z]; decide)
      have z2 : ¬ y = 2 := fun z => hy (by rw [z]; decide)
      have z3 : ¬ y = 3 := fun z => hy (by rw [z]; decide)
      simp only [hy, not_false_eq_true, if_true, z0, z1, z2, z3, if_false]
      exact ⟨_, rfl, rfl⟩
  · simp only [hm1, not_false_eq_true, if_true]
    exact ⟨_, rfl, rfl⟩
