/-! ===== a man goes: the class's way ===== -/
section GO
variable {pts hm n : Nat} {fm kd ps : Nat → Nat} {L : BD}
theorem EC.same {qs : Nat → Nat} (e : ps = qs) (E : EC pts hm n fm kd ps L) : EC pts hm n fm kd qs L := by rw [← e]; exact E
theorem sameT.trans {A B C : BD} (t1 : sameT A B) (t3 : sameT B C) : sameT A C := ⟨t3.1.trans t1.1, t3.2.1.trans t1.2.1, t3.2.2.1.trans t1.2.2.1, t3.2.2.2.trans t1.2.2.2⟩
/-- the class's go: who was hit, and the board -/
theorem sp_go (E : EC pts hm n fm kd ps L) (ok : OKb pts hm n fm kd ps) {i d : Nat} (hi : i < n) (hd1 : 1 ≤ d) (hd : d ≤ 6)
    (hc : aimA pts (fm i) (kd i) (ps i) d < pts → cntA n fm ps (1 - fm i) (aimA pts (fm i) (kd i) (ps i) d) < 2) :
    ∃ L', M_X2_go L (nI i) (nI d) = some (mnb n (loneA pts n fm ps (1 - fm i) (aimA pts (fm i) (kd i) (ps i) d)), L') ∧ EC pts hm n fm kd (goA pts n fm ps i (aimA pts (fm i) (kd i) (ps i) d)) L' ∧ sameT L L' := by
  have hn : n ≤ 8 := ok.2.2.2.2.1
  have hpt : pts ≤ 12 := ok.2.1
  have hfi := (ok.2.2.2.2.2 i hi).1
  have hto : aimA pts (fm i) (kd i) (ps i) d ≤ pts + 1 := aimA_le (ok.2.2.2.2.2 i hi).2.2.2
  have hg := go_eq ok hi hc
  generalize hT : aimA pts (fm i) (kd i) (ps i) d = to at hto hg hc ⊢
  obtain ⟨u, hu, E1, t1⟩ := sp_put E ok hi hto
  unfold M_X2_go
  rw [sp_aim E ok hi hd1 hd, hT]
  simp only [ob]
  rw [if_pos (inb_nI (show i < 8 by omega) (by omega)), cl (by omega), (E.2.2.2.1 i hi).1, show ((1 : Int32)) = nI 1 from rfl, subI (show fm i ≤ 1 by omega), sp_loneOn E ok (show 1 - fm i < 2 by omega) hto]
  simp only [ob]
  rw [hu]
  simp only [ob]
  by_cases hl : loneA pts n fm ps (1 - fm i) to < n
  · rw [if_pos hl] at hg
    rw [if_neg (fun z => absurd ((mnb_no (by omega)).1 z) (by omega)), sp_bar E1]
    simp only [ob]
    obtain ⟨u', hu', E2, t2⟩ := sp_put E1 (ok.set hto) hl (show pts ≤ pts + 1 by omega)
    rw [mnb_t hl, hu']
    exact ⟨u', rfl, E2.same hg, t1.trans t2⟩
  · rw [if_neg hl] at hg
    rw [if_pos ((mnb_no (by omega)).2 (by omega))]
    exact ⟨u, rfl, E1.same hg, t1⟩
end GO
