/-! ===== who has won: the reference's way ===== -/
def gA (k : Nat) : Int32 := if k < 2 then nI (1 - k) else -1
section WINM
variable {pts hm n : Nat} {fm kd ps : Nat → Nat} {S : MS} {D : Nat}
theorem s8_won (hS : ES pts hm n fm kd S) (hE : ER pts n ps D S) (hD : D < 4) (ok : OKb pts hm n fm kd ps) : M_X8_won S (nI D) = some (mnb 1000 (winA pts n fm ps)) := by
  have hn : n ≤ 8 := ok.2.2.2.2.1
  have hpt : pts ≤ 12 := ok.2.1
  obtain ⟨e1, e2, e3, e4⟩ := hS
  unfold M_X8_won
  refine (bind_of (b := mnb 1000 (winA pts n fm ps)) ?_).trans rfl
  refine lp_at (fun k => (mnb 1000 (wA pts n fm ps k), gA k)) 2 _ rfl ?_ ?_ (by omega)
  · intro k rec hk
    have hg : gA k = nI (1 - k) := if_pos hk
    have hg2 : nI (1 - k) + (-1 : Int32) = gA (k + 1) := by
      rcases (show k = 0 ∨ k = 1 by omega) with e | e
      · rw [e]; decide
      · rw [e]; decide
    have hneg : ¬ nI (1 - k) < (0 : Int32) := fun z => absurd ((ltI (b := 0) (by omega) (by omega)).1 z) (by omega)
    have hw : wA pts n fm ps (k + 1) = if wonA pts n fm ps (1 - k) = true then 1 - k else wA pts n fm ps k := rfl
    have hwt := wonA_t (pts := pts) (n := n) (fm := fm) (ps := ps) (f := 1 - k)
    have hf : 1 - k < 2 := by omega
    simp only [hg, hneg, if_false, hw, hg2]
    generalize 1 - k = f at hf hwt ⊢
    have hs := cntF_split (fm := fm) (ps := ps) (f := f) (a := pts + 1) n
    have hcF : cntF n fm f ≤ n := fb_ct_le _ _
    refine (bind_of (b := (nI (cntF n fm f), nI (cntA n fm ps f (pts + 1)))) ?_).trans ?_
    · refine lp_at (fun j => (nI (cntF j fm f), nI (cntA j fm ps f (pts + 1)), nI j)) n _ rfl ?_ ?_ (by omega)
      · intro j rec2 hj
        obtain ⟨f1, f2⟩ := e4 j hj
        obtain ⟨o1, o2, o3, o4⟩ := ok.2.2.2.2.2 j hj
        have h1 : ¬ nI n ≤ nI j := nI_ge hj (by omega)
        have t1 := trc_le o4 hpt
        have t9 := trc_99 o4 hpt
        have ea : cntF (j + 1) fm f = cntF j fm f + (if (fm j == f) = true then 1 else 0) := rfl
        have eb : cntA (j + 1) fm ps f (pts + 1) = cntA j fm ps f (pts + 1) + (if (fm j == f && ps j == pts + 1) = true then 1 else 0) := rfl
        simp only [e3, h1, if_false]
        rw [inb_nI (show j < 8 by omega) (by omega), cl (show j < 2 ^ 31 by omega), f1, s8_at hE hD ok hj]
        unfold jn
        simp only [ob, if_true, eqI (show fm j < 2 ^ 31 by omega) (show f < 2 ^ 31 by omega), nI_p1, Int32.add_zero, show ((99 : Int32)) = nI 99 from rfl, eqI (show trc pts (ps j) < 2 ^ 31 by omega) (show 99 < 2 ^ 31 by omega), t9]
        by_cases c : fm j = f
        · rw [if_pos c, if_pos c, ea, if_pos (show (fm j == f) = true by simp [c])]
          by_cases c2 : ps j = pts + 1
          · rw [if_pos c2, eb, if_pos (show (fm j == f && ps j == pts + 1) = true by simp [c, c2])]
          · rw [if_neg c2, eb, if_neg (show ¬ (fm j == f && ps j == pts + 1) = true by simp [c2])]; rfl
        · rw [if_neg c, if_neg c, ea, if_neg (show ¬ (fm j == f) = true by simp [c]), eb, if_neg (show ¬ (fm j == f && ps j == pts + 1) = true by simp [c])]; rfl
      · intro rec2
        have h1 : nI n ≤ nI n := nI_le (Nat.le_refl n) (by omega)
        simp only [e3, h1, if_true]
    · simp only [show ((0 : Int32)) = nI 0 from rfl, leI (show cntF n fm f < 2 ^ 31 by omega) (show 0 < 2 ^ 31 by omega), eqI (show cntF n fm f < 2 ^ 31 by omega) (show cntA n fm ps f (pts + 1) < 2 ^ 31 by omega)]
      by_cases c : cntF n fm f ≤ 0
      · rw [if_pos c, if_neg (fun z => by have := hwt.1 z; omega)]
      · rw [if_neg c]
        by_cases c2 : cntF n fm f = cntA n fm ps f (pts + 1)
        · rw [if_pos c2, if_pos (hwt.2 ⟨by omega, by omega⟩), mnb_t (show f < 1000 by omega)]
        · rw [if_neg c2, if_neg (fun z => by have := hwt.1 z; omega)]
  · intro rec
    rfl
end WINM
