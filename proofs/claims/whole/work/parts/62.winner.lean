/-! ===== who has won ===== -/
def wonA (pts n : Nat) (fm ps : Nat → Nat) (f : Nat) : Bool := decide (cntN n fm ps f (pts + 1) = 0) && decide (0 < cntF n fm f)
def wA (pts n : Nat) (fm ps : Nat → Nat) : Nat → Nat
  | 0 => 1000
  | k + 1 => if wonA pts n fm ps (1 - k) = true then 1 - k else wA pts n fm ps k
def winA (pts n : Nat) (fm ps : Nat → Nat) : Nat := wA pts n fm ps 2
theorem winA_eq {pts n : Nat} {fm ps : Nat → Nat} : winA pts n fm ps = if wonA pts n fm ps 0 = true then 0 else if wonA pts n fm ps 1 = true then 1 else 1000 := rfl
section WIN
variable {pts hm n : Nat} {fm kd ps : Nat → Nat} {L : BD} {S : MS} {D : Nat}
theorem wonA_t {f : Nat} : wonA pts n fm ps f = true ↔ cntN n fm ps f (pts + 1) = 0 ∧ 0 < cntF n fm f := by
  unfold wonA; rw [Bool.and_eq_true, decide_eq_true_eq, decide_eq_true_eq]
theorem sp_hasWon (E : EC pts hm n fm kd ps L) (ok : OKb pts hm n fm kd ps) {f : Nat} (hf : f < 2) : M_X2_hasWon L (nI f) = some (b01 (wonA pts n fm ps f = true)) := by
  have hn : n ≤ 8 := ok.2.2.2.2.1
  have hpt : pts ≤ 12 := ok.2.1
  have hs := cntF_split (fm := fm) (ps := ps) (f := f) (a := pts + 1) n
  have hz := pipS_zero ok (f := f) n (Nat.le_refl n)
  have hc := cntA_le n fm ps f (pts + 1)
  have hl := pipS_le ok (f := f) n (Nat.le_refl n)
  have hl2 : n * (pts + 1) ≤ 8 * 13 := Nat.mul_le_mul hn (by omega)
  have hw := wonA_t (pts := pts) (n := n) (fm := fm) (ps := ps) (f := f)
  unfold M_X2_hasWon
  rw [if_pos (inb_nI (show f < 2 by omega) (by omega)), cl (show f < 2 ^ 31 by omega), (E.2.2.2.2.2 f hf).1, sp_off E]
  simp only [ob]
  rw [sp_crowd E hf (show pts + 1 < 14 by omega)]
  simp only [ob, show ((0 : Int32)) = nI 0 from rfl, eqI (show pipS pts n fm ps f < 2 ^ 31 by omega) (show 0 < 2 ^ 31 by omega), leI (show cntA n fm ps f (pts + 1) < 2 ^ 31 by omega) (show 0 < 2 ^ 31 by omega)]
  by_cases c : pipS pts n fm ps f = 0
  · rw [if_pos c]
    by_cases c2 : cntA n fm ps f (pts + 1) ≤ 0
    · rw [if_pos c2, b01_f (fun z => by have := hw.1 z; omega)]; rfl
    · rw [if_neg c2, b01_t (hw.2 ⟨hz.1 c, by omega⟩)]
  · rw [if_neg c, b01_f (fun z => c (hz.2 (hw.1 z).1))]; rfl
theorem sp_winner (E : EC pts hm n fm kd ps L) (ok : OKb pts hm n fm kd ps) : M_X2_winner L = some (mnb 1000 (winA pts n fm ps)) := by
  rw [winA_eq]
  unfold M_X2_winner
  have h0 : ¬ (2 : Int32) ≤ nI 0 := by decide
  have h1 : ¬ (2 : Int32) ≤ nI 1 := by decide
  by_cases w0 : wonA pts n fm ps 0 = true
  · refine lp_at (fun k => nI k) 0 _ rfl (fun k rec hk => absurd hk (Nat.not_lt_zero _)) (fun rec => ?_) (by omega)
    rw [if_neg h0, sp_hasWon E ok (show 0 < 2 by omega)]
    simp only [ob, b01_no]
    rw [if_neg (fun z => z w0), if_pos w0]
    rfl
  · rw [if_neg w0]
    by_cases w1 : wonA pts n fm ps 1 = true
    · refine lp_at (fun k => nI k) 1 _ rfl (fun k rec hk => ?_) (fun rec => ?_) (by omega)
      · rw [show k = 0 by omega, if_neg h0, sp_hasWon E ok (show 0 < 2 by omega)]
        simp only [ob, b01_no]
        rw [if_pos w0]; rfl
      · rw [if_neg h1, sp_hasWon E ok (show 1 < 2 by omega)]
        simp only [ob, b01_no]
        rw [if_neg (fun z => z w1), if_pos w1]
        rfl
    · rw [if_neg w1]
      refine lp_at (fun k => nI k) 2 _ rfl (fun k rec hk => ?_) (fun rec => rfl) (by omega)
      rcases (show k = 0 ∨ k = 1 by omega) with e | e
      · rw [e, if_neg h0, sp_hasWon E ok (show 0 < 2 by omega)]
        simp only [ob, b01_no]
        rw [if_pos w0]; rfl
      · rw [e, if_neg h1, sp_hasWon E ok (show 1 < 2 by omega)]
        simp only [ob, b01_no]
        rw [if_pos w1]; rfl
end WIN
