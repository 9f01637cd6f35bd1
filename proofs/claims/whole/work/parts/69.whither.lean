/-! ===== a place as it is told ===== -/
theorem sp_placeTold {pts hm n : Nat} {fm kd ps : Nat → Nat} {L : BD} (E : EC pts hm n fm kd ps L) (hp : pts ≤ 12) {a : Nat} (ha : a ≤ pts + 1) : M_X2_placeTold L (nI a) = some (nI (if a = pts + 1 then pts else a)) := by
  unfold M_X2_placeTold
  rw [sp_off E, E.1]
  simp only [ob, eqI (show a < 2 ^ 31 by omega) (show pts + 1 < 2 ^ 31 by omega)]
  by_cases c : a = pts + 1
  · rw [if_pos c, if_pos c]
  · rw [if_neg c, if_neg c]
