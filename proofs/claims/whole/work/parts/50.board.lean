/-! ===== one board: what its men may do, told of natural numbers ===== -/
def hopA (k d : Nat) : Nat := if k = 2 then d + 1 else if k = 3 then (d + 1) / 2 else d
def aimA (pts f k p d : Nat) : Nat := if pipA pts f p ≤ hopA k d then pts + 1 else if f = 0 then pts - (pipA pts f p - hopA k d) else pipA pts f p - hopA k d - 1
/-- whether one goes to a point, as far as his kind minds -/
def dareA (pts n : Nat) (fm kd ps : Nat → Nat) (i to : Nat) : Bool := decide (kd i < 4) || decide (ps i = pts) || decide (2 ≤ cntA n fm ps (fm i) (ps i)) || decide (1 ≤ cntA n fm ps (fm i) to) || (decide (kd i = 5) && decide (cntA n fm ps (1 - fm i) to = 1))
def canA (pts hm n : Nat) (fm kd ps : Nat → Nat) (i d : Nat) : Bool :=
  decide (ps i ≠ pts + 1) && (decide (ps i = pts) || decide (cntA n fm ps (fm i) pts = 0)) &&
    (if aimA pts (fm i) (kd i) (ps i) d = pts + 1 then decide (outS pts hm n fm ps (fm i) = 0) else decide (cntA n fm ps (1 - fm i) (aimA pts (fm i) (kd i) (ps i) d) < 2) && dareA pts n fm kd ps i (aimA pts (fm i) (kd i) (ps i) d))
theorem eqI {a b : Nat} (ha : a < 2 ^ 31) (hb : b < 2 ^ 31) : nI a = nI b ↔ a = b := nI_eq ha hb
theorem leI {a b : Nat} (ha : a < 2 ^ 31) (hb : b < 2 ^ 31) : nI a ≤ nI b ↔ a ≤ b := nI_leI ha hb
theorem ltI {a b : Nat} (ha : a < 2 ^ 31) (hb : b < 2 ^ 31) : nI a < nI b ↔ a < b := nI_ltI ha hb
theorem subI {a b : Nat} (h : b ≤ a) : nI a - nI b = nI (a - b) := pk_sub h
theorem gt0 {a b : Nat} (ha : a < 2 ^ 30) (hb : b < 2 ^ 30) : 0 < nI a - nI b ↔ b < a := by
  rw [Int32.lt_iff_toInt_lt, pk_sub_toInt ha hb]
  show (0 : Int) < _ ↔ _
  omega
theorem pipA_le {pts f p : Nat} (h : p ≤ pts + 1) : pipA pts f p ≤ pts + 1 := by
  unfold pipA
  split
  · omega
  · split
    · omega
    · split <;> omega
theorem cntA_le (n : Nat) (fm ps : Nat → Nat) (f a : Nat) : cntA n fm ps f a ≤ n := fb_ct_le _ _
theorem divI {a : Nat} (ha : a < 2 ^ 31) : nI a / nI 2 = nI (a / 2) := pk_div ha (by omega) (by omega)
theorem hopA_le {k d : Nat} : hopA k d ≤ d + 1 := by
  unfold hopA
  split
  · omega
  · split <;> omega
theorem hopA_pos {k d : Nat} (h : 1 ≤ d) : 1 ≤ hopA k d := by
  unfold hopA
  split
  · omega
  · split <;> omega
theorem aimA_le {pts f k p d : Nat} (h : p ≤ pts + 1) : aimA pts f k p d ≤ pts + 1 := by
  have := pipA_le (f := f) h
  unfold aimA
  split
  · omega
  · split <;> omega
theorem aimA_pt {pts f k p d : Nat} (h : p ≤ pts + 1) (hd : 1 ≤ d) (hn : aimA pts f k p d ≠ pts + 1) : aimA pts f k p d < pts ∧ aimA pts f k p d ≠ p := by
  have h1 := pipA_le (f := f) h
  have h2 := hopA_pos (k := k) hd
  revert hn
  unfold aimA
  split
  · intro hn; exact absurd rfl hn
  · rename_i hlt
    split
    · rename_i hf
      subst hf
      intro _
      unfold pipA at *
      repeat' split at *
      all_goals omega
    · intro _
      unfold pipA at *
      repeat' split at *
      all_goals omega
section CLASSB
variable {pts hm n : Nat} {fm kd ps : Nat → Nat} {L : BD}
theorem sp_pipsOf (E : EC pts hm n fm kd ps L) (ok : OKb pts hm n fm kd ps) {i : Nat} (hi : i < n) : M_X2_pipsOf L (nI i) = some (nI (pipA pts (fm i) (ps i))) := by
  obtain ⟨e1, e2, e3, e4, e5, e6⟩ := E
  obtain ⟨o1, o2, o3, o4, o5, o6⟩ := ok
  obtain ⟨f1, f2, f3⟩ := e4 i hi
  obtain ⟨g1, g2, g3, g4⟩ := o6 i hi
  unfold M_X2_pipsOf
  rw [inb_nI (show i < 8 by omega) (by omega), cl (by omega), e1, f3, f1]
  simp only [if_true, leI (show ps i < 2 ^ 31 by omega) (show pts < 2 ^ 31 by omega), eqI (show ps i < 2 ^ 31 by omega) (show pts < 2 ^ 31 by omega), show ((0 : Int32)) = nI 0 from rfl, eqI (show fm i < 2 ^ 31 by omega) (show 0 < 2 ^ 31 by omega), nI_1]
  unfold pipA
  by_cases h1 : ps i = pts + 1
  · rw [if_neg (by omega), if_pos h1]
  · rw [if_pos (by omega), if_neg h1]
    by_cases h2 : ps i = pts
    · rw [if_pos h2, if_pos h2]
    · rw [if_neg h2, if_neg h2]
      by_cases h3 : fm i = 0
      · rw [if_pos h3, if_pos h3, subI (by omega)]
      · rw [if_neg h3, if_neg h3]
theorem sp_stride (E : EC pts hm n fm kd ps L) (ok : OKb pts hm n fm kd ps) {i d : Nat} (hi : i < n) (hd : d ≤ 6) : M_X2_stride L (nI i) (nI d) = some (nI (hopA (kd i) d)) := by
  obtain ⟨e1, e2, e3, e4, e5, e6⟩ := E
  obtain ⟨o1, o2, o3, o4, o5, o6⟩ := ok
  obtain ⟨f1, f2, f3⟩ := e4 i hi
  obtain ⟨g1, g2, g3, g4⟩ := o6 i hi
  unfold M_X2_stride
  rw [inb_nI (show i < 8 by omega) (by omega), cl (by omega), f2]
  simp only [if_true, show ((2 : Int32)) = nI 2 from rfl, show ((3 : Int32)) = nI 3 from rfl, eqI (show kd i < 2 ^ 31 by omega) (show 2 < 2 ^ 31 by omega), eqI (show kd i < 2 ^ 31 by omega) (show 3 < 2 ^ 31 by omega), nI_1]
  rw [divI (by omega)]
  unfold hopA
  split
  · rfl
  · split <;> rfl
theorem sp_off (E : EC pts hm n fm kd ps L) : M_X2_off L = some (nI (pts + 1)) := by
  unfold M_X2_off
  rw [E.1, nI_1]
theorem sp_bar (E : EC pts hm n fm kd ps L) : M_X2_bar L = some (nI pts) := by
  unfold M_X2_bar
  rw [E.1]
theorem sp_crowd (E : EC pts hm n fm kd ps L) {f a : Nat} (hf : f < 2) (ha : a < 14) : M_X2_crowd L (nI f) (nI a) = some (nI (cntA n fm ps f a)) := by
  unfold M_X2_crowd
  rw [show ((14 : Int32)) = nI 14 from rfl, pk_mul, nI_add, inb_nI (by omega) (by omega), cl (by omega), E.2.2.2.2.1 f a hf ha]
  rfl
theorem sp_aim (E : EC pts hm n fm kd ps L) (ok : OKb pts hm n fm kd ps) {i d : Nat} (hi : i < n) (hd1 : 1 ≤ d) (hd : d ≤ 6) : M_X2_aim L (nI i) (nI d) = some (nI (aimA pts (fm i) (kd i) (ps i) d)) := by
  unfold M_X2_aim
  rw [sp_pipsOf E ok hi, sp_stride E ok hi hd, sp_off E]
  obtain ⟨e1, e2, e3, e4, e5, e6⟩ := E
  obtain ⟨o1, o2, o3, o4, o5, o6⟩ := ok
  obtain ⟨f1, f2, f3⟩ := e4 i hi
  obtain ⟨g1, g2, g3, g4⟩ := o6 i hi
  have h1 := pipA_le (f := fm i) g4
  have h2 := hopA_le (k := kd i) (d := d)
  have h2' := hopA_pos (k := kd i) hd1
  simp only [ob, gt0 (show pipA pts (fm i) (ps i) < 2 ^ 30 by omega) (show hopA (kd i) d < 2 ^ 30 by omega)]
  unfold aimA
  by_cases h3 : pipA pts (fm i) (ps i) ≤ hopA (kd i) d
  · rw [if_neg (by omega), if_pos h3]
  · rw [if_pos (by omega), if_neg h3, inb_nI (show i < 8 by omega) (by omega), cl (by omega), f1, e1, subI (by omega)]
    simp only [if_true, show ((0 : Int32)) = nI 0 from rfl, eqI (show fm i < 2 ^ 31 by omega) (show 0 < 2 ^ 31 by omega)]
    by_cases h4 : fm i = 0
    · rw [if_pos h4, if_pos h4, subI (by omega)]
    · rw [if_neg h4, if_neg h4, show ((1 : Int32)) = nI 1 from rfl, subI (by omega)]
theorem sp_isKind : ∀ k, k < 6 → M_X7_isKind (nI k) 4 = some (b01 (4 ≤ k)) := by
  intro k hk
  match k, hk with
  | 0, _ => rfl
  | 1, _ => rfl
  | 2, _ => rfl
  | 3, _ => rfl
  | 4, _ => rfl
  | 5, _ => rfl
theorem one_sub {f : Nat} (h : f < 2) : (1 : Int32) - nI f = nI (1 - f) := by
  rw [show ((1 : Int32)) = nI 1 from rfl, subI (by omega)]
theorem sp_dares (E : EC pts hm n fm kd ps L) (ok : OKb pts hm n fm kd ps) {i to : Nat} (hi : i < n) (hp : ps i < 14) (hto : to < 14) : M_X2_dares L (nI i) (nI to) = some (b01 (dareA pts n fm kd ps i to = true)) := by
  have E0 := E
  obtain ⟨e1, e2, e3, e4, e5, e6⟩ := E
  obtain ⟨o1, o2, o3, o4, o5, o6⟩ := ok
  obtain ⟨f1, f2, f3⟩ := e4 i hi
  obtain ⟨g1, g2, g3, g4⟩ := o6 i hi
  have c1 := cntA_le n fm ps (fm i) (ps i)
  have c2 := cntA_le n fm ps (fm i) to
  have c3 := cntA_le n fm ps (1 - fm i) to
  unfold M_X2_dares dareA
  rw [inb_nI (show i < 8 by omega) (by omega), cl (by omega), f1, f2, f3, sp_isKind (kd i) (by omega), sp_bar E0]
  simp only [ob]
  rw [sp_crowd E0 g1 hp, sp_crowd E0 g1 hto, one_sub g1, sp_crowd E0 (show 1 - fm i < 2 by omega) hto]
  simp only [if_true, ob, b01_0, eqI (show ps i < 2 ^ 31 by omega) (show pts < 2 ^ 31 by omega), show ((2 : Int32)) = nI 2 from rfl, show ((5 : Int32)) = nI 5 from rfl, leI (show 2 < 2 ^ 31 by omega) (show cntA n fm ps (fm i) (ps i) < 2 ^ 31 by omega), show ((1 : Int32)) = nI 1 from rfl, ltI (show cntA n fm ps (fm i) to < 2 ^ 31 by omega) (show 1 < 2 ^ 31 by omega), eqI (show kd i < 2 ^ 31 by omega) (show 5 < 2 ^ 31 by omega), eqI (show cntA n fm ps (1 - fm i) to < 2 ^ 31 by omega) (show 1 < 2 ^ 31 by omega)]
  unfold b01
  simp only [Bool.or_eq_true, Bool.and_eq_true, decide_eq_true_eq]
  repeat' split
  all_goals first | rfl | (exfalso; omega)
theorem sp_canGo (E : EC pts hm n fm kd ps L) (ok : OKb pts hm n fm kd ps) {i d : Nat} (hi : i < n) (hd1 : 1 ≤ d) (hd : d ≤ 6) : M_X2_canGo L (nI i) (nI d) = some (b01 (canA pts hm n fm kd ps i d = true)) := by
  have E0 := E
  have ok0 := ok
  obtain ⟨e1, e2, e3, e4, e5, e6⟩ := E
  obtain ⟨o1, o2, o3, o4, o5, o6⟩ := ok
  obtain ⟨f1, f2, f3⟩ := e4 i hi
  obtain ⟨g1, g2, g3, g4⟩ := o6 i hi
  obtain ⟨-, h6⟩ := e6 (fm i) g1
  have a1 := aimA_le (f := fm i) (k := kd i) (d := d) g4
  have c1 := cntA_le n fm ps (fm i) pts
  have c2 := cntA_le n fm ps (1 - fm i) (aimA pts (fm i) (kd i) (ps i) d)
  have c3 : outS pts hm n fm ps (fm i) ≤ n := fb_ct_le _ _
  unfold M_X2_canGo canA jn
  rw [inb_nI (show i < 8 by omega) (by omega), cl (by omega), f1, f3, sp_off E0, sp_bar E0, sp_aim E0 ok0 hi hd1 hd]
  simp only [ob]
  rw [sp_crowd E0 g1 (show pts < 14 by omega), one_sub g1, cl (show fm i < 2 ^ 31 by omega), h6]
  simp only [if_true, ob, inb_nI (show fm i < 2 by omega) (show 2 < 2 ^ 31 by omega), eqI (show ps i < 2 ^ 31 by omega) (show pts + 1 < 2 ^ 31 by omega), eqI (show ps i < 2 ^ 31 by omega) (show pts < 2 ^ 31 by omega), eqI (show aimA pts (fm i) (kd i) (ps i) d < 2 ^ 31 by omega) (show pts + 1 < 2 ^ 31 by omega), show ((0 : Int32)) = nI 0 from rfl, leI (show cntA n fm ps (fm i) pts < 2 ^ 31 by omega) (show 0 < 2 ^ 31 by omega), eqI (show outS pts hm n fm ps (fm i) < 2 ^ 31 by omega) (show 0 < 2 ^ 31 by omega)]
  by_cases z1 : ps i = pts + 1
  · rw [if_pos z1, b01_f (by simp [z1])]
    rfl
  · rw [if_neg z1]
    have key : ((if aimA pts (fm i) (kd i) (ps i) d = pts + 1 then if outS pts hm n fm ps (fm i) = 0 then some (1 : Int32) else some (nI 0) else (M_X2_crowd L (nI (1 - fm i)) (nI (aimA pts (fm i) (kd i) (ps i) d))).bind fun u9 => if (2 : Int32) ≤ u9 then some (nI 0) else (M_X2_dares L (nI i) (nI (aimA pts (fm i) (kd i) (ps i) d))).bind fun u11 => if u11 = nI 0 then some (nI 0) else some (1 : Int32)) : Option Int32) = some (b01 ((if aimA pts (fm i) (kd i) (ps i) d = pts + 1 then decide (outS pts hm n fm ps (fm i) = 0) else decide (cntA n fm ps (1 - fm i) (aimA pts (fm i) (kd i) (ps i) d) < 2) && dareA pts n fm kd ps i (aimA pts (fm i) (kd i) (ps i) d)) = true)) := by
      by_cases z2 : aimA pts (fm i) (kd i) (ps i) d = pts + 1
      · simp only [z2, if_true, decide_eq_true_eq]
        by_cases z3 : outS pts hm n fm ps (fm i) = 0
        · rw [if_pos z3, b01_t z3]
        · rw [if_neg z3, b01_f z3]; rfl
      · simp only [z2, if_false]
        rw [sp_crowd E0 (show 1 - fm i < 2 by omega) (show aimA pts (fm i) (kd i) (ps i) d < 14 by omega), sp_dares E0 ok0 hi (by omega) (by omega)]
        simp only [ob, show ((2 : Int32)) = nI 2 from rfl, leI (show 2 < 2 ^ 31 by omega) (show cntA n fm ps (1 - fm i) (aimA pts (fm i) (kd i) (ps i) d) < 2 ^ 31 by omega), Bool.and_eq_true, decide_eq_true_eq]
        by_cases z4 : 2 ≤ cntA n fm ps (1 - fm i) (aimA pts (fm i) (kd i) (ps i) d)
        · rw [if_pos z4, b01_f (by omega)]; rfl
        · rw [if_neg z4]
          by_cases z5 : dareA pts n fm kd ps i (aimA pts (fm i) (kd i) (ps i) d) = true
          · rw [b01_t z5, if_neg (by decide), b01_t ⟨by omega, z5⟩]
          · rw [b01_f z5, if_pos (by decide), b01_f (fun h => z5 h.2)]; rfl
    by_cases z6 : ps i = pts
    · rw [if_pos z6, key]
      have e : decide (ps i ≠ pts + 1) = true := by simp [z1]
      have e' : decide (ps i = pts) = true := by simp [z6]
      simp only [e, e', Bool.true_or, Bool.true_and]
    · rw [if_neg z6]
      by_cases z7 : cntA n fm ps (fm i) pts = 0
      · rw [if_pos (by omega), key]
        have e : decide (ps i ≠ pts + 1) = true := by simp [z1]
        simp only [e, z7, decide_true, Bool.or_true, Bool.true_and]
      · rw [if_neg (by omega), b01_f (by simp [z6, z7])]
        rfl
end CLASSB
