/-! ===== the same of the reference: what stands still (ES), a row aside (ER) ===== -/
def ES (pts hm n : Nat) (fm kd : Nat → Nat) (S : MS) : Prop := ms_points S = nI pts ∧ ms_home S = nI hm ∧ ms_men S = nI n ∧ ∀ i, i < n → ms_firms S i = nI (fm i) ∧ (if nI i = ms_otherOne S then ms_otherKind S else ms_kinds S i) = nI (kd i)
def ER (pts n : Nat) (ps : Nat → Nat) (D : Nat) (S : MS) : Prop := ∀ i, i < n → ms_rows S (12 * D + i) = nI (trc pts (ps i))
/-- how many of a firm are at a place, one aside -/
def cntX (n : Nat) (fm ps : Nat → Nat) (f a m : Nat) : Nat := fb_ct (fun i => if i = m then false else fm i == f && ps i == a) n
theorem cntX_eq {n : Nat} {fm ps : Nat → Nat} {f a m : Nat} (hm : m < n) : cntX n fm ps f a m + (if fm m = f ∧ ps m = a then 1 else 0) = cntA n fm ps f a := by
  have h := fb_ct_upd (fun i => fm i == f && ps i == a) false hm
  unfold cntX cntA
  simp only [Bool.and_eq_true, beq_iff_eq, if_neg Bool.false_ne_true, Nat.add_zero] at h
  exact h
theorem cntX_no {n : Nat} {fm ps : Nat → Nat} {f a : Nat} : cntX n fm ps f a n = cntA n fm ps f a := by
  unfold cntX cntA
  refine fb_ct_cong (fun k hk => ?_)
  rw [if_neg (by omega)]
theorem trc_le {pts p : Nat} (h : p ≤ pts + 1) (hp : pts ≤ 12) : trc pts p ≤ 99 := by
  unfold trc
  split <;> omega
theorem trc_inj {pts p q : Nat} (h : p ≤ pts + 1) (h2 : q ≤ pts + 1) (hp : pts ≤ 12) : trc pts p = trc pts q ↔ p = q := by
  unfold trc
  split <;> split <;> omega
theorem trc_99 {pts p : Nat} (h : p ≤ pts + 1) (hp : pts ≤ 12) : trc pts p = 99 ↔ p = pts + 1 := by
  unfold trc
  split <;> omega
theorem trc_pt {pts p : Nat} (h : p < pts + 1) : trc pts p = p := by
  unfold trc
  rw [if_neg (by omega)]
section MODELB
variable {pts hm n : Nat} {fm kd ps : Nat → Nat} {S : MS} {D : Nat}
theorem ix8 {D i : Nat} : (12 : Int32) * nI D + nI i = nI (12 * D + i) := by rw [show ((12 : Int32)) = nI 12 from rfl, pk_mul, nI_add]
theorem s8_at (hE : ER pts n ps D S) (hD : D < 4) (ok : OKb pts hm n fm kd ps) {i : Nat} (hi : i < n) : M_X8_at S (nI D) (nI i) = some (nI (trc pts (ps i))) := by
  obtain ⟨o1, o2, o3, o4, o5, o6⟩ := ok
  unfold M_X8_at
  rw [ix8, inb_nI (by omega) (by omega), cl (by omega), hE i hi]
  rfl
theorem s8_pipsOf (hS : ES pts hm n fm kd S) (hE : ER pts n ps D S) (hD : D < 4) (ok : OKb pts hm n fm kd ps) {i : Nat} (hi : i < n) : M_X8_pipsOf S (nI D) (nI i) = some (nI (pipA pts (fm i) (ps i))) := by
  have ok0 := ok
  obtain ⟨o1, o2, o3, o4, o5, o6⟩ := ok
  obtain ⟨e1, e2, e3, e4⟩ := hS
  obtain ⟨f1, f2⟩ := e4 i hi
  obtain ⟨g1, g2, g3, g4⟩ := o6 i hi
  have t1 := trc_le g4 o2
  unfold M_X8_pipsOf M_X8_pipsAt
  rw [inb_nI (show i < 8 by omega) (by omega), cl (by omega), s8_at hE hD ok0 hi, f1, e1]
  simp only [if_true, ob, show ((99 : Int32)) = nI 99 from rfl, eqI (show trc pts (ps i) < 2 ^ 31 by omega) (show 99 < 2 ^ 31 by omega), eqI (show trc pts (ps i) < 2 ^ 31 by omega) (show pts < 2 ^ 31 by omega), show ((0 : Int32)) = nI 0 from rfl, eqI (show fm i < 2 ^ 31 by omega) (show 0 < 2 ^ 31 by omega), nI_1, trc_99 g4 o2]
  unfold pipA
  by_cases h1 : ps i = pts + 1
  · rw [if_pos h1, if_pos h1]; rfl
  · rw [if_neg h1, if_neg h1, trc_pt (by omega)]
    by_cases h2 : ps i = pts
    · rw [if_pos h2, if_pos h2]; rfl
    · rw [if_neg h2, if_neg h2]
      by_cases h3 : fm i = 0
      · rw [if_pos h3, if_pos h3, subI (by omega)]; rfl
      · rw [if_neg h3, if_neg h3]; rfl
theorem s8_kindNow (hS : ES pts hm n fm kd S) (hn : n ≤ 8) {i : Nat} (hi : i < n) : M_X8_kindNow S (nI i) = some (nI (kd i)) := by
  obtain ⟨f1, f2⟩ := hS.2.2.2 i hi
  unfold M_X8_kindNow
  rw [inb_nI (show i < 8 by omega) (by omega), cl (by omega), ← f2]
  by_cases h : nI i = ms_otherOne S
  · rw [if_pos h, if_pos h]
  · rw [if_neg h, if_neg h]; rfl
theorem s8_hop (hS : ES pts hm n fm kd S) (ok : OKb pts hm n fm kd ps) {i d : Nat} (hi : i < n) (hd : d ≤ 6) : M_X8_hop S (nI i) (nI d) = some (nI (hopA (kd i) d)) := by
  obtain ⟨o1, o2, o3, o4, o5, o6⟩ := ok
  obtain ⟨g1, g2, g3, g4⟩ := o6 i hi
  unfold M_X8_hop
  rw [s8_kindNow hS o5 hi]
  simp only [ob, show ((2 : Int32)) = nI 2 from rfl, show ((3 : Int32)) = nI 3 from rfl, eqI (show kd i < 2 ^ 31 by omega) (show 2 < 2 ^ 31 by omega), eqI (show kd i < 2 ^ 31 by omega) (show 3 < 2 ^ 31 by omega), nI_1]
  rw [divI (by omega)]
  unfold hopA
  split
  · rfl
  · split <;> rfl
theorem s8_target (hS : ES pts hm n fm kd S) (hE : ER pts n ps D S) (hD : D < 4) (ok : OKb pts hm n fm kd ps) {i d : Nat} (hi : i < n) (hd1 : 1 ≤ d) (hd : d ≤ 6) : M_X8_target S (nI D) (nI i) (nI d) = some (nI (trc pts (aimA pts (fm i) (kd i) (ps i) d))) := by
  unfold M_X8_target
  rw [s8_pipsOf hS hE hD ok hi, s8_hop hS ok hi hd]
  obtain ⟨o1, o2, o3, o4, o5, o6⟩ := ok
  obtain ⟨e1, e2, e3, e4⟩ := hS
  obtain ⟨f1, f2⟩ := e4 i hi
  obtain ⟨g1, g2, g3, g4⟩ := o6 i hi
  have h1 := pipA_le (f := fm i) g4
  have h2 := hopA_le (k := kd i) (d := d)
  have h2' := hopA_pos (k := kd i) hd1
  simp only [ob, gt0 (show pipA pts (fm i) (ps i) < 2 ^ 30 by omega) (show hopA (kd i) d < 2 ^ 30 by omega)]
  unfold aimA
  by_cases h3 : pipA pts (fm i) (ps i) ≤ hopA (kd i) d
  · rw [if_neg (by omega), if_pos h3]
    unfold trc
    rw [if_pos rfl]
    rfl
  · rw [if_pos (by omega), if_neg h3, inb_nI (show i < 8 by omega) (by omega), cl (by omega), f1, e1, subI (by omega)]
    simp only [if_true, show ((0 : Int32)) = nI 0 from rfl, eqI (show fm i < 2 ^ 31 by omega) (show 0 < 2 ^ 31 by omega)]
    by_cases h4 : fm i = 0
    · rw [if_pos h4, if_pos h4, subI (by omega), trc_pt (by omega)]
    · rw [if_neg h4, if_neg h4, show ((1 : Int32)) = nI 1 from rfl, subI (by omega), trc_pt (by omega)]
theorem s8_manyAt (hS : ES pts hm n fm kd S) (hE : ER pts n ps D S) (hD : D < 4) (ok : OKb pts hm n fm kd ps) {f a : Nat} (hf : f < 2) (ha : a ≤ pts + 1) {x : Int32} {m : Nat} (hx : ∀ i, i < n → (nI i = x ↔ i = m)) : M_X8_manyAt S (nI D) (nI f) (nI (trc pts a)) x = some (nI (cntX n fm ps f a m)) := by
  have ok0 := ok
  obtain ⟨o1, o2, o3, o4, o5, o6⟩ := ok
  obtain ⟨e1, e2, e3, e4⟩ := hS
  unfold M_X8_manyAt
  rw [show ((some (nI (cntX n fm ps f a m)) : Option Int32)) = (some (nI (cntX n fm ps f a m))).bind (fun b1 => some b1) from rfl]
  refine congrArg (fun z => Option.bind z (fun b1 => some b1)) ?_
  refine lp_at (fun k => (nI (cntX k fm ps f a m), nI k)) n _ rfl ?_ ?_ (by omega)
  · intro k rec hk
    obtain ⟨f1, f2⟩ := e4 k hk
    obtain ⟨g1, g2, g3, g4⟩ := o6 k hk
    have t1 := trc_le g4 o2
    have t2 := trc_le ha o2
    have hstep : cntX (k + 1) fm ps f a m = cntX k fm ps f a m + (if (if k = m then false else fm k == f && ps k == a) then 1 else 0) := rfl
    have h1 : ¬ nI n ≤ nI k := nI_ge hk (by omega)
    simp only [e3, h1, if_false, hx k hk]
    rw [inb_nI (show k < 8 by omega) (by omega), cl (by omega), f1, s8_at hE hD ok0 hk]
    simp only [ob, if_true, eqI (show fm k < 2 ^ 31 by omega) (show f < 2 ^ 31 by omega), eqI (show trc pts (ps k) < 2 ^ 31 by omega) (show trc pts a < 2 ^ 31 by omega), trc_inj g4 ha o2, hstep, nI_1, Int32.add_zero]
    by_cases c1 : k = m
    · rw [if_pos c1]
      simp [c1]
    · rw [if_neg c1]
      by_cases c2 : fm k = f
      · rw [if_pos c2]
        by_cases c3 : ps k = a
        · rw [if_pos c3]
          simp [c1, c2, c3]
        · rw [if_neg c3]
          simp [c1, c2, c3]
      · rw [if_neg c2]
        simp [c1, c2]
  · intro rec
    have h1 : nI n ≤ nI n := nI_le (Nat.le_refl n) (by omega)
    simp only [e3, h1, if_true]
end MODELB
