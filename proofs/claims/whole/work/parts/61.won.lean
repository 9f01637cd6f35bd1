/-! ===== who has men, who has won ===== -/
def cntF (n : Nat) (fm : Nat → Nat) (f : Nat) : Nat := fb_ct (fun k => fm k == f) n
def cntN (n : Nat) (fm ps : Nat → Nat) (f a : Nat) : Nat := fb_ct (fun k => fm k == f && !(ps k == a)) n
theorem cntF_split {fm ps : Nat → Nat} {f a : Nat} : ∀ k, cntF k fm f = cntA k fm ps f a + cntN k fm ps f a
  | 0 => rfl
  | k + 1 => by
    have ih := cntF_split (fm := fm) (ps := ps) (f := f) (a := a) k
    have e1 : cntF (k + 1) fm f = cntF k fm f + (if (fm k == f) = true then 1 else 0) := rfl
    have e2 : cntA (k + 1) fm ps f a = cntA k fm ps f a + (if (fm k == f && ps k == a) = true then 1 else 0) := rfl
    have e3 : cntN (k + 1) fm ps f a = cntN k fm ps f a + (if (fm k == f && !(ps k == a)) = true then 1 else 0) := rfl
    rw [e1, e2, e3, ih]
    cases (fm k == f) <;> cases (ps k == a) <;> simp <;> omega
section WON
variable {pts hm n : Nat} {fm kd ps : Nat → Nat} {L : BD} {S : MS} {D : Nat}
theorem pipA_zero {f p : Nat} (h : p ≤ pts + 1) : pipA pts f p = 0 ↔ p = pts + 1 := by
  constructor
  · intro z
    by_cases c : p = pts + 1
    · exact c
    · have := pipA_pos (f := f) h c
      omega
  · intro z; rw [z]; exact pipA_off
theorem pipS_zero (ok : OKb pts hm n fm kd ps) {f : Nat} : ∀ k, k ≤ n → (pipS pts k fm ps f = 0 ↔ cntN k fm ps f (pts + 1) = 0)
  | 0, _ => ⟨fun _ => rfl, fun _ => rfl⟩
  | k + 1, h => by
    have h1 := pipS_zero ok (f := f) k (by omega)
    have h2 := pipA_zero (f := f) (ok.2.2.2.2.2 k (by omega)).2.2.2
    have e : pipS pts (k + 1) fm ps f = pipS pts k fm ps f + (if fm k = f then pipA pts f (ps k) else 0) := rfl
    have e3 : cntN (k + 1) fm ps f (pts + 1) = cntN k fm ps f (pts + 1) + (if (fm k == f && !(ps k == pts + 1)) = true then 1 else 0) := rfl
    rw [e, e3]
    by_cases c : fm k = f
    · by_cases c2 : ps k = pts + 1
      · rw [if_pos c, h2.2 c2, if_neg (by simp [c2])]; exact h1
      · have h3 : pipA pts f (ps k) ≠ 0 := fun z => c2 (h2.1 z)
        rw [if_pos c, if_pos (by simp [c, c2])]
        omega
    · rw [if_neg c, if_neg (by simp [c])]; exact h1
theorem sp_hasMen (E : EC pts hm n fm kd ps L) (ok : OKb pts hm n fm kd ps) {f : Nat} (hf : f < 2) : M_X2_hasMen L (nI f) = some (b01 (0 < cntF n fm f)) := by
  have hn : n ≤ 8 := ok.2.2.2.2.1
  have hpt : pts ≤ 12 := ok.2.1
  have hs := cntF_split (fm := fm) (ps := ps) (f := f) (a := pts + 1) n
  have hz := pipS_zero ok (f := f) n (Nat.le_refl n)
  have hc := cntA_le n fm ps f (pts + 1)
  have hl := pipS_le ok (f := f) n (Nat.le_refl n)
  have hl2 : n * (pts + 1) ≤ 8 * 13 := Nat.mul_le_mul hn (by omega)
  unfold M_X2_hasMen
  rw [if_pos (inb_nI (show f < 2 by omega) (by omega)), cl (show f < 2 ^ 31 by omega), (E.2.2.2.2.2 f hf).1, sp_off E]
  simp only [ob]
  rw [sp_crowd E hf (show pts + 1 < 14 by omega)]
  simp only [ob, show ((0 : Int32)) = nI 0 from rfl, ltI (show 0 < 2 ^ 31 by omega) (show pipS pts n fm ps f < 2 ^ 31 by omega), leI (show cntA n fm ps f (pts + 1) < 2 ^ 31 by omega) (show 0 < 2 ^ 31 by omega)]
  by_cases c : 0 < pipS pts n fm ps f
  · rw [if_pos c, b01_t (show 0 < cntF n fm f by omega)]
  · rw [if_neg c]
    by_cases c2 : cntA n fm ps f (pts + 1) ≤ 0
    · rw [if_pos c2, b01_f (show ¬ 0 < cntF n fm f by omega)]; rfl
    · rw [if_neg c2, b01_t (show 0 < cntF n fm f by omega)]
theorem s8_hasMen (hS : ES pts hm n fm kd S) (ok : OKb pts hm n fm kd ps) {f : Nat} (hf : f < 2) : M_X8_hasMen S (nI f) = some (b01 (0 < cntF n fm f)) := by
  have hn : n ≤ 8 := ok.2.2.2.2.1
  obtain ⟨e1, e2, e3, e4⟩ := hS
  have hcl : cntF n fm f ≤ n := fb_ct_le _ _
  unfold M_X8_hasMen
  refine (bind_of (b := nI (cntF n fm f)) ?_).trans ?_
  · refine lp_at (fun k => (nI (cntF k fm f), nI k)) n _ rfl ?_ ?_ (by omega)
    · intro k rec hk
      obtain ⟨f1, f2⟩ := e4 k hk
      have o1 := (ok.2.2.2.2.2 k hk).1
      have h1 : ¬ nI n ≤ nI k := nI_ge hk (by omega)
      have e : cntF (k + 1) fm f = cntF k fm f + (if (fm k == f) = true then 1 else 0) := rfl
      simp only [e3, h1, if_false]
      rw [inb_nI (show k < 8 by omega) (by omega), cl (show k < 2 ^ 31 by omega), f1]
      simp only [if_true, eqI (show fm k < 2 ^ 31 by omega) (show f < 2 ^ 31 by omega), nI_p1, Int32.add_zero]
      by_cases c : fm k = f
      · rw [if_pos c, e, if_pos (by simp [c])]
      · rw [if_neg c, e, if_neg (by simp [c])]; rfl
    · intro rec
      have h1 : nI n ≤ nI n := nI_le (Nat.le_refl n) (by omega)
      simp only [e3, h1, if_true]
  · by_cases c : 0 < cntF n fm f
    · rw [if_neg (show ¬ nI (cntF n fm f) ≤ (0 : Int32) from fun z => absurd ((leI (b := 0) (by omega) (by omega)).1 z) (by omega)), b01_t c]
    · rw [if_pos (show nI (cntF n fm f) ≤ (0 : Int32) from (leI (b := 0) (by omega) (by omega)).2 (by omega)), b01_f c]
end WON
