/-! ===== whom the rule chooses ===== -/
def rulA (pts hm n : Nat) (fm kd ps : Nat → Nat) (f d : Nat) : Nat → Nat
  | 0 => 1000
  | k + 1 => if fm k = f ∧ canA pts hm n fm kd ps k d = true ∧ (rulA pts hm n fm kd ps f d k = 1000 ∨ pipA pts (fm (rulA pts hm n fm kd ps f d k)) (ps (rulA pts hm n fm kd ps f d k)) < pipA pts (fm k) (ps k)) then k else rulA pts hm n fm kd ps f d k
def rpA (pts : Nat) (fm ps : Nat → Nat) (c : Nat) : Nat := if c = 1000 then 0 else pipA pts (fm c) (ps c)
section RULE
variable {pts hm n : Nat} {fm kd ps : Nat → Nat} {L : BD} {S : MS} {D : Nat}
theorem rulA_is {f d : Nat} : ∀ {k : Nat}, rulA pts hm n fm kd ps f d k = 1000 ∨ (rulA pts hm n fm kd ps f d k < k ∧ fm (rulA pts hm n fm kd ps f d k) = f ∧ canA pts hm n fm kd ps (rulA pts hm n fm kd ps f d k) d = true)
  | 0 => Or.inl rfl
  | k + 1 => by
    have e : rulA pts hm n fm kd ps f d (k + 1) = (if fm k = f ∧ canA pts hm n fm kd ps k d = true ∧ (rulA pts hm n fm kd ps f d k = 1000 ∨ pipA pts (fm (rulA pts hm n fm kd ps f d k)) (ps (rulA pts hm n fm kd ps f d k)) < pipA pts (fm k) (ps k)) then k else rulA pts hm n fm kd ps f d k) := rfl
    rw [e]
    split
    · rename_i h; exact Or.inr ⟨by omega, h.1, h.2.1⟩
    · rcases rulA_is (k := k) (f := f) (d := d) with h | h
      · exact Or.inl h
      · exact Or.inr ⟨by omega, h.2⟩
theorem pipA_pos {f p : Nat} (h : p ≤ pts + 1) (h2 : p ≠ pts + 1) : 1 ≤ pipA pts f p := by
  unfold pipA
  rw [if_neg h2]
  split
  · omega
  · split <;> omega
theorem canA_on {i d : Nat} (h : canA pts hm n fm kd ps i d = true) : ps i ≠ pts + 1 := by
  unfold canA at h
  rw [Bool.and_eq_true, Bool.and_eq_true, decide_eq_true_eq] at h
  exact h.1.1
theorem canA_few {i d : Nat} (h : canA pts hm n fm kd ps i d = true) (h2 : aimA pts (fm i) (kd i) (ps i) d < pts) : cntA n fm ps (1 - fm i) (aimA pts (fm i) (kd i) (ps i) d) < 2 := by
  unfold canA at h
  rw [if_neg (show ¬ aimA pts (fm i) (kd i) (ps i) d = pts + 1 by omega)] at h
  simp only [Bool.and_eq_true, decide_eq_true_eq] at h
  exact h.2.1
theorem rpA_le (ok : OKb pts hm n fm kd ps) {f d k : Nat} (hk : k ≤ n) : rpA pts fm ps (rulA pts hm n fm kd ps f d k) ≤ pts + 1 := by
  unfold rpA
  rcases rulA_is (pts := pts) (hm := hm) (n := n) (fm := fm) (kd := kd) (ps := ps) (k := k) (f := f) (d := d) with h | h
  · rw [if_pos h]; omega
  · split
    · omega
    · exact pipA_le (ok.2.2.2.2.2 _ (by omega)).2.2.2
theorem b01_no {c : Prop} [Decidable c] : b01 c = 0 ↔ ¬ c := by
  by_cases h : c
  · rw [b01_t h]; exact ⟨fun z => absurd z (by decide), fun z => absurd h z⟩
  · rw [b01_f h]; exact ⟨fun _ => h, fun _ => rfl⟩
theorem sp_chosenByRule (E : EC pts hm n fm kd ps L) (ok : OKb pts hm n fm kd ps) {f d : Nat} (hf : f < 2) (hd1 : 1 ≤ d) (hd : d ≤ 6) : M_X2_chosenByRule L (nI f) (nI d) = some (mnb 1000 (rulA pts hm n fm kd ps f d n)) := by
  have hn : n ≤ 8 := ok.2.2.2.2.1
  have hpt : pts ≤ 12 := ok.2.1
  unfold M_X2_chosenByRule
  refine (bind_of (b := mnb 1000 (rulA pts hm n fm kd ps f d n)) ?_).trans rfl
  refine lp_at (fun k => (mnb 1000 (rulA pts hm n fm kd ps f d k), nI (rpA pts fm ps (rulA pts hm n fm kd ps f d k)), nI k)) n _ rfl ?_ ?_ (by omega)
  · intro k rec hk
    obtain ⟨f1, f2, f3⟩ := E.2.2.2.1 k hk
    obtain ⟨o1, o2, o3, o4⟩ := ok.2.2.2.2.2 k hk
    have h1 : ¬ nI n ≤ nI k := nI_ge hk (by omega)
    have hr := rpA_le ok (f := f) (d := d) (show k ≤ n by omega)
    have hp := pipA_le (f := fm k) o4
    have e : rulA pts hm n fm kd ps f d (k + 1) = (if fm k = f ∧ canA pts hm n fm kd ps k d = true ∧ (rulA pts hm n fm kd ps f d k = 1000 ∨ pipA pts (fm (rulA pts hm n fm kd ps f d k)) (ps (rulA pts hm n fm kd ps f d k)) < pipA pts (fm k) (ps k)) then k else rulA pts hm n fm kd ps f d k) := rfl
    simp only [E.2.2.1, h1, if_false]
    rw [inb_nI (show k < 8 by omega) (by omega), cl (show k < 2 ^ 31 by omega), f1, sp_pipsOf E ok hk, sp_canGo E ok hk hd1 hd]
    simp only [ob, if_true, eqI (show fm k < 2 ^ 31 by omega) (show f < 2 ^ 31 by omega), leI (show pipA pts (fm k) (ps k) < 2 ^ 31 by omega) (show rpA pts fm ps (rulA pts hm n fm kd ps f d k) < 2 ^ 31 by omega), nI_p1, b01_no]
    by_cases c1 : fm k = f
    · rw [if_pos c1]
      by_cases c2 : canA pts hm n fm kd ps k d = true
      · by_cases c3 : pipA pts (fm k) (ps k) ≤ rpA pts fm ps (rulA pts hm n fm kd ps f d k)
        · have hh := pipA_pos (f := fm k) o4 (canA_on c2)
          rw [if_pos c3]
          unfold rpA at c3
          by_cases c4 : rulA pts hm n fm kd ps f d k = 1000
          · rw [if_pos c4] at c3; omega
          · rw [if_neg c4] at c3
            rw [e, if_neg (fun z => by rcases z.2.2 with q | q <;> omega)]
        · rw [if_neg c3, if_neg (fun z => z c2)]
          have hq : rulA pts hm n fm kd ps f d k = 1000 ∨ pipA pts (fm (rulA pts hm n fm kd ps f d k)) (ps (rulA pts hm n fm kd ps f d k)) < pipA pts (fm k) (ps k) := by
            unfold rpA at c3
            by_cases c4 : rulA pts hm n fm kd ps f d k = 1000
            · exact Or.inl c4
            · rw [if_neg c4] at c3; exact Or.inr (by omega)
          have hx : rulA pts hm n fm kd ps f d (k + 1) = k := by rw [e, if_pos ⟨c1, c2, hq⟩]
          rw [hx, mnb_t (show k < 1000 by omega)]
          unfold rpA
          rw [if_neg (show ¬ k = 1000 by omega)]
      · have hx : rulA pts hm n fm kd ps f d (k + 1) = rulA pts hm n fm kd ps f d k := by rw [e, if_neg (fun z => c2 z.2.1)]
        rw [hx, if_pos c2, ite_self]
    · have hx : rulA pts hm n fm kd ps f d (k + 1) = rulA pts hm n fm kd ps f d k := by rw [e, if_neg (fun z => c1 z.1)]
      rw [if_neg c1, hx]
  · intro rec
    have h1 : nI n ≤ nI n := nI_le (Nat.le_refl n) (by omega)
    simp only [E.2.2.1, h1, if_true]
theorem s8_ruled (hS : ES pts hm n fm kd S) (hE : ER pts n ps D S) (hD : D < 4) (ok : OKb pts hm n fm kd ps) {f d : Nat} (hf : f < 2) (hd1 : 1 ≤ d) (hd : d ≤ 6) : M_X8_ruled S (nI D) (nI f) (nI d) = some (mnb 1000 (rulA pts hm n fm kd ps f d n)) := by
  have hn : n ≤ 8 := ok.2.2.2.2.1
  have hpt : pts ≤ 12 := ok.2.1
  have hS0 := hS
  obtain ⟨e1, e2, e3, e4⟩ := hS
  unfold M_X8_ruled
  refine (bind_of (b := mnb 1000 (rulA pts hm n fm kd ps f d n)) ?_).trans rfl
  refine lp_at (fun k => (mnb 1000 (rulA pts hm n fm kd ps f d k), nI k)) n _ rfl ?_ ?_ (by omega)
  · intro k rec hk
    obtain ⟨f1, f2⟩ := e4 k hk
    obtain ⟨o1, o2, o3, o4⟩ := ok.2.2.2.2.2 k hk
    have h1 : ¬ nI n ≤ nI k := nI_ge hk (by omega)
    have hp := pipA_le (f := fm k) o4
    have e : rulA pts hm n fm kd ps f d (k + 1) = (if fm k = f ∧ canA pts hm n fm kd ps k d = true ∧ (rulA pts hm n fm kd ps f d k = 1000 ∨ pipA pts (fm (rulA pts hm n fm kd ps f d k)) (ps (rulA pts hm n fm kd ps f d k)) < pipA pts (fm k) (ps k)) then k else rulA pts hm n fm kd ps f d k) := rfl
    simp only [e3, h1, if_false]
    rw [inb_nI (show k < 8 by omega) (by omega), cl (show k < 2 ^ 31 by omega), f1, s8_pipsOf hS0 hE hD ok hk, s8_can hS0 hE hD ok hk hd1 hd]
    unfold jn
    simp only [ob, if_true, eqI (show fm k < 2 ^ 31 by omega) (show f < 2 ^ 31 by omega), nI_p1, b01_no]
    by_cases c1 : fm k = f
    · by_cases c2 : canA pts hm n fm kd ps k d = true
      · rw [if_pos c1, if_neg (fun z => z c2), if_neg (by decide)]
        rcases rulA_is (pts := pts) (hm := hm) (n := n) (fm := fm) (kd := kd) (ps := ps) (k := k) (f := f) (d := d) with c4 | ⟨c4, c5, c6⟩
        · rw [if_pos ((mnb_no (by omega)).2 (by omega)), e, if_pos ⟨c1, c2, Or.inl c4⟩, mnb_t (show k < 1000 by omega)]
        · have hp2 := pipA_le (f := fm (rulA pts hm n fm kd ps f d k)) (ok.2.2.2.2.2 (rulA pts hm n fm kd ps f d k) (by omega)).2.2.2
          rw [if_neg (fun z => absurd ((mnb_no (by omega)).1 z) (by omega)), mnb_t (show rulA pts hm n fm kd ps f d k < 1000 by omega), s8_pipsOf hS0 hE hD ok (show rulA pts hm n fm kd ps f d k < n by omega)]
          simp only [ob, leI (show pipA pts (fm k) (ps k) < 2 ^ 31 by omega) (show pipA pts (fm (rulA pts hm n fm kd ps f d k)) (ps (rulA pts hm n fm kd ps f d k)) < 2 ^ 31 by omega)]
          by_cases c7 : pipA pts (fm k) (ps k) ≤ pipA pts (fm (rulA pts hm n fm kd ps f d k)) (ps (rulA pts hm n fm kd ps f d k))
          · rw [if_pos c7, e, if_neg (fun z => by rcases z.2.2 with q | q <;> omega), mnb_t (show rulA pts hm n fm kd ps f d k < 1000 by omega)]
          · rw [if_neg c7, e, if_pos ⟨c1, c2, Or.inr (by omega)⟩, mnb_t (show k < 1000 by omega)]
      · have hx : rulA pts hm n fm kd ps f d (k + 1) = rulA pts hm n fm kd ps f d k := by rw [e, if_neg (fun z => c2 z.2.1)]
        rw [hx, if_pos c1, if_pos c2]
    · have hx : rulA pts hm n fm kd ps f d (k + 1) = rulA pts hm n fm kd ps f d k := by rw [e, if_neg (fun z => c1 z.1)]
      rw [if_neg c1, hx]
  · intro rec
    have h1 : nI n ≤ nI n := nI_le (Nat.le_refl n) (by omega)
    simp only [e3, h1, if_true]
end RULE
