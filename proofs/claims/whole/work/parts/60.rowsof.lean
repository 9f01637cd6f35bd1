/-! ===== the reference's rows: put aside, deeper, taken; the pips of all; has men ===== -/
def asR (D : Nat) (f g : Nat → Int32) (k : Nat) : Nat → Int32 := fun x => if 12 * D ≤ x ∧ x < 12 * D + k then g (x - 12 * D) else f x
theorem asR_0 {D : Nat} {f g : Nat → Int32} : asR D f g 0 = f := by
  funext x
  exact if_neg (by omega)
theorem asR_s {D k : Nat} {f g : Nat → Int32} {v : Int32} (h : v = g k) : upd (asR D f g k) (12 * D + k) v = asR D f g (k + 1) := by
  funext x
  refine upd_f (fun e => ?_) (fun e => ?_)
  · unfold asR
    rw [if_pos ⟨by omega, by omega⟩, e, Nat.add_sub_cancel_left]; exact h
  · unfold asR
    by_cases c : 12 * D ≤ x ∧ x < 12 * D + k
    · rw [if_pos c, if_pos ⟨c.1, by omega⟩]
    · rw [if_neg c, if_neg (by omega)]
theorem asR_in {D k j : Nat} {f g : Nat → Int32} (h : j < k) : asR D f g k (12 * D + j) = g j := by
  unfold asR
  rw [if_pos ⟨by omega, by omega⟩, Nat.add_sub_cancel_left]
theorem asR_out {D k x : Nat} {f g : Nat → Int32} (h : x < 12 * D ∨ 12 * D + k ≤ x) : asR D f g k x = f x := if_neg (by omega)
theorem s8_aside (S : MS) {D : Nat} (hD : D < 4) : M_X8_aside S (nI D) = some (ms_s_rows S (asR D (ms_rows S) (ms_now S) 12)) := by
  unfold M_X8_aside
  refine lp_at (fun k => (nI k, asR D (ms_rows S) (ms_now S) k)) 12 _ (congrArg (Prod.mk _) asR_0.symm) ?_ ?_ (by omega)
  · intro k rec hk
    have h1 : ¬ (12 : Int32) ≤ nI k := fun z => absurd ((leI (a := 12) (by omega) (by omega)).1 z) (by omega)
    simp only [h1, if_false]
    rw [ix8, inb_nI (show k < 12 by omega) (by omega), inb_nI (show 12 * D + k < 48 by omega) (by omega), cl (show k < 2 ^ 31 by omega), cl (show 12 * D + k < 2 ^ 31 by omega), asR_s rfl, nI_p1]
    rfl
  · intro rec
    rfl
theorem s8_deeper (S : MS) {D : Nat} (hD : D < 3) : M_X8_deeper S (nI D) = some (ms_s_rows S (asR (D + 1) (ms_rows S) (fun x => ms_rows S (12 * D + x)) 12)) := by
  unfold M_X8_deeper
  refine lp_at (fun k => (nI k, asR (D + 1) (ms_rows S) (fun x => ms_rows S (12 * D + x)) k)) 12 _ (congrArg (Prod.mk _) asR_0.symm) ?_ ?_ (by omega)
  · intro k rec hk
    have h1 : ¬ (12 : Int32) ≤ nI k := fun z => absurd ((leI (a := 12) (by omega) (by omega)).1 z) (by omega)
    simp only [h1, if_false, nI_p1]
    rw [ix8, ix8, inb_nI (show 12 * D + k < 48 by omega) (by omega), inb_nI (show 12 * (D + 1) + k < 48 by omega) (by omega), cl (show 12 * D + k < 2 ^ 31 by omega), cl (show 12 * (D + 1) + k < 2 ^ 31 by omega), asR_out (show 12 * D + k < 12 * (D + 1) ∨ 12 * (D + 1) + k ≤ 12 * D + k by omega), asR_s (k := k) (g := fun x => ms_rows S (12 * D + x)) (v := ms_rows S (12 * D + k)) rfl]
    rfl
  · intro rec
    rfl
section PIPS
variable {pts hm n : Nat} {fm kd ps : Nat → Nat} {L : BD} {S : MS} {D : Nat}
theorem pipS_le (ok : OKb pts hm n fm kd ps) {f : Nat} : ∀ k, k ≤ n → pipS pts k fm ps f ≤ k * (pts + 1)
  | 0, _ => Nat.zero_le _
  | k + 1, h => by
    have h1 := pipS_le ok (f := f) k (by omega)
    have h2 := pipA_le (f := f) (ok.2.2.2.2.2 k (by omega)).2.2.2
    have e : pipS pts (k + 1) fm ps f = pipS pts k fm ps f + (if fm k = f then pipA pts f (ps k) else 0) := rfl
    rw [e, Nat.succ_mul]
    split <;> omega
theorem s8_pipsOfAll (hS : ES pts hm n fm kd S) (hE : ER pts n ps D S) (hD : D < 4) (ok : OKb pts hm n fm kd ps) {f : Nat} (hf : f < 2) : M_X8_pipsOfAll S (nI D) (nI f) = some (nI (pipS pts n fm ps f)) := by
  have hn : n ≤ 8 := ok.2.2.2.2.1
  have hS0 := hS
  obtain ⟨e1, e2, e3, e4⟩ := hS
  unfold M_X8_pipsOfAll
  refine (bind_of (b := nI (pipS pts n fm ps f)) ?_).trans rfl
  refine lp_at (fun k => (nI (pipS pts k fm ps f), nI k)) n _ rfl ?_ ?_ (by omega)
  · intro k rec hk
    obtain ⟨f1, f2⟩ := e4 k hk
    obtain ⟨o1, o2, o3, o4⟩ := ok.2.2.2.2.2 k hk
    have h1 : ¬ nI n ≤ nI k := nI_ge hk (by omega)
    have e : pipS pts (k + 1) fm ps f = pipS pts k fm ps f + (if fm k = f then pipA pts f (ps k) else 0) := rfl
    simp only [e3, h1, if_false]
    rw [inb_nI (show k < 8 by omega) (by omega), cl (show k < 2 ^ 31 by omega), f1, s8_pipsOf hS0 hE hD ok hk]
    simp only [ob, if_true, eqI (show fm k < 2 ^ 31 by omega) (show f < 2 ^ 31 by omega), nI_p1, Int32.add_zero, nI_add]
    by_cases c : fm k = f
    · rw [if_pos c, e, if_pos c, c]
    · rw [if_neg c, e, if_neg c]; rfl
  · intro rec
    have h1 : nI n ≤ nI n := nI_le (Nat.le_refl n) (by omega)
    simp only [e3, h1, if_true]
theorem s8_lead (hS : ES pts hm n fm kd S) (hE : ER pts n ps D S) (hD : D < 4) (ok : OKb pts hm n fm kd ps) {f : Nat} (hf : f < 2) : M_X8_lead S (nI D) (nI f) = some (nI (pipS pts n fm ps (1 - f)) - nI (pipS pts n fm ps f)) := by
  unfold M_X8_lead
  rw [show ((1 : Int32)) = nI 1 from rfl, subI (show f ≤ 1 by omega), s8_pipsOfAll hS hE hD ok (show 1 - f < 2 by omega), s8_pipsOfAll hS hE hD ok hf]
  rfl
theorem sp_lead (E : EC pts hm n fm kd ps L) {f : Nat} (hf : f < 2) : M_X2_lead L (nI f) = some (nI (pipS pts n fm ps (1 - f)) - nI (pipS pts n fm ps f)) := by
  unfold M_X2_lead
  rw [show ((1 : Int32)) = nI 1 from rfl, subI (show f ≤ 1 by omega), if_pos (inb_nI (show 1 - f < 2 by omega) (by omega)), if_pos (inb_nI (show f < 2 by omega) (by omega)), cl (show 1 - f < 2 ^ 31 by omega), cl (show f < 2 ^ 31 by omega), (E.2.2.2.2.2 (1 - f) (by omega)).1, (E.2.2.2.2.2 f hf).1]
end PIPS
