/-! ===== a row taken; the men who can ===== -/
theorem s8_take (S : MS) : M_X8_take S = some (ms_s_now S (asR 0 (ms_now S) (ms_rows S) 12)) := by
  unfold M_X8_take
  refine lp_at (fun k => (nI k, asR 0 (ms_now S) (ms_rows S) k)) 12 _ (congrArg (Prod.mk _) asR_0.symm) ?_ ?_ (by omega)
  · intro k rec hk
    have h1 : ¬ (12 : Int32) ≤ nI k := fun z => absurd ((leI (a := 12) (by omega) (by omega)).1 z) (by omega)
    have hs : upd (asR 0 (ms_now S) (ms_rows S) k) k (ms_rows S k) = asR 0 (ms_now S) (ms_rows S) (k + 1) := by
      have h := asR_s (D := 0) (k := k) (f := ms_now S) (g := ms_rows S) (v := ms_rows S k) rfl
      rwa [show 12 * 0 + k = k by omega] at h
    simp only [h1, if_false]
    rw [inb_nI (show k < 48 by omega) (by omega), inb_nI (show k < 12 by omega) (by omega), cl (show k < 2 ^ 31 by omega), hs, nI_p1]
    rfl
  · intro rec
    rfl
section MEN
variable {pts hm n : Nat} {fm kd ps : Nat → Nat} {L : BD} {S : MS} {D : Nat}
def mskA (pts hm n : Nat) (fm kd ps : Nat → Nat) (f d : Nat) : Nat → Int32
  | 0 => 0
  | k + 1 => if fm k = f ∧ canA pts hm n fm kd ps k d = true then mskA pts hm n fm kd ps f d k ||| ((1 : Int32) <<< (nI k &&& 31)) else mskA pts hm n fm kd ps f d k
theorem sp_menWhoCan (E : EC pts hm n fm kd ps L) (ok : OKb pts hm n fm kd ps) {f d : Nat} (hf : f < 2) (hd1 : 1 ≤ d) (hd : d ≤ 6) : M_X2_menWhoCan L (nI f) (nI d) = some (mskA pts hm n fm kd ps f d n) := by
  have hn : n ≤ 8 := ok.2.2.2.2.1
  unfold M_X2_menWhoCan
  refine (bind_of (b := mskA pts hm n fm kd ps f d n) ?_).trans rfl
  refine lp_at (fun k => (mskA pts hm n fm kd ps f d k, nI k)) n _ rfl ?_ ?_ (by omega)
  · intro k rec hk
    obtain ⟨f1, f2, f3⟩ := E.2.2.2.1 k hk
    have o1 := (ok.2.2.2.2.2 k hk).1
    have h1 : ¬ nI n ≤ nI k := nI_ge hk (by omega)
    have e : mskA pts hm n fm kd ps f d (k + 1) = (if fm k = f ∧ canA pts hm n fm kd ps k d = true then mskA pts hm n fm kd ps f d k ||| ((1 : Int32) <<< (nI k &&& 31)) else mskA pts hm n fm kd ps f d k) := rfl
    simp only [E.2.2.1, h1, if_false]
    rw [inb_nI (show k < 8 by omega) (by omega), cl (show k < 2 ^ 31 by omega), f1, sp_canGo E ok hk hd1 hd]
    simp only [ob, if_true, eqI (show fm k < 2 ^ 31 by omega) (show f < 2 ^ 31 by omega), nI_p1, b01_no]
    by_cases c1 : fm k = f
    · rw [if_pos c1]
      by_cases c2 : canA pts hm n fm kd ps k d = true
      · rw [if_neg (fun z => z c2), e, if_pos ⟨c1, c2⟩]
      · rw [if_pos c2, e, if_neg (fun z => c2 z.2)]
    · rw [if_neg c1, e, if_neg (fun z => c1 z.1)]
  · intro rec
    have h1 : nI n ≤ nI n := nI_le (Nat.le_refl n) (by omega)
    simp only [E.2.2.1, h1, if_true]
end MEN
