/-! ===== the first one that is so; a lone man; a man goes ===== -/
def firA (p : Nat → Bool) : Nat → Nat
  | 0 => 0
  | n + 1 => if firA p n < n then firA p n else if p n = true then n else n + 1
theorem firA_le (p : Nat → Bool) : ∀ n, firA p n ≤ n
  | 0 => Nat.le_refl _
  | n + 1 => by
    show (if firA p n < n then firA p n else if p n = true then n else n + 1) ≤ n + 1
    split
    · omega
    · split <;> omega
theorem firA_yes {p : Nat → Bool} : ∀ {n : Nat}, firA p n < n → p (firA p n) = true
  | 0, h => absurd h (Nat.not_lt_zero _)
  | n + 1, h => by
    have e : firA p (n + 1) = (if firA p n < n then firA p n else if p n = true then n else n + 1) := rfl
    rw [e] at h ⊢
    by_cases h1 : firA p n < n
    · rw [if_pos h1]; exact firA_yes h1
    · rw [if_neg h1] at h ⊢
      by_cases h2 : p n = true
      · rw [if_pos h2]; exact h2
      · rw [if_neg h2] at h; omega
theorem firA_no {p : Nat → Bool} : ∀ {n j : Nat}, j < firA p n → p j = false
  | 0, j, h => absurd h (Nat.not_lt_zero _)
  | n + 1, j, h => by
    have e : firA p (n + 1) = (if firA p n < n then firA p n else if p n = true then n else n + 1) := rfl
    rw [e] at h
    have hl := firA_le p n
    by_cases h1 : firA p n < n
    · rw [if_pos h1] at h; exact firA_no h
    · rw [if_neg h1] at h
      by_cases h2 : p n = true
      · rw [if_pos h2] at h; exact firA_no (show j < firA p n by omega)
      · rw [if_neg h2] at h
        by_cases h3 : j = n
        · rw [h3]; exact Bool.eq_false_iff.2 h2
        · exact firA_no (show j < firA p n by omega)
/-- a man's number, or none's -/
def mnb (n k : Nat) : Int32 := if k < n then nI k else -1000000
theorem mnb_t {n k : Nat} (h : k < n) : mnb n k = nI k := if_pos h
theorem mnb_f {n k : Nat} (h : n ≤ k) : mnb n k = -1000000 := if_neg (by omega)
theorem nI_ne_no {k : Nat} (h : k < 2 ^ 31) : nI k ≠ (-1000000 : Int32) := fun z => by
  have z2 := congrArg Int32.toInt z
  rw [nI_toInt h] at z2
  have : (-1000000 : Int32).toInt = -1000000 := rfl
  omega
theorem mnb_no {n k : Nat} (hn : n < 2 ^ 31) : mnb n k = -1000000 ↔ n ≤ k := by
  by_cases h : k < n
  · rw [mnb_t h]; exact ⟨fun z => absurd z (nI_ne_no (by omega)), fun z => by omega⟩
  · rw [mnb_f (n := n) (k := k) (by omega)]; exact ⟨fun _ => by omega, fun _ => rfl⟩
def atB (fm ps : Nat → Nat) (f a : Nat) : Nat → Bool := fun i => fm i == f && ps i == a
theorem atB_t {fm ps : Nat → Nat} {f a i : Nat} : atB fm ps f a i = true ↔ fm i = f ∧ ps i = a := by
  unfold atB; rw [Bool.and_eq_true, beq_iff_eq, beq_iff_eq]
def loneA (pts n : Nat) (fm ps : Nat → Nat) (f a : Nat) : Nat := if a < pts ∧ cntA n fm ps f a = 1 then firA (atB fm ps f a) n else n
section LONE
variable {pts hm n : Nat} {fm kd ps : Nat → Nat} {L : BD}
theorem sp_loneOn (E : EC pts hm n fm kd ps L) (ok : OKb pts hm n fm kd ps) {f a : Nat} (hf : f < 2) (ha : a ≤ pts + 1) : M_X2_loneOn L (nI f) (nI a) = some (mnb n (loneA pts n fm ps f a)) := by
  have E0 := E
  obtain ⟨e1, e2, e3, e4, e5, e6⟩ := E
  obtain ⟨o1, o2, o3, o4, o5, o6⟩ := ok
  unfold M_X2_loneOn loneA
  rw [e1]
  by_cases h1 : pts ≤ a
  · rw [if_pos ((leI (by omega) (by omega)).2 h1), if_neg (show ¬ (a < pts ∧ cntA n fm ps f a = 1) by omega), mnb_f (Nat.le_refl _)]
  · rw [if_neg (fun z => h1 ((leI (by omega) (by omega)).1 z)), sp_crowd E0 hf (show a < 14 by omega)]
    simp only [ob]
    have hc := cntA_le n fm ps f a
    by_cases h2 : cntA n fm ps f a = 1
    · rw [if_pos (show nI (cntA n fm ps f a) = 1 by rw [h2]; rfl), if_pos (show a < pts ∧ cntA n fm ps f a = 1 from ⟨by omega, h2⟩)]
      have hl := firA_le (atB fm ps f a) n
      refine lp_at (fun k => nI k) (firA (atB fm ps f a) n) _ rfl (fun k rec hk => ?_) (fun rec => ?_) (by omega)
      · have hno := firA_no hk
        obtain ⟨f1, f2, f3⟩ := e4 k (by omega)
        have hfm := (o6 k (by omega)).1
        have hps := (o6 k (by omega)).2.2.2
        rw [e3, if_neg (fun z => absurd ((leI (by omega) (by omega)).1 z) (by omega)), if_pos (inb_nI (show k < 8 by omega) (by omega)), cl (by omega), f1, f3]
        by_cases h3 : fm k = f
        · rw [if_pos (by rw [h3])]
          by_cases h4 : ps k = a
          · exact absurd (atB_t.2 ⟨h3, h4⟩) (by rw [hno]; exact Bool.false_ne_true)
          · rw [if_neg (fun z => h4 ((eqI (by omega) (by omega)).1 z)), nI_p1]
        · rw [if_neg (fun z => h3 ((eqI (by omega) (by omega)).1 z)), nI_p1]
      · by_cases h5 : firA (atB fm ps f a) n < n
        · have hy := atB_t.1 (firA_yes h5)
          obtain ⟨f1, f2, f3⟩ := e4 _ h5
          rw [e3, if_neg (fun z => absurd ((leI (by omega) (by omega)).1 z) (by omega)), if_pos (inb_nI (show firA (atB fm ps f a) n < 8 by omega) (by omega)), cl (by omega), f1, f3, if_pos (by rw [hy.1]), if_pos (by rw [hy.2]), mnb_t h5]
        · rw [e3, if_pos ((leI (by omega) (by omega)).2 (by omega)), mnb_f (by omega)]
    · rw [if_neg (show ¬ nI (cntA n fm ps f a) = (1 : Int32) from fun z => h2 ((eqI (b := 1) (by omega) (by omega)).1 z)), if_neg (fun z => h2 z.2), mnb_f (Nat.le_refl _)]
/-- where they stand once one has gone -/
def goA (pts n : Nat) (fm ps : Nat → Nat) (i to : Nat) : Nat → Nat := fun j => if j = i then to else if j < n ∧ fm j ≠ fm i ∧ ps j = to ∧ to < pts then pts else ps j
theorem lone_one {n : Nat} {fm ps : Nat → Nat} {f a j : Nat} (h : cntA n fm ps f a = 1) (hj : j < n) (hp : fm j = f ∧ ps j = a) : firA (atB fm ps f a) n = j := by
  have hl := firA_le (atB fm ps f a) n
  have hh : fb_ct (atB fm ps f a) n = 1 := h
  have key : ∀ k, k < n → atB fm ps f a k = true → fb_ct (atB fm ps f a) k = 0 := fun k hk hp => by
    have h1 := fb_ct_mono (atB fm ps f a) (show k + 1 ≤ n by omega)
    rw [fb_ct_succ, if_pos hp] at h1
    omega
  have hne : firA (atB fm ps f a) n < n := by
    rcases Nat.lt_or_ge (firA (atB fm ps f a) n) n with q | q
    · exact q
    · have := firA_no (p := atB fm ps f a) (show j < firA (atB fm ps f a) n by omega)
      rw [atB_t.2 hp] at this
      exact absurd this.symm Bool.false_ne_true
  have hy := firA_yes hne
  exact fb_ct_kth_one hy (atB_t.2 hp) ((key _ hne hy).trans (key _ hj (atB_t.2 hp)).symm)
/-- the class's way and the reference's come to one -/
theorem go_eq {i to : Nat} (ok : OKb pts hm n fm kd ps) (hi : i < n) (hc : to < pts → cntA n fm ps (1 - fm i) to < 2) :
    (if loneA pts n fm ps (1 - fm i) to < n then setp (setp ps i to) (loneA pts n fm ps (1 - fm i) to) pts else setp ps i to) = goA pts n fm ps i to := by
  have hfi := (ok.2.2.2.2.2 i hi).1
  funext j
  unfold goA
  by_cases hl : loneA pts n fm ps (1 - fm i) to < n
  · rw [if_pos hl]
    have hcond : to < pts ∧ cntA n fm ps (1 - fm i) to = 1 := by
      rcases Decidable.em (to < pts ∧ cntA n fm ps (1 - fm i) to = 1) with q | q
      · exact q
      · unfold loneA at hl; rw [if_neg q] at hl; omega
    have he : loneA pts n fm ps (1 - fm i) to = firA (atB fm ps (1 - fm i) to) n := if_pos hcond
    have hy := atB_t.1 (firA_yes (p := atB fm ps (1 - fm i) to) (by rw [← he]; exact hl))
    rw [← he] at hy
    by_cases h1 : j = i
    · rw [if_pos h1, h1, setp_ne (fun z => by rw [← z] at hy; omega), setp_at]
    · rw [if_neg h1]
      by_cases h2 : j = loneA pts n fm ps (1 - fm i) to
      · rw [if_pos ⟨by omega, by rw [h2, hy.1]; omega, by rw [h2]; exact hy.2, hcond.1⟩, h2, setp_at]
      · rw [setp_ne h2, setp_ne h1, if_neg (fun z => h2 ?_)]
        have hfj := (ok.2.2.2.2.2 j z.1).1
        rw [he]
        exact (lone_one hcond.2 z.1 ⟨by omega, z.2.2.1⟩).symm
  · rw [if_neg hl]
    by_cases h1 : j = i
    · rw [if_pos h1, h1, setp_at]
    · rw [if_neg h1, setp_ne h1, if_neg (fun z => hl ?_)]
      have hfj := (ok.2.2.2.2.2 j z.1).1
      have hp : 0 < fb_ct (atB fm ps (1 - fm i) to) n := fb_ct_pos.2 ⟨j, z.1, atB_t.2 ⟨by omega, z.2.2.1⟩⟩
      have hcc := hc z.2.2.2
      have hone : cntA n fm ps (1 - fm i) to = 1 := by
        have : cntA n fm ps (1 - fm i) to = fb_ct (atB fm ps (1 - fm i) to) n := rfl
        omega
      unfold loneA
      rw [if_pos ⟨z.2.2.2, hone⟩, lone_one hone z.1 ⟨by omega, z.2.2.1⟩]
      exact z.1
end LONE
