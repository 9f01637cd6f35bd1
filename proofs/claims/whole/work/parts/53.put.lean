/-! ===== a man is put elsewhere, on a board of the class ===== -/
def setp (ps : Nat → Nat) (i to : Nat) : Nat → Nat := fun j => if j = i then to else ps j
theorem setp_at {ps : Nat → Nat} {i to : Nat} : setp ps i to i = to := if_pos rfl
theorem setp_ne {ps : Nat → Nat} {i to j : Nat} (h : j ≠ i) : setp ps i to j = ps j := if_neg h
theorem cnt_set {n : Nat} {fm ps : Nat → Nat} {i to f a : Nat} (hi : i < n) : cntA n fm (setp ps i to) f a + (if fm i = f ∧ ps i = a then 1 else 0) = cntA n fm ps f a + (if fm i = f ∧ to = a then 1 else 0) := by
  have h := fb_ct_upd (fun k => fm k == f && ps k == a) (fm i == f && to == a) hi
  have e : (fun k => if k = i then (fm i == f && to == a) else (fm k == f && ps k == a)) = (fun k => fm k == f && setp ps i to k == a) := by
    funext k
    by_cases hk : k = i
    · subst hk; rw [if_pos rfl, setp_at]
    · rw [if_neg hk, setp_ne hk]
  rw [e] at h
  simp only [Bool.and_eq_true, beq_iff_eq] at h
  exact h
theorem pip_set {pts n : Nat} {fm ps : Nat → Nat} {i to f : Nat} (hi : i < n) : pipS pts n fm (setp ps i to) f + (if fm i = f then pipA pts f (ps i) else 0) = pipS pts n fm ps f + (if fm i = f then pipA pts f to else 0) := by
  have h := fb_sm_upd (fun k => if fm k = f then pipA pts f (ps k) else 0) (if fm i = f then pipA pts f to else 0) hi
  have e : (fun k => if k = i then (if fm i = f then pipA pts f to else 0) else (if fm k = f then pipA pts f (ps k) else 0)) = (fun k => if fm k = f then pipA pts f (setp ps i to k) else 0) := by
    funext k
    by_cases hk : k = i
    · subst hk; rw [if_pos rfl, setp_at]
    · rw [if_neg hk, setp_ne hk]
  rw [e] at h
  exact h
theorem out_set {pts hm n : Nat} {fm ps : Nat → Nat} {i to f : Nat} (hi : i < n) : outS pts hm n fm (setp ps i to) f + (if fm i = f ∧ hm < pipA pts f (ps i) then 1 else 0) = outS pts hm n fm ps f + (if fm i = f ∧ hm < pipA pts f to then 1 else 0) := by
  have h := fb_ct_upd (fun k => fm k == f && decide (hm < pipA pts f (ps k))) (fm i == f && decide (hm < pipA pts f to)) hi
  have e : (fun k => if k = i then (fm i == f && decide (hm < pipA pts f to)) else (fm k == f && decide (hm < pipA pts f (ps k)))) = (fun k => fm k == f && decide (hm < pipA pts f (setp ps i to k))) := by
    funext k
    by_cases hk : k = i
    · subst hk; rw [if_pos rfl, setp_at]
    · rw [if_neg hk, setp_ne hk]
  rw [e] at h
  simp only [Bool.and_eq_true, beq_iff_eq, decide_eq_true_eq] at h
  exact h
/-- a board with any sums -/
def ECg (pts hm n : Nat) (fm kd ps : Nat → Nat) (c : Nat → Nat → Nat) (q o : Nat → Nat) (L : BD) : Prop :=
  bd_points L = nI pts ∧ bd_home L = nI hm ∧ bd_men L = nI n ∧ (∀ i, i < n → bd_firms L i = nI (fm i) ∧ bd_kindsTold L i = nI (kd i) ∧ bd_places L i = nI (ps i)) ∧
  (∀ f a, f < 2 → a < 14 → bd_crowds L (f * 14 + a) = nI (c f a)) ∧ ∀ f, f < 2 → bd_pipsLeft L f = nI (q f) ∧ bd_notHome L f = nI (o f)
theorem ECg.ec {pts hm n : Nat} {fm kd ps : Nat → Nat} {L : BD} : EC pts hm n fm kd ps L ↔ ECg pts hm n fm kd ps (cntA n fm ps) (pipS pts n fm ps) (outS pts hm n fm ps) L := Iff.rfl
/-- what no put changes -/
def sameT (L L' : BD) : Prop := bd_turn L' = bd_turn L ∧ bd_thrower L' = bd_thrower L ∧ bd_cube L' = bd_cube L ∧ bd_owner L' = bd_owner L
section PUT
variable {pts hm n : Nat} {fm kd ps : Nat → Nat} {c : Nat → Nat → Nat} {q o : Nat → Nat} {L : BD}
theorem sp_pipsOf' (E : ECg pts hm n fm kd ps c q o L) (ok : OKb pts hm n fm kd ps) {i : Nat} (hi : i < n) : M_X2_pipsOf L (nI i) = some (nI (pipA pts (fm i) (ps i))) := by
  obtain ⟨e1, e2, e3, e4, e5, e6⟩ := E
  obtain ⟨o1, o2, o3, o4, o5, o6⟩ := ok
  obtain ⟨f1, f2, f3⟩ := e4 i hi
  obtain ⟨g1, g2, g3, g4⟩ := o6 i hi
  unfold M_X2_pipsOf
  rw [inb_nI (show i < 8 by omega) (by omega), cl (by omega), e1, f3, f1]
  simp only [if_true, leI (show ps i < 2 ^ 31 by omega) (show pts < 2 ^ 31 by omega), eqI (show ps i < 2 ^ 31 by omega) (show pts < 2 ^ 31 by omega), show ((0 : Int32)) = nI 0 from rfl, eqI (show fm i < 2 ^ 31 by omega) (show 0 < 2 ^ 31 by omega), nI_1]
  unfold pipA
  by_cases h1 : ps i = pts + 1
  · rw [if_neg (by omega), if_pos h1]
  · rw [if_pos (by omega), if_neg h1]
    by_cases h2 : ps i = pts
    · rw [if_pos h2, if_pos h2]
    · rw [if_neg h2, if_neg h2]
      by_cases h3 : fm i = 0
      · rw [if_pos h3, if_pos h3, subI (by omega)]
      · rw [if_neg h3, if_neg h3]
theorem upd_f {g : Nat → Int32} {k j : Nat} {x y : Int32} (h1 : j = k → x = y) (h2 : j ≠ k → g j = y) : upd g k x j = y := by
  by_cases h : j = k
  · rw [h, upd_at]; exact h1 h
  · rw [upd_ne h]; exact h2 h
theorem ix14 {f f' a a' : Nat} (ha : a < 14) (ha' : a' < 14) : f * 14 + a = f' * 14 + a' ↔ f = f' ∧ a = a' := by omega
theorem ltI' {a b : Nat} (ha : a < 2 ^ 31) (hb : b < 2 ^ 31) : nI a ≤ nI b ↔ ¬ b < a := by rw [leI ha hb]; omega
/-- the sums without, or with one more, at a place -/
theorem sp_tally (E : ECg pts hm n fm kd ps c q o L) (ok : OKb pts hm n fm kd ps) {i : Nat} (hi : i < n) (by_ : Int32) (c' : Nat → Nat → Nat) (q' o' : Nat → Nat)
    (hc : ∀ f a, f < 2 → a < 14 → nI (c' f a) = if fm i = f ∧ ps i = a then nI (c f a) + by_ else nI (c f a))
    (hq : ∀ f, f < 2 → nI (q' f) = if fm i = f then nI (q f) + by_ * nI (pipA pts f (ps i)) else nI (q f))
    (ho : ∀ f, f < 2 → nI (o' f) = if fm i = f ∧ hm < pipA pts f (ps i) then nI (o f) + by_ else nI (o f)) :
    ∃ L', M_X2_tally L (nI i) by_ = some L' ∧ ECg pts hm n fm kd ps c' q' o' L' ∧ sameT L L' := by
  have E0 := E
  have ok0 := ok
  obtain ⟨e1, e2, e3, e4, e5, e6⟩ := E
  obtain ⟨o1, o2, o3, o4, o5, o6⟩ := ok
  obtain ⟨f1, f2, f3⟩ := e4 i hi
  obtain ⟨g1, g2, g3, g4⟩ := o6 i hi
  have hp := pipA_le (f := fm i) g4
  unfold M_X2_tally
  rw [inb_nI (show i < 8 by omega) (by omega), cl (by omega), sp_pipsOf' E0 ok0 hi, f1, f3, e2, show ((14 : Int32)) = nI 14 from rfl, pk_mul, nI_add, inb_nI (show fm i * 14 + ps i < 28 by omega) (by omega), cl (show fm i * 14 + ps i < 2 ^ 31 by omega), inb_nI (show fm i < 2 by omega) (by omega), cl (show fm i < 2 ^ 31 by omega)]
  simp only [if_true, ob, ltI' (show pipA pts (fm i) (ps i) < 2 ^ 31 by omega) (show hm < 2 ^ 31 by omega)]
  have hcr : ∀ f a, f < 2 → a < 14 → upd (bd_crowds L) (fm i * 14 + ps i) (bd_crowds L (fm i * 14 + ps i) + by_) (f * 14 + a) = nI (c' f a) := fun f a hf ha => by
    refine upd_f (fun h => ?_) (fun h => ?_)
    · rw [ix14 ha (by omega)] at h
      rw [hc f a hf ha, if_pos ⟨h.1.symm, h.2.symm⟩, e5 (fm i) (ps i) g1 (by omega), h.1, h.2]
    · rw [Ne, ix14 ha (by omega)] at h
      rw [hc f a hf ha, if_neg (fun z => h ⟨z.1.symm, z.2.symm⟩), e5 f a hf ha]
  have hpl : ∀ f, f < 2 → upd (bd_pipsLeft L) (fm i) (bd_pipsLeft L (fm i) + by_ * nI (pipA pts (fm i) (ps i))) f = nI (q' f) := fun f hf => by
    refine upd_f (fun h => ?_) (fun h => ?_)
    · rw [hq f hf, if_pos h.symm, (e6 (fm i) g1).1, h]
    · rw [hq f hf, if_neg (fun z => h z.symm), (e6 f hf).1]
  by_cases hh : hm < pipA pts (fm i) (ps i)
  · rw [if_neg (fun z => z hh)]
    refine ⟨_, rfl, ⟨e1, e2, e3, e4, hcr, fun f hf => ⟨hpl f hf, ?_⟩⟩, ⟨rfl, rfl, rfl, rfl⟩⟩
    show upd (bd_notHome L) (fm i) (bd_notHome L (fm i) + by_) f = nI (o' f)
    refine upd_f (fun h => ?_) (fun h => ?_)
    · rw [ho f hf, if_pos ⟨h.symm, by rw [h]; exact hh⟩, (e6 (fm i) g1).2, h]
    · rw [ho f hf, if_neg (fun z => h z.1.symm), (e6 f hf).2]
  · rw [if_pos hh]
    refine ⟨_, rfl, ⟨e1, e2, e3, e4, hcr, fun f hf => ⟨hpl f hf, ?_⟩⟩, ⟨rfl, rfl, rfl, rfl⟩⟩
    show bd_notHome L f = nI (o' f)
    rw [ho f hf, if_neg (fun z => hh (by rw [z.1]; exact z.2)), (e6 f hf).2]
end PUT
