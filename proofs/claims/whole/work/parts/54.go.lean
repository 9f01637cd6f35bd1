/-! ===== put, and a lone man, on a board of the class ===== -/
theorem setp_set {ps : Nat → Nat} {i a b : Nat} : setp (setp ps i a) i b = setp ps i b := by
  funext j
  by_cases h : j = i
  · subst h; rw [setp_at, setp_at]
  · rw [setp_ne h, setp_ne h, setp_ne h]
theorem OKb.set {pts hm n : Nat} {fm kd ps : Nat → Nat} (ok : OKb pts hm n fm kd ps) {i to : Nat} (ht : to ≤ pts + 1) : OKb pts hm n fm kd (setp ps i to) := by
  obtain ⟨o1, o2, o3, o4, o5, o6⟩ := ok
  refine ⟨o1, o2, o3, o4, o5, fun j hj => ⟨(o6 j hj).1, (o6 j hj).2.1, (o6 j hj).2.2.1, ?_⟩⟩
  by_cases h : j = i
  · subst h; rw [setp_at]; exact ht
  · rw [setp_ne h]; exact (o6 j hj).2.2.2
theorem nI_back (a b : Nat) : nI (a + b) + (-1 : Int32) * nI b = nI a := by
  rw [← nI_add, Int32.neg_mul, Int32.one_mul, Int32.add_assoc, Int32.add_right_neg, Int32.add_zero]
theorem nI_fore (a b : Nat) : nI a + (1 : Int32) * nI b = nI (a + b) := by rw [Int32.one_mul, nI_add]
theorem nI_p1 (a : Nat) : nI a + (1 : Int32) = nI (a + 1) := nI_add a 1
section PUT2
variable {pts hm n : Nat} {fm kd ps : Nat → Nat} {L : BD}
theorem cnt_out {i f a : Nat} (hi : i < n) (ha : a < 14) : cntA n fm (setp ps i 99) f a + (if fm i = f ∧ ps i = a then 1 else 0) = cntA n fm ps f a := by
  have h := cnt_set (fm := fm) (ps := ps) (to := 99) (f := f) (a := a) hi
  rw [h, if_neg (show ¬ (fm i = f ∧ 99 = a) by omega)]; rfl
theorem pipA_off {f : Nat} : pipA pts f (pts + 1) = 0 := by unfold pipA; rw [if_pos rfl]
theorem pip_out {i f : Nat} (hi : i < n) : pipS pts n fm (setp ps i (pts + 1)) f + (if fm i = f then pipA pts f (ps i) else 0) = pipS pts n fm ps f := by
  have h := pip_set (pts := pts) (fm := fm) (ps := ps) (to := pts + 1) (f := f) hi
  rw [h, pipA_off]; split <;> rfl
theorem out_out {i f : Nat} (hi : i < n) : outS pts hm n fm (setp ps i (pts + 1)) f + (if fm i = f ∧ hm < pipA pts f (ps i) then 1 else 0) = outS pts hm n fm ps f := by
  have h := out_set (pts := pts) (hm := hm) (fm := fm) (ps := ps) (to := pts + 1) (f := f) hi
  rw [h, pipA_off, if_neg (show ¬ (fm i = f ∧ hm < 0) by omega)]; rfl
theorem sp_put (E : EC pts hm n fm kd ps L) (ok : OKb pts hm n fm kd ps) {i to : Nat} (hi : i < n) (ht : to ≤ pts + 1) :
    ∃ L', M_X2_put L (nI i) (nI to) = some L' ∧ EC pts hm n fm kd (setp ps i to) L' ∧ sameT L L' := by
  have hn : n ≤ 8 := ok.2.2.2.2.1
  have c0 : ∀ f a, f < 2 → a < 14 → nI (cntA n fm (setp ps i 99) f a) = if fm i = f ∧ ps i = a then nI (cntA n fm ps f a) + (-1) else nI (cntA n fm ps f a) := fun f a hf ha => by
    rw [← cnt_out (fm := fm) (ps := ps) (f := f) hi ha]
    split
    · rw [pk_m1]
    · rfl
  have q0 : ∀ f, f < 2 → nI (pipS pts n fm (setp ps i (pts + 1)) f) = if fm i = f then nI (pipS pts n fm ps f) + (-1) * nI (pipA pts f (ps i)) else nI (pipS pts n fm ps f) := fun f hf => by
    rw [← pip_out (pts := pts) (fm := fm) (ps := ps) (f := f) hi]
    split
    · rw [nI_back]
    · rfl
  have o0 : ∀ f, f < 2 → nI (outS pts hm n fm (setp ps i (pts + 1)) f) = if fm i = f ∧ hm < pipA pts f (ps i) then nI (outS pts hm n fm ps f) + (-1) else nI (outS pts hm n fm ps f) := fun f hf => by
    rw [← out_out (pts := pts) (hm := hm) (fm := fm) (ps := ps) (f := f) hi]
    split
    · rw [pk_m1]
    · rfl
  obtain ⟨u, hu, E1, t1⟩ := sp_tally (ECg.ec.1 E) ok hi (-1) _ _ _ c0 q0 o0
  have E2 : ECg pts hm n fm kd (setp ps i to) (cntA n fm (setp ps i 99)) (pipS pts n fm (setp ps i (pts + 1))) (outS pts hm n fm (setp ps i (pts + 1))) (bd_s_places u (upd (bd_places u) i (nI to))) := by
    obtain ⟨e1, e2, e3, e4, e5, e6⟩ := E1
    refine ⟨e1, e2, e3, fun j hj => ⟨(e4 j hj).1, (e4 j hj).2.1, ?_⟩, e5, e6⟩
    show upd (bd_places u) i (nI to) j = nI (setp ps i to j)
    refine upd_f (fun h => ?_) (fun h => ?_)
    · rw [h, setp_at]
    · rw [setp_ne h]; exact (e4 j hj).2.2
  have c1 : ∀ f a, f < 2 → a < 14 → nI (cntA n fm (setp ps i to) f a) = if fm i = f ∧ setp ps i to i = a then nI (cntA n fm (setp ps i 99) f a) + 1 else nI (cntA n fm (setp ps i 99) f a) := fun f a hf ha => by
    rw [← cnt_out (fm := fm) (ps := setp ps i to) (f := f) hi ha, setp_set]
    split
    · rw [nI_p1]
    · rfl
  have q1 : ∀ f, f < 2 → nI (pipS pts n fm (setp ps i to) f) = if fm i = f then nI (pipS pts n fm (setp ps i (pts + 1)) f) + 1 * nI (pipA pts f (setp ps i to i)) else nI (pipS pts n fm (setp ps i (pts + 1)) f) := fun f hf => by
    rw [← pip_out (pts := pts) (fm := fm) (ps := setp ps i to) (f := f) hi, setp_set]
    split
    · rw [nI_fore]
    · rfl
  have o1 : ∀ f, f < 2 → nI (outS pts hm n fm (setp ps i to) f) = if fm i = f ∧ hm < pipA pts f (setp ps i to i) then nI (outS pts hm n fm (setp ps i (pts + 1)) f) + 1 else nI (outS pts hm n fm (setp ps i (pts + 1)) f) := fun f hf => by
    rw [← out_out (pts := pts) (hm := hm) (fm := fm) (ps := setp ps i to) (f := f) hi, setp_set]
    split
    · rw [nI_p1]
    · rfl
  obtain ⟨u', hu', E3, t3⟩ := sp_tally E2 (ok.set ht) hi 1 _ _ _ c1 q1 o1
  refine ⟨u', ?_, ECg.ec.2 E3, ⟨t3.1.trans t1.1, t3.2.1.trans t1.2.1, t3.2.2.1.trans t1.2.2.1, t3.2.2.2.trans t1.2.2.2⟩⟩
  unfold M_X2_put
  rw [hu]
  show (if inb (nI i) 8 = true then (M_X2_tally (bd_s_places u (upd (bd_places u) (nI i).toNatClampNeg (nI to))) (nI i) 1).bind (fun u3 => some u3) else none) = some u'
  rw [if_pos (inb_nI (show i < 8 by omega) (by omega)), cl (by omega), hu']
  rfl
end PUT2
