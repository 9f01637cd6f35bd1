/-! ===== a row that tells where all are ===== -/
def allB (p : Nat → Bool) : Nat → Bool
  | 0 => true
  | k + 1 => allB p k && p k
theorem allB_iff {p : Nat → Bool} : ∀ {n : Nat}, allB p n = true ↔ ∀ k, k < n → p k = true
  | 0 => ⟨fun _ k h => absurd h (Nat.not_lt_zero k), fun _ => rfl⟩
  | n + 1 => by
    show (allB p n && p n) = true ↔ _
    rw [Bool.and_eq_true, allB_iff]
    constructor
    · rintro ⟨a, b⟩ k hk
      by_cases e : k = n
      · rw [e]; exact b
      · exact a k (by omega)
    · intro h
      exact ⟨fun k hk => h k (by omega), h n (by omega)⟩
theorem lp_all {F : (Int32 → Option Int32) → Int32 → Option Int32} (p : Nat → Bool) (n : Nat) (hn : n < 1000) (hs : ∀ k rec, k < n → F rec (nI k) = if p k = true then rec (nI (k + 1)) else some 0) (hx : ∀ rec, F rec (nI n) = some 1) : lp F 1000000 (0 : Int32) = some (b01 (allB p n = true)) := by
  by_cases c : allB p n = true
  · rw [b01_t c]
    refine lp_at (fun k => nI k) n _ rfl (fun k rec hk => ?_) hx (by omega)
    rw [hs k rec hk, if_pos (allB_iff.1 c k hk)]
  · rw [b01_f c]
    have hex : ∃ i, i < n ∧ p i = false := by
      rcases Classical.em (∃ i, i < n ∧ p i = false) with e | e
      · exact e
      · exact absurd (allB_iff.2 (fun k hk => by
          cases hp : p k with
          | true => rfl
          | false => exact absurd ⟨k, hk, hp⟩ e)) c
    obtain ⟨j, j1, j2, j3⟩ := fb_first (p := fun i => p i = false) hex
    refine lp_at (fun k => nI k) j _ rfl (fun k rec hk => ?_) (fun rec => ?_) (by omega)
    · rw [hs k rec (by omega), if_pos (by
        cases hp : p k with
        | true => rfl
        | false => exact absurd hp (j3 k hk))]
    · rw [hs j rec j1, if_neg (by rw [j2]; decide)]
/-- whether all are as so many items tell -/
def asP (pts : Nat) (f : Nat → Int32) (q : Nat → Nat) : Nat → Bool := fun k => decide (f k = nI (trc pts (q k)))
section TOLD
variable {pts hm n : Nat} {fm kd ps : Nat → Nat} {L : BD} {S : MS} {D thr trn cub : Nat} {ow : Int32} {rw_ : RW}
theorem sp_isAsTold {S0 : FS} (E : EC pts hm n fm kd ps L) (ok : OKb pts hm n fm kd ps) (told : IA) : M_X3_isAsTold S0 L told = some (b01 (allB (asP pts told ps) n = true)) := by
  have hn : n ≤ 8 := ok.2.2.2.2.1
  have hpt : pts ≤ 12 := ok.2.1
  unfold M_X3_isAsTold
  refine lp_all _ n (by omega) ?_ ?_
  · intro k rec hk
    have h1 : ¬ nI n ≤ nI k := nI_ge hk (by omega)
    have o4 := (ok.2.2.2.2.2 k hk).2.2.2
    simp only [E.2.2.1, h1, if_false]
    unfold jn
    rw [inb_nI (show k < 8 by omega) (by omega), cl (show k < 2 ^ 31 by omega), (E.2.2.2.1 k hk).2.2, sp_off E]
    simp only [ob, if_true, eqI (show ps k < 2 ^ 31 by omega) (show pts + 1 < 2 ^ 31 by omega), nI_p1, asP, decide_eq_true_eq]
    unfold trc
    by_cases c : ps k = pts + 1
    · rw [if_pos c, if_pos c]; rfl
    · rw [if_neg c, if_neg c]
  · intro rec
    have h1 : nI n ≤ nI n := nI_le (Nat.le_refl n) (by omega)
    simp only [E.2.2.1, h1, if_true]
theorem s8_isAs (hm' : ms_men S = nI n) (hE : ER pts n ps D S) (hD : D < 4) (ok : OKb pts hm n fm kd ps) {r j : Nat} (hr : r < 8) (hj : j + n ≤ 40) : M_X8_isAs S (nI D) (nI r) (nI j) = some (b01 (allB (asP pts (fun k => ms_items S (40 * r + j + k)) ps) n = true)) := by
  have hn : n ≤ 8 := ok.2.2.2.2.1
  have hpt : pts ≤ 12 := ok.2.1
  unfold M_X8_isAs
  refine (bind_of (b := b01 (allB (asP pts (fun k => ms_items S (40 * r + j + k)) ps) n = true)) ?_).trans g01
  refine lp_at (fun k => (b01 (allB (asP pts (fun k => ms_items S (40 * r + j + k)) ps) k = true), nI k)) n _ rfl ?_ ?_ (by omega)
  · intro k rec hk
    have h1 : ¬ nI n ≤ nI k := nI_ge hk (by omega)
    have e : (allB (asP pts (fun k => ms_items S (40 * r + j + k)) ps) (k + 1) = true) = ((allB (asP pts (fun k => ms_items S (40 * r + j + k)) ps) k && asP pts (fun k => ms_items S (40 * r + j + k)) ps k) = true) := rfl
    have ei : (40 : Int32) * nI r + nI j + nI k = nI (40 * r + j + k) := by rw [li 40, pk_mul, nI_add, nI_add]
    simp only [hm', h1, if_false, b01_0]
    by_cases c : allB (asP pts (fun k => ms_items S (40 * r + j + k)) ps) k = true
    · rw [if_neg (fun z => z c), ei, inb_nI (show 40 * r + j + k < 320 by omega) (by omega), cl (show 40 * r + j + k < 2 ^ 31 by omega), s8_at hE hD ok hk]
      simp only [ob, if_true, nI_p1]
      by_cases c2 : ms_items S (40 * r + j + k) = nI (trc pts (ps k))
      · rw [if_pos c2, b01_t (by rw [e, c]; simp [asP, c2])]
      · rw [if_neg c2, b01_f (by rw [e, c]; simp [asP, c2])]
    · rw [if_pos c, nI_p1, b01_f (by rw [e]; simp [c])]
  · intro rec
    have h1 : nI n ≤ nI n := nI_le (Nat.le_refl n) (by omega)
    simp only [hm', h1, if_true]
/-- what is found of a row that tells: on both sides alike -/
theorem told_finds (hR : RelRow rw_ S) (hm' : ms_men S = nI n) (hn : n ≤ 8) {r : Nat} (hr : r < 8) (i : Int32) : (M_X5_findingFrom rw_ (nI r) i (nI n) = some 1 ∧ M_X8_lacks S (nI r) i = some 1) ∨ (M_X5_findingFrom rw_ (nI r) i (nI n) = some 2 ∧ M_X8_lacks S (nI r) i = some 2) ∨ (M_X5_findingFrom rw_ (nI r) i (nI n) = some 0 ∧ M_X8_lacks S (nI r) i = some 0 ∧ ∃ j, j + n ≤ 40 ∧ i = nI j) := by
  have hnI : (nI n).toInt = n := nI_toInt (by omega)
  unfold M_X8_lacks
  rw [inb_nI hr (by omega), cl (show r < 2 ^ 31 by omega), hm']
  simp only [if_true]
  rcases hR.2 r hr with ⟨a, b⟩ | ⟨l', n', a, b, c, d, e, f⟩
  · refine Or.inl ⟨sp_findingFrom rw_ hr _ _ a, ?_⟩
    rw [b, if_neg (show ¬ (0 : Int32) ≤ -1 by decide)]
  · rw [sp_findingFrom2 rw_ hr b e _ _ (ne_m1 c (by omega)), sp_isSpan S hr b f, f, if_pos (nI_pos' (by omega)), hnI]
    simp only [ob, b01_0]
    by_cases h : 0 ≤ i.toInt ∧ 0 ≤ (n : Int) ∧ i.toInt + (n : Int) ≤ n'
    · obtain ⟨j, hj, rfl⟩ := nI_of (x := i) (by rw [lt0]; omega)
      rw [nI_toInt hj] at h
      refine Or.inr (Or.inr ⟨?_, ?_, j, by omega, rfl⟩)
      · rw [nI_toInt hj, if_pos h]
      · rw [nI_toInt hj, if_neg (fun z => z h)]
    · refine Or.inr (Or.inl ⟨?_, ?_⟩)
      · rw [if_neg h]
      · rw [if_pos h]
theorem sp_read (hn : n ≤ 8) (told : IA) {r j : Nat} (hr : r < 8) (hj : j + n ≤ 40) : M_X5_read 8 rw_ told (nI r) (nI j) (nI n) = some (va_cpy (rw_items rw_) told (r * 40 + j) 0 n) := by
  have e : nI r * 40 + nI j = nI (r * 40 + j) := by rw [li 40, pk_mul, nI_add]
  unfold M_X5_read
  rw [e, cl (show r * 40 + j < 2 ^ 31 by omega), cl (show n < 2 ^ 31 by omega), if_pos]
  · rfl
  · refine ⟨⟨nI_pos (by omega), by decide, nI_pos (by omega)⟩, by omega, ?_⟩
    show 0 + n ≤ 8
    omega
theorem told_same (hR : RelRow rw_ S) {told : IA} {r j : Nat} (hr : r < 8) (hj : j + n ≤ 40) (q : Nat → Nat) : allB (asP pts (va_cpy (rw_items rw_) told (r * 40 + j) 0 n) q) n = allB (asP pts (fun k => ms_items S (40 * r + j + k)) q) n := by
  have h : ∀ m, m ≤ n → allB (asP pts (va_cpy (rw_items rw_) told (r * 40 + j) 0 n) q) m = allB (asP pts (fun k => ms_items S (40 * r + j + k)) q) m := by
    intro m
    induction m with
    | zero => intro _; rfl
    | succ m ih =>
      intro hmn
      show (allB _ m && asP pts _ q m) = (allB _ m && asP pts _ q m)
      rw [ih (by omega)]
      unfold asP
      rw [pk_cpy_in (by omega) (by omega), Nat.sub_zero, hR.1 _ (by omega), show r * 40 + j + m = 40 * r + j + m by omega]
  exact h n (Nat.le_refl n)
/-- all but status, what another kind would be, and what an act changes, is as it was -/
def Kw (S S' : MS) : Prop := (ms_fault S' = ms_fault S ∧ ms_items S' = ms_items S ∧ ms_lanes S' = ms_lanes S ∧ ms_sizes S' = ms_sizes S ∧ ms_length S' = ms_length S ∧ ms_tape S' = ms_tape S ∧ ms_traced S' = ms_traced S ∧ ms_trace S' = ms_trace S) ∧
  (ms_points S' = ms_points S ∧ ms_home S' = ms_home S ∧ ms_men S' = ms_men S ∧ ms_firms S' = ms_firms S ∧ ms_kinds S' = ms_kinds S ∧ ms_hasTable S' = ms_hasTable S) ∧ ms_imaged S' = ms_imaged S ∧ ms_images S' = ms_images S
theorem Kp.w {A B : MS} (a : Kp A B) : Kw A B := by
  obtain ⟨⟨a1, a2, a3, a4, a5, a6, a7, a8, a9⟩, ⟨c1, c2, c3, c4, c5, c6, c7, c8⟩, d1, d2⟩ := a
  exact ⟨⟨a2, a3, a4, a5, a6, a7, a8, a9⟩, ⟨c1, c2, c3, c4, c5, c6⟩, d1, d2⟩
theorem Kw.trans {A B C : MS} (a : Kw A B) (b : Kw B C) : Kw A C := by
  obtain ⟨⟨a2, a3, a4, a5, a6, a7, a8, a9⟩, ⟨c1, c2, c3, c4, c5, c6⟩, d1, d2⟩ := a
  obtain ⟨⟨b2, b3, b4, b5, b6, b7, b8, b9⟩, ⟨e1, e2, e3, e4, e5, e6⟩, f1, f2⟩ := b
  exact ⟨⟨b2.trans a2, b3.trans a3, b4.trans a4, b5.trans a5, b6.trans a6, b7.trans a7, b8.trans a8, b9.trans a9⟩, ⟨e1.trans c1, e2.trans c2, e3.trans c3, e4.trans c4, e5.trans c5, e6.trans c6⟩, f1.trans d1, f2.trans d2⟩
theorem kw_status (S : MS) (v : Int32) : Kw S (ms_s_status S v) := ⟨⟨rfl, rfl, rfl, rfl, rfl, rfl, rfl, rfl⟩, ⟨rfl, rfl, rfl, rfl, rfl, rfl⟩, rfl, rfl⟩
theorem kn_status (S : MS) (v : Int32) : Kn S (ms_s_status S v) := ⟨rfl, rfl, rfl⟩
theorem kw_oo (S : MS) (v : Int32) : Kw S (ms_s_otherOne S v) := ⟨⟨rfl, rfl, rfl, rfl, rfl, rfl, rfl, rfl⟩, ⟨rfl, rfl, rfl, rfl, rfl, rfl⟩, rfl, rfl⟩
theorem kn_oo (S : MS) (v : Int32) : Kn S (ms_s_otherOne S v) := ⟨rfl, rfl, rfl⟩
theorem kw_ok (S : MS) (v : Int32) : Kw S (ms_s_otherKind S v) := ⟨⟨rfl, rfl, rfl, rfl, rfl, rfl, rfl, rfl⟩, ⟨rfl, rfl, rfl, rfl, rfl, rfl⟩, rfl, rfl⟩
theorem kn_ok (S : MS) (v : Int32) : Kn S (ms_s_otherKind S v) := ⟨rfl, rfl, rfl⟩
theorem RelIm.kw {i0 i1 : BD} {S S' : MS} (h : RelIm i0 i1 S) (q : Kw S S') : RelIm i0 i1 S' := by
  obtain ⟨m0, m1, a, b, c⟩ := h
  have hi : ∀ k I m, RelImg k I S m → RelImg k I S' m := fun k I m hh => by
    unfold RelImg at hh ⊢
    rw [q.2.2.2]
    exact hh
  exact ⟨m0, m1, q.2.2.1.trans a, hi _ _ _ b, hi _ _ _ c⟩
theorem Rel.kw {tf tf' : TF} {tp : TP} {bs : IA} {L i0 i1 : BD} {ac : AC} {as : AS} {S S' : MS} (h : Rel tf rw_ tp bs L i0 i1 ac as S) (k : Kw S S') (q : Kn S S') (ho : ms_otherOne S' = -1000000) (h1 : tf_latestFault tf' = tf_latestFault tf) (h2 : tf_latestFinding tf' = ms_status S') : Rel tf' rw_ tp bs L i0 i1 ac as S' := by
  obtain ⟨hT, hR, hP, hA, hB⟩ := h
  obtain ⟨pts, hm, n, fm, kd, ps, thr, trn, cub, ow, hcase, E, EM, hAct, hoo, hImg⟩ := hB
  have kk := k
  obtain ⟨⟨a2, a3, a4, a5, a6, a7, a8, a9⟩, ⟨c1, c2, c3, c4, c5, c6⟩, d1, d2⟩ := k
  refine ⟨⟨h1.trans (hT.1.trans a2.symm), h2⟩, ?_, ?_, ?_, pts, hm, n, fm, kd, ps, thr, trn, cub, ow, ?_, E, ?_, hAct.kn q.2.1 q.2.2, ho, RelIm.kw hImg kk⟩
  · unfold RelRow at hR ⊢
    rw [a3, a4, a5]
    exact hR
  · unfold RelTape at hP ⊢
    rw [a6, a7]
    exact hP
  · unfold RelAsk at hA ⊢
    rw [a8, a9]
    exact hA
  · rw [q.1, c6, d1]
    exact hcase
  · obtain ⟨e1, e2, e3, e4⟩ := EM
    exact ⟨c1.trans e1, c2.trans e2, c3.trans e3, fun i hi => by rw [c4, c5, q.1]; exact e4 i hi⟩
end TOLD
