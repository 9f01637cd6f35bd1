/-! ===== a man goes: the reference's way, on a row of its own ===== -/
theorem bind_of {α β : Type} {x : Option α} {b : α} {K : α → Option β} (h : x = some b) : x.bind K = K b := by rw [h]; rfl
def hitR (D pts to i : Nat) (fm ps : Nat → Nat) (f : Nat → Int32) (k : Nat) : Nat → Int32 := fun x => if 12 * D ≤ x ∧ x < 12 * D + k ∧ fm (x - 12 * D) ≠ fm i ∧ ps (x - 12 * D) = to ∧ to < pts then nI pts else f x
theorem hitR_out {D pts to i k j : Nat} {fm ps : Nat → Nat} {f : Nat → Int32} (h : k ≤ j) : hitR D pts to i fm ps f k (12 * D + j) = f (12 * D + j) := if_neg (by omega)
theorem hitR_yes {D pts to i k : Nat} {fm ps : Nat → Nat} {f : Nat → Int32} (h1 : fm k ≠ fm i) (h2 : ps k = to) (h3 : to < pts) : upd (hitR D pts to i fm ps f k) (12 * D + k) (nI pts) = hitR D pts to i fm ps f (k + 1) := by
  funext x
  refine upd_f (fun h => ?_) (fun h => ?_)
  · unfold hitR
    rw [if_pos (by rw [h, Nat.add_sub_cancel_left]; exact ⟨by omega, by omega, h1, h2, h3⟩)]
  · unfold hitR
    by_cases c : 12 * D ≤ x ∧ x < 12 * D + k ∧ fm (x - 12 * D) ≠ fm i ∧ ps (x - 12 * D) = to ∧ to < pts
    · rw [if_pos c, if_pos ⟨c.1, by omega, c.2.2⟩]
    · rw [if_neg c, if_neg (fun z => c ⟨z.1, by omega, z.2.2⟩)]
theorem hitR_no {D pts to i k : Nat} {fm ps : Nat → Nat} {f : Nat → Int32} (h : ¬ (fm k ≠ fm i ∧ ps k = to)) : hitR D pts to i fm ps f (k + 1) = hitR D pts to i fm ps f k := by
  funext x
  unfold hitR
  by_cases c : 12 * D ≤ x ∧ x < 12 * D + k ∧ fm (x - 12 * D) ≠ fm i ∧ ps (x - 12 * D) = to ∧ to < pts
  · rw [if_pos c, if_pos ⟨c.1, by omega, c.2.2⟩]
  · rw [if_neg c, if_neg (fun z => c ⟨z.1, ?_, z.2.2⟩)]
    have : x ≠ 12 * D + k := fun e => h (by rw [e, Nat.add_sub_cancel_left] at z; exact ⟨z.2.2.1, z.2.2.2.1⟩)
    omega
section GOM
variable {pts hm n : Nat} {fm kd ps : Nat → Nat} {S : MS} {D : Nat}
theorem s8_at1 {i v : Nat} (hD : D < 4) (hi : i < 12) (h : ms_rows S (12 * D + i) = nI v) : M_X8_at S (nI D) (nI i) = some (nI v) := by
  unfold M_X8_at
  rw [ix8, inb_nI (show 12 * D + i < 48 by omega) (by omega), cl (by omega), h]
  rfl
theorem s8_goMan (hS : ES pts hm n fm kd S) (hE : ER pts n ps D S) (hD : D < 4) (ok : OKb pts hm n fm kd ps) {i d : Nat} (hi : i < n) (hd1 : 1 ≤ d) (hd : d ≤ 6) :
    ∃ R, M_X8_goMan S (nI D) (nI i) (nI d) = some (ms_s_rows S R) ∧ ER pts n (goA pts n fm ps i (aimA pts (fm i) (kd i) (ps i) d)) D (ms_s_rows S R) ∧ ∀ k, (k < 12 * D ∨ 12 * D + 8 ≤ k) → R k = ms_rows S k := by
  have hn : n ≤ 8 := ok.2.2.2.2.1
  have hpt : pts ≤ 12 := ok.2.1
  have hto : aimA pts (fm i) (kd i) (ps i) d ≤ pts + 1 := aimA_le (ok.2.2.2.2.2 i hi).2.2.2
  have htp : aimA pts (fm i) (kd i) (ps i) d ≠ pts + 1 → aimA pts (fm i) (kd i) (ps i) d < pts := fun h => (aimA_pt (ok.2.2.2.2.2 i hi).2.2.2 hd1 h).1
  have hT := s8_target hS hE hD ok hi hd1 hd
  generalize aimA pts (fm i) (kd i) (ps i) d = to at hto htp hT ⊢
  obtain ⟨e1, e2, e3, e4⟩ := hS
  refine ⟨upd (hitR D pts to i fm ps (ms_rows S) n) (12 * D + i) (nI (trc pts to)), ?_, ?_, ?_⟩
  · unfold M_X8_goMan
    rw [hT]
    simp only [ob]
    refine (bind_of (b := hitR D pts to i fm ps (ms_rows S) n) ?_).trans ?_
    · by_cases h9 : to = pts + 1
      · have hR : hitR D pts to i fm ps (ms_rows S) n = ms_rows S := by
          funext x
          exact if_neg (by omega)
        rw [hR]
        refine lp_at (fun _ => ((0 : Int32), ms_rows S)) 0 _ rfl (fun k rec hk => absurd hk (Nat.not_lt_zero _)) (fun rec => ?_) (by omega)
        have h99 : nI (trc pts to) = (99 : Int32) := by rw [(trc_99 hto hpt).2 h9]; rfl
        simp only [h99, if_true, ite_self]
      · have hlt := htp h9
        have h99 : ¬ nI (trc pts to) = (99 : Int32) := fun z => h9 ((trc_99 hto hpt).1 ((eqI (b := 99) (by have := trc_le hto hpt; omega) (by omega)).1 z))
        refine lp_at (fun k => (nI k, hitR D pts to i fm ps (ms_rows S) k)) n _ ?_ ?_ ?_ (by omega)
        · refine congrArg (Prod.mk _) ?_
          funext x
          exact (if_neg (by omega)).symm
        · intro k rec hk
          obtain ⟨f1, f2⟩ := e4 k hk
          obtain ⟨g1, g2⟩ := e4 i hi
          obtain ⟨o1, o2, o3, o4⟩ := ok.2.2.2.2.2 k hk
          obtain ⟨o1', o2', o3', o4'⟩ := ok.2.2.2.2.2 i hi
          have h1 : ¬ nI n ≤ nI k := nI_ge hk (by omega)
          have hat : M_X8_at (ms_s_rows S (hitR D pts to i fm ps (ms_rows S) k)) (nI D) (nI k) = some (nI (trc pts (ps k))) := s8_at1 hD (by omega) (by
            show hitR D pts to i fm ps (ms_rows S) k (12 * D + k) = _
            rw [hitR_out (Nat.le_refl k)]; exact hE k hk)
          have t1 := trc_le o4 hpt
          have t2 := trc_le hto hpt
          simp only [e3, h1, if_false, h99]
          rw [inb_nI (show k < 8 by omega) (by omega), inb_nI (show i < 8 by omega) (by omega), cl (show k < 2 ^ 31 by omega), cl (show i < 2 ^ 31 by omega), f1, g1, hat, ix8, inb_nI (show 12 * D + k < 48 by omega) (by omega), cl (show 12 * D + k < 2 ^ 31 by omega), e1]
          simp only [ob, if_true, eqI (show fm k < 2 ^ 31 by omega) (show fm i < 2 ^ 31 by omega), eqI (show trc pts (ps k) < 2 ^ 31 by omega) (show trc pts to < 2 ^ 31 by omega), trc_inj o4 hto hpt, nI_p1]
          by_cases c1 : fm k = fm i
          · rw [if_pos c1, hitR_no (fun z => z.1 c1)]
          · rw [if_neg c1]
            by_cases c2 : ps k = to
            · rw [if_pos c2, hitR_yes c1 c2 hlt]
            · rw [if_neg c2, hitR_no (fun z => c2 z.2)]
        · intro rec
          have h1 : nI n ≤ nI n := nI_le (Nat.le_refl n) (by omega)
          simp only [e3, h1, if_true]
    · rw [ix8, if_pos (inb_nI (show 12 * D + i < 48 by omega) (by omega)), cl (show 12 * D + i < 2 ^ 31 by omega)]
  · intro j hj
    show upd (hitR D pts to i fm ps (ms_rows S) n) (12 * D + i) (nI (trc pts to)) (12 * D + j) = nI (trc pts (goA pts n fm ps i to j))
    unfold goA
    refine upd_f (fun h => ?_) (fun h => ?_)
    · rw [if_pos (show j = i by omega)]
    · rw [if_neg (show ¬ j = i by omega)]
      unfold hitR
      rw [Nat.add_sub_cancel_left]
      by_cases c : fm j ≠ fm i ∧ ps j = to ∧ to < pts
      · rw [if_pos ⟨by omega, by omega, c⟩, if_pos ⟨hj, c⟩, trc_pt (by omega)]
      · rw [if_neg (fun z => c z.2.2), if_neg (fun z => c z.2)]; exact hE j hj
  · intro k hk
    rw [upd_ne (show k ≠ 12 * D + i by omega)]
    exact if_neg (by omega)
end GOM
