/-! ===== an act is kept: the class's ring, the reference's rows ===== -/
def shR (f : Nat → Int32) (k : Nat) : Nat → Int32 := fun x => if x < k then f (12 + x) else f x
theorem shR_s {f : Nat → Int32} {k : Nat} : upd (shR f k) k (f (12 + k)) = shR f (k + 1) := by
  funext x
  refine upd_f (fun e => ?_) (fun e => ?_)
  · unfold shR
    rw [if_pos (by omega), e]
  · unfold shR
    by_cases c : x < k
    · rw [if_pos c, if_pos (by omega)]
    · rw [if_neg c, if_neg (by omega)]
theorem s8_noteB (S : MS) {K : Nat} (hK : K ≤ 24) (h : ms_acts S = nI K) : ∃ (K' : Nat) (B : Nat → Int32), M_X8_note S = some (ms_s_before (ms_s_acts S (nI K')) B) ∧ K' = (if K = 24 then 24 else K + 1) ∧ (∀ c, c < 12 → B (12 * (K' - 1) + c) = ms_now S c) ∧ ∀ j, 1 ≤ j → j < K' → ∀ c, c < 12 → B (12 * (K' - 1 - j) + c) = ms_before S (12 * (K - 1 - (j - 1)) + c) := by
  have hw : ∀ (k : Nat) (f : Nat → Int32), k < 24 → lp (σ := Int32 × (Nat → Int32)) (β := (Nat → Int32)) (fun rec2 st2 => (if (12 : Int32) ≤ st2.1 then (some st2.2) else (if inb st2.1 12 = true then (if inb (((12 : Int32) * nI k) + st2.1) 288 = true then (rec2 ((st2.1 + (1 : Int32)), (upd st2.2 ((((12 : Int32) * nI k) + st2.1)).toNatClampNeg ((ms_now S) (st2.1).toNatClampNeg)))) else none) else none))) 1000000 ((0 : Int32), f) = some (asR k f (ms_now S) 12) := by
    intro k f hk
    refine lp_at (fun j => (nI j, asR k f (ms_now S) j)) 12 _ (congrArg (Prod.mk _) asR_0.symm) ?_ ?_ (by omega)
    · intro j rec hj
      have h1 : ¬ (12 : Int32) ≤ nI j := fun z => absurd ((leI (a := 12) (by omega) (by omega)).1 z) (by omega)
      simp only [h1, if_false]
      rw [ix8, inb_nI (show j < 12 by omega) (by omega), inb_nI (show 12 * k + j < 288 by omega) (by omega), cl (show j < 2 ^ 31 by omega), cl (show 12 * k + j < 2 ^ 31 by omega), asR_s rfl, nI_p1]
      rfl
    · intro rec
      rfl
  by_cases c : K = 24
  · refine ⟨24, asR 23 (shR (ms_before S) 276) (ms_now S) 12, ?_, by rw [if_pos c], fun q hq => asR_in hq, ?_⟩
    · unfold M_X8_note jn
      show (if ms_acts S = (24 : Int32) then _ else _) = _
      rw [if_pos (show ms_acts S = (24 : Int32) from h.trans (by rw [c]; rfl)), h, c]
      refine (bind_of (b := shR (ms_before S) 276) ?_).trans ?_
      · refine lp_at (fun j => (nI j, shR (ms_before S) j)) 276 _ ?_ ?_ ?_ (by omega)
        · refine congrArg (Prod.mk _) ?_
          funext x
          exact (if_neg (by omega)).symm
        · intro j rec hj
          have h1 : ¬ (276 : Int32) ≤ nI j := fun z => absurd ((leI (a := 276) (by omega) (by omega)).1 z) (by omega)
          have hs : shR (ms_before S) j (12 + j) = ms_before S (12 + j) := if_neg (by omega)
          simp only [h1, if_false]
          rw [show ((12 : Int32)) = nI 12 from rfl, nI_add, inb_nI (show 12 + j < 288 by omega) (by omega), inb_nI (show j < 288 by omega) (by omega), cl (show j < 2 ^ 31 by omega), cl (show 12 + j < 2 ^ 31 by omega), hs, shR_s, nI_p1]
          rfl
        · intro rec
          rfl
      · rw [show nI 24 - (1 : Int32) = nI 23 from rfl]
        refine (bind_of (hw 23 _ (by omega))).trans ?_
        rfl
    · intro j h1 h2 q hq
      rw [asR_out (by omega)]
      unfold shR
      rw [if_pos (by omega), c]
      congr 1
      omega
  · refine ⟨K + 1, asR K (ms_before S) (ms_now S) 12, ?_, by rw [if_neg c], fun q hq => asR_in hq, ?_⟩
    · unfold M_X8_note jn
      show (if ms_acts S = (24 : Int32) then _ else _) = _
      rw [if_neg (show ¬ ms_acts S = (24 : Int32) from fun z => c ((eqI (b := 24) (by omega) (by omega)).1 (h.symm.trans z))), h]
      refine (bind_of (hw K _ (by omega))).trans ?_
      rw [nI_p1]
    · intro j h1 h2 q hq
      rw [asR_out (by omega)]
      congr 1
      omega
theorem sp_keep {pts hm n : Nat} {fm kd ps : Nat → Nat} {L : BD} {S : MS} {thr trn cub : Nat} {ow : Int32} {ac : AC} (A : RelAct pts n ac S) (ok : OKb pts hm n fm kd ps) (okt : OKt thr trn cub ow) (E : EC pts hm n fm kd ps L) (T : ECt thr trn cub ow L) (EM : EMb pts hm n fm kd ps S) (TM : EMt thr trn cub ow (ms_now S)) :
    ∃ ac' a B, M_X0_keep ac L = some ac' ∧ M_X8_note S = some (ms_s_before (ms_s_acts S a) B) ∧ RelAct pts n ac' (ms_s_before (ms_s_acts S a) B) := by
  have hn : n ≤ 8 := ok.2.2.2.2.1
  obtain ⟨K, N, k1, k2, k3, k4, k5, k6⟩ := A
  obtain ⟨K', B, b1, b2, b3, b4⟩ := s8_noteB S k1 k5
  have eN : nI N * 12 = nI (N * 12) := by rw [li 12, pk_mul]
  have e8 : nI (N * 12) + 8 = nI (N * 12 + 8) := nI_add _ 8
  have e9 : nI (N * 12 + 8) + 1 = nI (N * 12 + 9) := nI_add _ 1
  have e10 : nI (N * 12 + 8) + 2 = nI (N * 12 + 10) := nI_add _ 2
  have e11 : nI (N * 12 + 8) + 3 = nI (N * 12 + 11) := nI_add _ 3
  have eM : nI N + 1 - (nI N + 1) / 24 * 24 = nI ((N + 1) % 24) := by
    rw [nI_p1]
    exact pk_rem (d := 24) (by omega) (by omega) (by omega)
  have eK : (if (24 : Int32) < nI K + 1 then (24 : Int32) else nI K + 1) = nI K' := by
    rw [nI_p1, b2]
    by_cases c : K = 24
    · rw [if_pos c, c]; rfl
    · rw [if_neg c, if_neg (show ¬ (24 : Int32) < nI (K + 1) from fun z => absurd ((ltI (show 24 < 2 ^ 31 by omega) (show K + 1 < 2 ^ 31 by omega)).1 z) (by omega))]
  have hK' : K' ≤ 24 := by
    rw [b2]
    split <;> omega
  refine ⟨(nI ((N + 1) % 24), nI K', upd (upd (upd (upd (va_cpy (bd_places L) (ac_before ac) 0 (N * 12) 8) (N * 12 + 8) (bd_turn L)) (N * 12 + 9) (bd_thrower L)) (N * 12 + 10) (bd_cube L)) (N * 12 + 11) (bd_owner L)), nI K', B, ?_, b1, K', (N + 1) % 24, hK', Nat.mod_lt _ (by omega), rfl, rfl, rfl, ?_⟩
  · unfold M_X0_keep
    rw [k4, k3, eN, e8, e9, e10, e11, eM, eK, inb_nI (show N * 12 + 8 < 288 by omega) (by omega), inb_nI (show N * 12 + 9 < 288 by omega) (by omega), inb_nI (show N * 12 + 10 < 288 by omega) (by omega), inb_nI (show N * 12 + 11 < 288 by omega) (by omega), cl (show N * 12 < 2 ^ 31 by omega), cl (show N * 12 + 8 < 2 ^ 31 by omega), cl (show N * 12 + 9 < 2 ^ 31 by omega), cl (show N * 12 + 10 < 2 ^ 31 by omega), cl (show N * 12 + 11 < 2 ^ 31 by omega), if_pos]
    · rfl
    · exact ⟨⟨by decide, nI_pos (by omega), by decide⟩, by decide, by
        show N * 12 + 8 ≤ 288
        omega⟩
  · intro j hj
    have fr : ∀ x, x < N * 12 ∨ N * 12 + 12 ≤ x → upd (upd (upd (upd (va_cpy (bd_places L) (ac_before ac) 0 (N * 12) 8) (N * 12 + 8) (bd_turn L)) (N * 12 + 9) (bd_thrower L)) (N * 12 + 10) (bd_cube L)) (N * 12 + 11) (bd_owner L) x = ac_before ac x := by
      intro x hx
      rw [upd_ne (by omega), upd_ne (by omega), upd_ne (by omega), upd_ne (by omega)]
      exact pk_cpy_out (by omega)
    by_cases j0 : j = 0
    · subst j0
      have es : ((N + 1) % 24 + 23 - 0) % 24 = N := by omega
      refine ⟨ps, thr, trn, cub, ow, okt, fun i hi => ⟨(ok.2.2.2.2.2 i hi).2.2.2, ?_, ?_⟩, ?_, ?_, ?_, ?_, ?_, ?_, ?_, ?_⟩
      · rw [es]
        show upd (upd (upd (upd (va_cpy (bd_places L) (ac_before ac) 0 (N * 12) 8) (N * 12 + 8) (bd_turn L)) (N * 12 + 9) (bd_thrower L)) (N * 12 + 10) (bd_cube L)) (N * 12 + 11) (bd_owner L) (N * 12 + i) = _
        rw [upd_ne (by omega), upd_ne (by omega), upd_ne (by omega), upd_ne (by omega), pk_cpy_in (by omega) (by omega), show 0 + (N * 12 + i - N * 12) = i by omega]
        exact (E.2.2.2.1 i hi).2.2
      · exact (b3 i (by omega)).trans (EM.2.2.2 i hi).2.2
      · rw [es]
        show upd (upd (upd (upd (va_cpy (bd_places L) (ac_before ac) 0 (N * 12) 8) (N * 12 + 8) (bd_turn L)) (N * 12 + 9) (bd_thrower L)) (N * 12 + 10) (bd_cube L)) (N * 12 + 11) (bd_owner L) (N * 12 + 8) = _
        rw [upd_ne (by omega), upd_ne (by omega), upd_ne (by omega), upd_at]
        exact T.1
      · rw [es]
        show upd (upd (upd (upd (va_cpy (bd_places L) (ac_before ac) 0 (N * 12) 8) (N * 12 + 8) (bd_turn L)) (N * 12 + 9) (bd_thrower L)) (N * 12 + 10) (bd_cube L)) (N * 12 + 11) (bd_owner L) (N * 12 + 9) = _
        rw [upd_ne (by omega), upd_ne (by omega), upd_at]
        exact T.2.1
      · rw [es]
        show upd (upd (upd (upd (va_cpy (bd_places L) (ac_before ac) 0 (N * 12) 8) (N * 12 + 8) (bd_turn L)) (N * 12 + 9) (bd_thrower L)) (N * 12 + 10) (bd_cube L)) (N * 12 + 11) (bd_owner L) (N * 12 + 10) = _
        rw [upd_ne (by omega), upd_at]
        exact T.2.2.1
      · rw [es]
        show upd (upd (upd (upd (va_cpy (bd_places L) (ac_before ac) 0 (N * 12) 8) (N * 12 + 8) (bd_turn L)) (N * 12 + 9) (bd_thrower L)) (N * 12 + 10) (bd_cube L)) (N * 12 + 11) (bd_owner L) (N * 12 + 11) = _
        rw [upd_at]
        exact T.2.2.2
      · exact (b3 11 (by omega)).trans TM.1
      · exact (b3 8 (by omega)).trans TM.2.1
      · exact (b3 9 (by omega)).trans TM.2.2.1
      · exact (b3 10 (by omega)).trans TM.2.2.2
    · have hjK : j - 1 < K := by
        rw [b2] at hj
        split at hj <;> omega
      obtain ⟨ps0, thr0, trn0, cub0, ow0, h1, h2, h3, h4, h5, h6, h7⟩ := k6 (j - 1) hjK
      have es : ((N + 1) % 24 + 23 - j) % 24 = (N + 23 - (j - 1)) % 24 := by omega
      have hne : (N + 23 - (j - 1)) % 24 ≠ N := by omega
      generalize (N + 23 - (j - 1)) % 24 = M at *
      have hb := b4 j (by omega) hj
      refine ⟨ps0, thr0, trn0, cub0, ow0, h1, fun i hi => ⟨(h2 i hi).1, ?_, ?_⟩, ?_, ?_, ?_, ?_, ?_, ?_, ?_, ?_⟩
      · rw [es]; exact (fr _ (by omega)).trans (h2 i hi).2.1
      · exact (hb i (by omega)).trans (h2 i hi).2.2
      · rw [es]; exact (fr _ (by omega)).trans h3
      · rw [es]; exact (fr _ (by omega)).trans h4
      · rw [es]; exact (fr _ (by omega)).trans h5
      · rw [es]; exact (fr _ (by omega)).trans h6
      · exact (hb 11 (by omega)).trans h7.1
      · exact (hb 8 (by omega)).trans h7.2.1
      · exact (hb 9 (by omega)).trans h7.2.2.1
      · exact (hb 10 (by omega)).trans h7.2.2.2
