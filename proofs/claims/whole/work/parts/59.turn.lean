/-! ===== a turn by the rule ===== -/
def turA (pts hm n : Nat) (fm kd ps : Nat → Nat) (f d : Nat) : Nat → Nat := if rulA pts hm n fm kd ps f d n < 1000 then goA pts n fm ps (rulA pts hm n fm kd ps f d n) (aimA pts (fm (rulA pts hm n fm kd ps f d n)) (kd (rulA pts hm n fm kd ps f d n)) (ps (rulA pts hm n fm kd ps f d n)) d) else ps
section TURN
variable {pts hm n : Nat} {fm kd ps : Nat → Nat} {L : BD} {S : MS} {D : Nat} {thr trn cub : Nat} {ow : Int32}
theorem ECt.same {L' : BD} (t : sameT L L') (h : ECt thr trn cub ow L) : ECt thr trn cub ow L' := ⟨t.1.trans h.1, t.2.1.trans h.2.1, t.2.2.1.trans h.2.2.1, t.2.2.2.trans h.2.2.2⟩
theorem sp_passThrow (E : EC pts hm n fm kd ps L) (T : ECt thr trn cub ow L) (ht : thr < 2) : ∃ L', M_X2_passThrow L = some L' ∧ EC pts hm n fm kd ps L' ∧ ECt (1 - thr) (trn + 1) cub ow L' := by
  refine ⟨_, rfl, E, ?_, ?_, T.2.2.1, T.2.2.2⟩
  · show bd_turn L + 1 = nI (trn + 1)
    rw [T.1, nI_p1]
  · show (1 : Int32) - bd_thrower L = nI (1 - thr)
    rw [T.2.1, show ((1 : Int32)) = nI 1 from rfl, subI (by omega)]
theorem sp_turnByRule (E : EC pts hm n fm kd ps L) (T : ECt thr trn cub ow L) (ok : OKb pts hm n fm kd ps) {d : Nat} (ht : thr < 2) (hd1 : 1 ≤ d) (hd : d ≤ 6) :
    ∃ L', M_X2_turnByRule L (nI d) = some (mnb 1000 (rulA pts hm n fm kd ps thr d n), L') ∧ EC pts hm n fm kd (turA pts hm n fm kd ps thr d) L' ∧ ECt (1 - thr) (trn + 1) cub ow L' := by
  unfold M_X2_turnByRule turA
  rw [T.2.1, sp_chosenByRule E ok ht hd1 hd]
  unfold jn
  simp only [ob]
  have hn : n ≤ 8 := ok.2.2.2.2.1
  rcases rulA_is (pts := pts) (hm := hm) (n := n) (fm := fm) (kd := kd) (ps := ps) (k := n) (f := thr) (d := d) with c4 | ⟨c4, c5, c6⟩
  · obtain ⟨L', h1, h2, h3⟩ := sp_passThrow E T ht
    rw [if_pos ((mnb_no (by omega)).2 (by omega)), if_neg (by omega), h1]
    exact ⟨L', rfl, h2, h3⟩
  · obtain ⟨u, hu, E1, t1⟩ := sp_go E ok c4 hd1 hd (canA_few c6)
    obtain ⟨L', h1, h2, h3⟩ := sp_passThrow E1 (T.same t1) ht
    rw [if_neg (fun z => absurd ((mnb_no (by omega)).1 z) (by omega)), if_pos (by omega), mnb_t (show rulA pts hm n fm kd ps thr d n < 1000 by omega), hu]
    simp only [ob]
    rw [h1]
    exact ⟨L', rfl, h2, h3⟩
theorem s8_goTurn (T : EMt thr trn cub ow (fun c => ms_rows S (12 * D + c))) (hD : D < 4) (ht : thr < 2) :
    ∃ R, M_X8_goTurn S (nI D) = some (ms_s_rows S R) ∧ EMt (1 - thr) (trn + 1) cub ow (fun c => R (12 * D + c)) ∧ ∀ k, k ≠ 12 * D + 8 → k ≠ 12 * D + 11 → R k = ms_rows S k := by
  obtain ⟨t1, t2, t3, t4⟩ := T
  have t1 : ms_rows S (12 * D + 11) = nI trn := t1
  have t2 : ms_rows S (12 * D + 8) = nI thr := t2
  refine ⟨upd (upd (ms_rows S) (12 * D + 8) (nI (1 - thr))) (12 * D + 11) (nI (trn + 1)), ?_, ⟨?_, ?_, ?_, ?_⟩, ?_⟩
  · unfold M_X8_goTurn
    rw [show ((8 : Int32)) = nI 8 from rfl, show ((11 : Int32)) = nI 11 from rfl, ix8, ix8, if_pos (inb_nI (show 12 * D + 8 < 48 by omega) (by omega)), if_pos (inb_nI (show 12 * D + 11 < 48 by omega) (by omega)), cl (show 12 * D + 8 < 2 ^ 31 by omega), cl (show 12 * D + 11 < 2 ^ 31 by omega), upd_ne (show 12 * D + 11 ≠ 12 * D + 8 by omega), t1, t2, nI_p1, show ((1 : Int32)) = nI 1 from rfl, subI (show thr ≤ 1 by omega)]
  · exact upd_at
  · show upd (upd (ms_rows S) (12 * D + 8) (nI (1 - thr))) (12 * D + 11) (nI (trn + 1)) (12 * D + 8) = _
    rw [upd_ne (show 12 * D + 8 ≠ 12 * D + 11 by omega), upd_at]
  · show upd (upd (ms_rows S) (12 * D + 8) (nI (1 - thr))) (12 * D + 11) (nI (trn + 1)) (12 * D + 9) = _
    rw [upd_ne (show 12 * D + 9 ≠ 12 * D + 11 by omega), upd_ne (show 12 * D + 9 ≠ 12 * D + 8 by omega)]; exact t3
  · show upd (upd (ms_rows S) (12 * D + 8) (nI (1 - thr))) (12 * D + 11) (nI (trn + 1)) (12 * D + 10) = _
    rw [upd_ne (show 12 * D + 10 ≠ 12 * D + 11 by omega), upd_ne (show 12 * D + 10 ≠ 12 * D + 8 by omega)]; exact t4
  · intro k h1 h2
    rw [upd_ne h2, upd_ne h1]
theorem s8_goRuled (hS : ES pts hm n fm kd S) (hE : ER pts n ps D S) (T : EMt thr trn cub ow (fun c => ms_rows S (12 * D + c))) (hD : D < 4) (ok : OKb pts hm n fm kd ps) {d : Nat} (ht : thr < 2) (hd1 : 1 ≤ d) (hd : d ≤ 6) :
    ∃ R, M_X8_goRuled S (nI D) (nI d) = some (mnb 1000 (rulA pts hm n fm kd ps thr d n), ms_s_rows S R) ∧ ER pts n (turA pts hm n fm kd ps thr d) D (ms_s_rows S R) ∧ EMt (1 - thr) (trn + 1) cub ow (fun c => R (12 * D + c)) ∧ ∀ k, (k < 12 * D ∨ 12 * D + 12 ≤ k) → R k = ms_rows S k := by
  have hn : n ≤ 8 := ok.2.2.2.2.1
  have T2 : ms_rows S (12 * D + 8) = nI thr := T.2.1
  unfold M_X8_goRuled turA
  rw [show ((8 : Int32)) = nI 8 from rfl, ix8, if_pos (inb_nI (show 12 * D + 8 < 48 by omega) (by omega)), cl (show 12 * D + 8 < 2 ^ 31 by omega), T2, s8_ruled hS hE hD ok ht hd1 hd]
  unfold jn
  simp only [ob]
  rcases rulA_is (pts := pts) (hm := hm) (n := n) (fm := fm) (kd := kd) (ps := ps) (k := n) (f := thr) (d := d) with c4 | ⟨c4, c5, c6⟩
  · obtain ⟨R, h1, h2, h3⟩ := s8_goTurn T hD ht
    rw [if_pos ((mnb_no (by omega)).2 (by omega)), if_neg (by omega), h1]
    refine ⟨R, rfl, fun j hj => ?_, h2, fun k hk => h3 k (by omega) (by omega)⟩
    show R (12 * D + j) = _
    rw [h3 _ (by omega) (by omega)]
    exact hE j hj
  · obtain ⟨R1, g1, g2, g3⟩ := s8_goMan hS hE hD ok c4 hd1 hd
    have T' : EMt thr trn cub ow (fun c => ms_rows (ms_s_rows S R1) (12 * D + c)) := by
      refine ⟨?_, ?_, ?_, ?_⟩
      · exact (g3 _ (by omega)).trans T.1
      · exact (g3 _ (by omega)).trans T.2.1
      · exact (g3 _ (by omega)).trans T.2.2.1
      · exact (g3 _ (by omega)).trans T.2.2.2
    obtain ⟨R, h1, h2, h3⟩ := s8_goTurn T' hD ht
    rw [if_neg (fun z => absurd ((mnb_no (by omega)).1 z) (by omega)), if_pos (by omega), mnb_t (show rulA pts hm n fm kd ps thr d n < 1000 by omega), g1]
    simp only [ob]
    rw [h1]
    refine ⟨R, rfl, fun j hj => ?_, h2, fun k hk => (h3 k (by omega) (by omega)).trans (g3 k (by omega))⟩
    show R (12 * D + j) = _
    rw [h3 _ (by omega) (by omega)]
    exact g2 j hj
end TURN
