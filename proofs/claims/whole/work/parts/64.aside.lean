/-! ===== the reference's board, put aside in a row ===== -/
section ASIDE
variable {pts hm n : Nat} {fm kd ps : Nat → Nat} {S : MS} {D : Nat} {thr trn cub : Nat} {ow : Int32}
theorem es_of (E : EMb pts hm n fm kd ps S) (ho : ms_otherOne S = -1000000) (hn : n ≤ 8) : ES pts hm n fm kd S := by
  obtain ⟨e1, e2, e3, e4⟩ := E
  refine ⟨e1, e2, e3, fun i hi => ⟨(e4 i hi).1, ?_⟩⟩
  rw [ho, if_neg (nI_ne_no (by omega))]
  exact (e4 i hi).2.1
theorem ES.rows {R : Nat → Int32} (h : ES pts hm n fm kd S) : ES pts hm n fm kd (ms_s_rows S R) := h
theorem EMb.rows {R : Nat → Int32} (h : EMb pts hm n fm kd ps S) : EMb pts hm n fm kd ps (ms_s_rows S R) := h
theorem er_aside (E : EMb pts hm n fm kd ps S) (hn : n ≤ 8) : ER pts n ps D (ms_s_rows S (asR D (ms_rows S) (ms_now S) 12)) := fun i hi => by
  show asR D (ms_rows S) (ms_now S) 12 (12 * D + i) = _
  rw [asR_in (show i < 12 by omega)]
  exact (E.2.2.2 i hi).2.2
theorem emt_aside (T : EMt thr trn cub ow (ms_now S)) : EMt thr trn cub ow (fun c => asR D (ms_rows S) (ms_now S) 12 (12 * D + c)) := by
  refine ⟨?_, ?_, ?_, ?_⟩
  · exact (asR_in (show 11 < 12 by omega)).trans T.1
  · exact (asR_in (show 8 < 12 by omega)).trans T.2.1
  · exact (asR_in (show 9 < 12 by omega)).trans T.2.2.1
  · exact (asR_in (show 10 < 12 by omega)).trans T.2.2.2
theorem s8_wonNow (E : EMb pts hm n fm kd ps S) (ho : ms_otherOne S = -1000000) (ok : OKb pts hm n fm kd ps) : M_X8_wonNow S = some (mnb 1000 (winA pts n fm ps), ms_s_rows S (asR 0 (ms_rows S) (ms_now S) 12)) := by
  have hn : n ≤ 8 := ok.2.2.2.2.1
  unfold M_X8_wonNow
  rw [show ((0 : Int32)) = nI 0 from rfl, s8_aside S (show 0 < 4 by omega)]
  simp only [ob]
  rw [s8_won (es_of E ho hn).rows (er_aside E hn) (show 0 < 4 by omega) ok]
  rfl
end ASIDE
