/-! ===== feed, fault, status, trace ===== -/
theorem sim_feed {tf : TF} {rw : RW} {tp : TP} {bs : IA} {L i0 i1 : BD} {ac : AC} {as : AS} {S : MS} (h : Rel tf rw tp bs L i0 i1 ac as S) (x : Int32) : ∃ v tp' bs' S', M_X7_feed tf tp bs x = some (v, tp', bs') ∧ M_X8_feed S x = some (v, S') ∧ Rel tf rw tp' bs' L i0 i1 ac as S' := by
  obtain ⟨hT, hR, ⟨n, hn, e1, e2, e3⟩, hA, hB⟩ := h
  have hP : RelTape tp bs S := ⟨n, hn, e1, e2, e3⟩
  unfold M_X7_feed M_X8_feed M_X6_append
  rw [sp_within, show (0 : Int64) = (0 : Int32).toInt64 from rfl, show (255 : Int64) = (255 : Int32).toInt64 from rfl, sp_in]
  simp only [ob, b01_0]
  by_cases h1 : 0 ≤ x ∧ x ≤ 255
  · simp only [h1, not_true_eq_false, if_false, and_self]
    obtain ⟨z, hz, rfl⟩ := nat_of (m := 255) rfl (by omega) h1
    rw [e1, e2]
    by_cases h2 : n = 90
    · subst h2
      rw [if_neg (show ¬ nI 90 < 90 by decide), if_pos (show nI 90 = 90 from rfl)]
      simp only [ob]
      exact ⟨_, _, _, _, rfl, rfl, hT, hR, ⟨90, hn, rfl, e2, e3⟩, hA, hB⟩
    · have h3 : nI n < 90 := (nI_ltI (b := 90) (by omega) (by omega)).mpr (by omega)
      have h4 : ¬ nI n = 90 := fun e => h2 ((nI_eq (b := 90) (by omega) (by omega)).mp e)
      rw [if_pos h3, if_neg h4, inb_nI (show n < 90 by omega) (by omega), cl (by omega)]
      simp only [if_true, ob]
      refine ⟨_, _, _, _, rfl, rfl, hT, hR, ⟨n + 1, by omega, nI_1 n, nI_1 n, fun k hk => ?_⟩, hA, hB⟩
      show upd bs n (nI z) k = upd (ms_tape S) n (nI z) k ∧ ∃ y : Nat, y < 256 ∧ upd bs n (nI z) k = nI y
      by_cases hkn : k = n
      · subst hkn
        rw [upd_at, upd_at]
        exact ⟨rfl, z, by omega, rfl⟩
      · rw [upd_ne hkn, upd_ne hkn]
        exact e3 k (by omega)
  · simp only [h1, not_false_eq_true, if_true]
    exact ⟨_, _, _, _, rfl, rfl, hT, hR, hP, hA, hB⟩
theorem sim_fault {tf : TF} {rw : RW} {tp : TP} {bs : IA} {L i0 i1 : BD} {ac : AC} {as : AS} {S : MS} (h : Rel tf rw tp bs L i0 i1 ac as S) : ∃ v, M_X7_fault tf = some v ∧ M_X8_fault S = some v := ⟨_, rfl, by unfold M_X8_fault; rw [h.1.1]⟩
theorem sim_status {tf : TF} {rw : RW} {tp : TP} {bs : IA} {L i0 i1 : BD} {ac : AC} {as : AS} {S : MS} (h : Rel tf rw tp bs L i0 i1 ac as S) : ∃ v, M_X7_status tf = some v ∧ M_X8_status S = some v := ⟨_, rfl, by unfold M_X8_status; rw [h.1.2]⟩
theorem sim_trace {tf : TF} {rw : RW} {tp : TP} {bs : IA} {L i0 i1 : BD} {ac : AC} {as : AS} {S : MS} (h : Rel tf rw tp bs L i0 i1 ac as S) (x : Int32) : ∃ v, M_X7_trace tf as x = some v ∧ M_X8_trace S x = some v := by
  obtain ⟨hT, hR, hP, ⟨n, hn, e1, e2, e3⟩, hB⟩ := h
  unfold M_X7_trace M_X8_trace
  rw [sp_within, show (0 : Int64) = (0 : Int32).toInt64 from rfl, sp_in, e1, e2]
  simp only [ob, b01_0]
  by_cases h1 : 0 ≤ x ∧ x ≤ nI n - 1
  · simp only [h1, not_true_eq_false, if_false, and_self]
    have h1' : ((1 : Int32)).toInt = 1 := by decide
    have hm1 : (nI n - 1).toInt = n - 1 := by rw [sub_toInt (by rw [nI_toInt (by omega), h1']; omega), nI_toInt (by omega), h1']
    rw [le0, Int32.le_iff_toInt_le, hm1] at h1
    obtain ⟨k, hk, rfl⟩ := nI_of (x := x) (by rw [lt0]; omega)
    rw [nI_toInt hk] at h1
    rw [inb_nI (show k < 16 by omega) (by omega), cl hk, e3 k (by omega)]
    simp only [if_true]
    exact ⟨_, rfl, rfl⟩
  · simp only [h1, not_false_eq_true, if_true]
    exact ⟨_, rfl, rfl⟩
