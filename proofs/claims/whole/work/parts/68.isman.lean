/-! ===== is a man ===== -/
theorem sp_isMan7 {tf : TF} {L : BD} {n : Nat} (h : bd_men L = nI n) (x : Int32) : M_X7_isMan tf L x = some (b01 (0 ≤ x ∧ x ≤ nI n - 1)) := by
  unfold M_X7_isMan
  rw [sp_within, h]
  simp only [ob]
  exact g01
theorem sp_isMan8 {S : MS} {n : Nat} (h : ms_men S = nI n) (x : Int32) : M_X8_isMan S x = some (b01 (0 ≤ x ∧ x ≤ nI n - 1)) := by
  unfold M_X8_isMan
  rw [show (0 : Int64) = (0 : Int32).toInt64 from rfl, sp_in, h]
  simp only [ob]
  exact g01
theorem man_of {n : Nat} {x : Int32} (hn : n ≤ 8) (h : 0 ≤ x ∧ x ≤ nI n - 1) : ∃ i, i < n ∧ x = nI i := by
  have h1' : ((1 : Int32)).toInt = 1 := by decide
  have hm1 : (nI n - 1).toInt = n - 1 := by rw [sub_toInt (by rw [nI_toInt (by omega), h1']; omega), nI_toInt (by omega), h1']
  rw [le0, Int32.le_iff_toInt_le, hm1] at h
  obtain ⟨k, hk, rfl⟩ := nI_of (x := x) (by rw [lt0]; omega)
  rw [nI_toInt hk] at h
  exact ⟨k, by omega, rfl⟩
