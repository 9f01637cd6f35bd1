/-! ===== rows: set, drop, copy ===== -/
theorem sx8 (v : Int32) : (v <<< ((24 : Int32) &&& 31)) >>> ((24 : Int32) &&& 31) = v.toInt8.toInt32 := by
  apply Int32.toInt_inj.mp
  have hs : (((24 : Int32) &&& 31).toBitVec.smod 32).toNat = 24 := by decide
  rw [pk_shr _ _ 24 hs, Int8.toInt_toInt32, Int32.toInt_toInt8]
  have h1 := pk_shl v ((24 : Int32) &&& 31) 24 hs
  have hx : v.toBitVec.toNat < 4294967296 := v.toBitVec.isLt
  have h2 : (v <<< ((24 : Int32) &&& 31)).toInt = if 2 * (v <<< ((24 : Int32) &&& 31)).toBitVec.toNat < 4294967296 then ((v <<< ((24 : Int32) &&& 31)).toBitVec.toNat : Int) else ((v <<< ((24 : Int32) &&& 31)).toBitVec.toNat : Int) - 4294967296 := BitVec.toInt_eq_toNat_cond _
  have h3 : v.toInt = if 2 * v.toBitVec.toNat < 4294967296 then (v.toBitVec.toNat : Int) else (v.toBitVec.toNat : Int) - 4294967296 := BitVec.toInt_eq_toNat_cond _
  rw [h2, h1, h3, Int.shiftRight_eq_div_pow, Int.bmod_def]
  generalize v.toBitVec.toNat = X at *
  split <;> split <;> split <;> omega
theorem sx16 (v : Int32) : (v <<< ((16 : Int32) &&& 31)) >>> ((16 : Int32) &&& 31) = v.toInt16.toInt32 := by
  apply Int32.toInt_inj.mp
  have hs : (((16 : Int32) &&& 31).toBitVec.smod 32).toNat = 16 := by decide
  rw [pk_shr _ _ 16 hs, Int16.toInt_toInt32, Int32.toInt_toInt16]
  have h1 := pk_shl v ((16 : Int32) &&& 31) 16 hs
  have hx : v.toBitVec.toNat < 4294967296 := v.toBitVec.isLt
  have h2 : (v <<< ((16 : Int32) &&& 31)).toInt = if 2 * (v <<< ((16 : Int32) &&& 31)).toBitVec.toNat < 4294967296 then ((v <<< ((16 : Int32) &&& 31)).toBitVec.toNat : Int) else ((v <<< ((16 : Int32) &&& 31)).toBitVec.toNat : Int) - 4294967296 := BitVec.toInt_eq_toNat_cond _
  have h3 : v.toInt = if 2 * v.toBitVec.toNat < 4294967296 then (v.toBitVec.toNat : Int) else (v.toBitVec.toNat : Int) - 4294967296 := BitVec.toInt_eq_toNat_cond _
  rw [h2, h1, h3, Int.shiftRight_eq_div_pow, Int.bmod_def]
  generalize v.toBitVec.toNat = X at *
  split <;> split <;> split <;> omega
theorem toInt_0 : (0 : Int32).toInt = 0 := rfl
theorem le0 {x : Int32} : 0 ≤ x ↔ 0 ≤ x.toInt := by rw [Int32.le_iff_toInt_le]; rfl
theorem lt0 {x : Int32} : x < 0 ↔ x.toInt < 0 := by rw [Int32.lt_iff_toInt_lt]; rfl
theorem i32_b (x : Int32) : -2147483648 ≤ x.toInt ∧ x.toInt < 2147483648 := ⟨Int32.le_toInt x, Int32.toInt_lt x⟩
theorem sub_toInt {x y : Int32} (h : -2147483648 ≤ x.toInt - y.toInt ∧ x.toInt - y.toInt < 2147483648) : (x - y).toInt = x.toInt - y.toInt := by
  rw [Int32.toInt_sub]
  exact Int.bmod_eq_of_le (by omega) (by omega)
theorem add_toInt {x y : Int32} (h : -2147483648 ≤ x.toInt + y.toInt ∧ x.toInt + y.toInt < 2147483648) : (x + y).toInt = x.toInt + y.toInt := by
  rw [Int32.toInt_add]
  exact Int.bmod_eq_of_le (by omega) (by omega)
theorem add64_toInt (x y : Int32) : (x.toInt64 + y.toInt64).toInt = x.toInt + y.toInt := by
  have h1 := i32_b x
  have h2 := i32_b y
  rw [Int64.toInt_add, Int32.toInt_toInt64, Int32.toInt_toInt64]
  exact Int.bmod_eq_of_le (by omega) (by omega)
/-- whether so many items from one on stand in a row -/
theorem sp_hasItems (rw : RW) {r n : Nat} (hr : r < 8) (hn : n ≤ 40) (hs : rw_sizes rw r = nI n) (i m : Int32) : M_X5_hasItems rw (nI r) i m = some (b01 (0 ≤ i.toInt ∧ 0 ≤ m.toInt ∧ i.toInt + m.toInt ≤ n)) := by
  have hb := i32_b i
  have hnI : (nI n).toInt = n := nI_toInt (by omega)
  unfold M_X5_hasItems
  rw [inb_nI hr (by omega), cl (by omega), hs]
  simp only [if_true, lt0]
  by_cases h1 : i.toInt < 0
  · rw [if_pos h1, b01_f (by omega)]
  · rw [if_neg h1]
    by_cases h2 : m.toInt < 0
    · rw [if_pos h2, b01_f (by omega)]
    · rw [if_neg h2]
      have h3 : (nI n - i).toInt = n - i.toInt := by rw [sub_toInt (by omega), hnI]
      by_cases h4 : nI n - i < m
      · rw [if_pos h4]
        rw [Int32.lt_iff_toInt_lt, h3] at h4
        rw [b01_f (by omega)]
      · rw [if_neg h4]
        rw [Int32.lt_iff_toInt_lt, h3] at h4
        rw [b01_t (by omega)]
theorem sp_isSpan (S : MS) {r n : Nat} (hr : r < 8) (hn : n ≤ 40) (hs : ms_sizes S r = nI n) (i m : Int32) : M_X8_isSpan S (nI r) i m = some (b01 (0 ≤ i.toInt ∧ 0 ≤ m.toInt ∧ i.toInt + m.toInt ≤ n)) := by
  have hnI : (nI n).toInt = n := nI_toInt (by omega)
  unfold M_X8_isSpan
  rw [inb_nI hr (by omega), cl (by omega), hs]
  simp only [if_true, lt0, lg_gt]
  by_cases h1 : i.toInt < 0
  · rw [if_pos h1, b01_f (by omega)]
  · rw [if_neg h1]
    by_cases h2 : m.toInt < 0
    · rw [if_pos h2, b01_f (by omega)]
    · rw [if_neg h2]
      have h3 : (nI n).toInt64 < i.toInt64 + m.toInt64 ↔ (n : Int) < i.toInt + m.toInt := by rw [Int64.lt_iff_toInt_lt, add64_toInt, Int32.toInt_toInt64, hnI]
      by_cases h4 : (n : Int) < i.toInt + m.toInt
      · rw [if_pos (h3.mpr h4), b01_f (by omega)]
      · rw [if_neg (fun z => h4 (h3.mp z)), b01_t (by omega)]
theorem sp_findingFrom (rw : RW) {r : Nat} (hr : r < 8) (i m : Int32) (h : rw_lanes rw r = -1) : M_X5_findingFrom rw (nI r) i m = some 1 := by
  unfold M_X5_findingFrom
  rw [sp_isMissing rw hr, b01_t h]
  rfl
theorem sp_findingFrom2 (rw : RW) {r n : Nat} (hr : r < 8) (hn : n ≤ 40) (hs : rw_sizes rw r = nI n) (i m : Int32) (h : ¬ rw_lanes rw r = -1) : M_X5_findingFrom rw (nI r) i m = some (if 0 ≤ i.toInt ∧ 0 ≤ m.toInt ∧ i.toInt + m.toInt ≤ n then 0 else 2) := by
  unfold M_X5_findingFrom
  rw [sp_isMissing rw hr, b01_f h, sp_hasItems rw hr hn hs]
  simp only [ob, if_true, b01_0]
  by_cases hc : 0 ≤ i.toInt ∧ 0 ≤ m.toInt ∧ i.toInt + m.toInt ≤ n
  · rw [if_neg (fun z => z hc), if_pos hc]
  · rw [if_pos hc, if_neg hc]
theorem sim_drop {tf : TF} {rw : RW} {tp : TP} {bs : IA} {L i0 i1 : BD} {ac : AC} {as : AS} {S : MS} (h : Rel tf rw tp bs L i0 i1 ac as S) (r : Int32) : ∃ v tf' rw' S', M_X7_drop tf rw r = some (v, tf', rw') ∧ M_X8_drop S r = some (v, S') ∧ Rel tf' rw' tp bs L i0 i1 ac as S' := by
  obtain ⟨hT, hR, hP, hA, hB⟩ := h
  unfold M_X7_drop M_X8_drop
  rw [sp_isRow7, sp_isRow8]
  simp only [ob, b01_0]
  by_cases h1 : 0 ≤ r ∧ r ≤ 7
  · simp only [h1, not_true_eq_false, if_false, and_self]
    obtain ⟨r, hr, rfl⟩ := nat_of (m := 7) rfl (by omega) h1
    rw [sp_isMissing rw (by omega), inb_nI (show r < 8 by omega) (by omega), cl (by omega)]
    simp only [ob, if_true]
    rcases hR.2 r (by omega) with ⟨a, b⟩ | ⟨l', n', a, b, c, d, e, f⟩
    · rw [b01_t a, if_neg (by decide), if_neg (by rw [b]; decide)]
      exact ⟨_, _, _, _, rfl, rfl, ⟨hT.1, rfl⟩, hR, hP, hA, hB⟩
    · have hn : ¬ rw_lanes rw r = -1 := by
        rw [c]
        intro z
        have := congrArg Int32.toInt z
        rw [nI_toInt (by omega)] at this
        have h2 : ((-1 : Int32)).toInt = -1 := by decide
        omega
      rw [b01_f hn, if_pos rfl, if_pos (by rw [f]; exact nI_pos' (by omega))]
      unfold M_X5_remove
      rw [inb_nI (show r < 8 by omega) (by omega), cl (by omega)]
      simp only [if_true, ob, e, f]
      refine ⟨_, _, _, _, rfl, rfl, ⟨hT.1, rfl⟩, ⟨hR.1, fun q hq => ?_⟩, hP, hA, hB⟩
      show (upd _ _ _ q = -1 ∧ upd _ _ _ q = -1) ∨ _
      by_cases hqr : q = r
      · subst hqr
        exact Or.inl ⟨upd_at, upd_at⟩
      · rcases hR.2 q hq with ⟨a, b⟩ | ⟨l', n', a, b, c, d, e, f⟩
        · exact Or.inl ⟨(upd_ne hqr).trans a, (upd_ne hqr).trans b⟩
        · exact Or.inr ⟨l', n', a, b, (upd_ne hqr).trans c, d, e, (upd_ne hqr).trans f⟩
  · simp only [h1, not_false_eq_true, if_true]
    exact ⟨_, _, _, _, rfl, rfl, hT, hR, hP, hA, hB⟩
theorem ne_m1 {x : Int32} {n : Nat} (h : x = nI n) (hn : n < 2 ^ 31) : ¬ x = -1 := by
  rw [h]
  intro z
  have h3 := congrArg Int32.toInt z
  rw [nI_toInt hn] at h3
  have h2 : ((-1 : Int32)).toInt = -1 := by decide
  omega
theorem sim_set {tf : TF} {rw : RW} {tp : TP} {bs : IA} {L i0 i1 : BD} {ac : AC} {as : AS} {S : MS} (h : Rel tf rw tp bs L i0 i1 ac as S) (r i x : Int32) : ∃ v tf' rw' S', M_X7_set tf rw r i x = some (v, tf', rw') ∧ M_X8_set S r i x = some (v, S') ∧ Rel tf' rw' tp bs L i0 i1 ac as S' := by
  obtain ⟨hT, hR, hP, hA, hB⟩ := h
  unfold M_X7_set M_X8_set
  rw [sp_isRow7, sp_isRow8]
  simp only [ob, b01_0]
  by_cases h1 : 0 ≤ r ∧ r ≤ 7
  · simp only [h1, not_true_eq_false, if_false, and_self]
    obtain ⟨r, hr, rfl⟩ := nat_of (m := 7) rfl (by omega) h1
    rw [inb_nI (show r < 8 by omega) (by omega), cl (by omega)]
    simp only [if_true]
    rcases hR.2 r (by omega) with ⟨a, b⟩ | ⟨l', n', a, b, c, d, e, f⟩
    · rw [sp_findingFrom rw (by omega) _ _ a, b, if_neg (show ¬ (0 : Int32) ≤ -1 by decide)]
      simp only [ob]
      rw [if_neg (by decide)]
      exact ⟨_, _, _, _, rfl, rfl, ⟨hT.1, rfl⟩, hR, hP, hA, hB⟩
    · have hn0 := i32_b i
      have h1' : ((1 : Int32)).toInt = 1 := by decide
      have h0' : ((0 : Int32)).toInt = 0 := by decide
      have hnI : (nI n').toInt = n' := nI_toInt (by omega)
      have hm1 : (nI n' - 1).toInt = n' - 1 := by rw [sub_toInt (by omega), hnI, h1']
      have hc : (0 ≤ i ∧ i ≤ nI n' - 1) ↔ (0 ≤ i.toInt ∧ 0 ≤ ((1 : Int32)).toInt ∧ i.toInt + ((1 : Int32)).toInt ≤ n') := by
        rw [le0, Int32.le_iff_toInt_le, hm1, h1']
        omega
      rw [sp_findingFrom2 rw (by omega) b e _ _ (ne_m1 c (by omega)), f, if_pos (nI_pos' (by omega)), show (0 : Int64) = (0 : Int32).toInt64 from rfl, sp_in]
      simp only [ob, b01_0, hc]
      by_cases hin : 0 ≤ i.toInt ∧ 0 ≤ ((1 : Int32)).toInt ∧ i.toInt + ((1 : Int32)).toInt ≤ n'
      · simp only [hin, not_true_eq_false, if_false, and_self, if_true]
        rw [h1'] at hin
        obtain ⟨k, hk, rfl⟩ : ∃ k : Nat, k < n' ∧ i = nI k := by
          obtain ⟨k, hk, e⟩ := nI_of (x := i) (by rw [lt0]; omega)
          refine ⟨k, ?_, e⟩
          rw [e, nI_toInt hk] at hin
          omega
        unfold M_X5_write
        rw [inb_nI (show r < 8 by omega) (by omega), cl (by omega), c, d]
        simp only [if_true, sx8, sx16]
        have e1 : nI r * 40 + nI k = nI (r * 40 + k) := by rw [li 40, pk_mul, nI_add]
        have e2 : 40 * nI r + nI k = nI (r * 40 + k) := by rw [li 40, pk_mul, nI_add, Nat.mul_comm]
        have e3 : inb (nI (r * 40 + k)) 320 = true := inb_nI (by omega) (by omega)
        unfold jn
        simp only [e1, e2, e3, if_true]
        rw [cl (show r * 40 + k < 2 ^ 31 by omega)]
        have key : ∀ z : Int32, RelRow (rw_lanes rw, rw_sizes rw, upd (rw_items rw) (r * 40 + k) z) (ms_s_items S (upd (ms_items S) (r * 40 + k) z)) := fun z => ⟨fun q hq => by
          show upd _ _ _ q = upd _ _ _ q
          by_cases hqk : q = r * 40 + k
          · subst hqk; rw [upd_at, upd_at]
          · rw [upd_ne hqk, upd_ne hqk]; exact hR.1 q hq, hR.2⟩
        by_cases c1 : nI l' = 0
        · simp only [c1, if_true, ob, upd_at]
          exact ⟨_, _, _, _, rfl, rfl, ⟨hT.1, rfl⟩, key _, hP, hA, hB⟩
        · simp only [c1, if_false]
          by_cases c2 : nI l' = 1
          · simp only [c2, if_true, ob, upd_at]
            exact ⟨_, _, _, _, rfl, rfl, ⟨hT.1, rfl⟩, key _, hP, hA, hB⟩
          · simp only [c2, if_false, ob, upd_at]
            exact ⟨_, _, _, _, rfl, rfl, ⟨hT.1, rfl⟩, key _, hP, hA, hB⟩
      · simp only [hin, not_false_eq_true, if_true, if_false]
        rw [if_neg (show ¬ (2 : Int32) = 0 by decide)]
        exact ⟨_, _, _, _, rfl, rfl, ⟨hT.1, rfl⟩, hR, hP, hA, hB⟩
  · simp only [h1, not_false_eq_true, if_true]
    exact ⟨_, _, _, _, rfl, rfl, hT, hR, hP, hA, hB⟩
