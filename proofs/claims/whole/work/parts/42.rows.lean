/-! ===== rows: row, set, drop, copy ===== -/
theorem ob {α β : Type} {a : α} {f : α → Option β} : (some a).bind f = f a := rfl
theorem or0 {x : Int32} : x &&& 0 = 0 := by simp
theorem sp_isMissing (rw : RW) {r : Nat} (hr : r < 8) : M_X5_isMissing rw (nI r) = some (b01 (rw_lanes rw r = -1)) := by
  unfold M_X5_isMissing
  rw [if_pos (inb_nI hr (by omega)), cl (by omega)]
  by_cases h : rw_lanes rw r = -1
  · rw [if_pos h, b01_t h]
  · rw [if_neg h, b01_f h]
/-- the items of a row become 0, on both sides alike -/
def zero_row (f : Nat → Int32) (a n : Nat) : Nat → Int32 := fun k => if a ≤ k ∧ k < a + n then 0 else f k
theorem zero_step (f : Nat → Int32) (a j : Nat) : upd (zero_row f a j) (a + j) 0 = zero_row f a (j + 1) := by
  funext k
  by_cases hk : k = a + j
  · subst hk
    rw [upd_at]
    unfold zero_row
    rw [if_pos (by omega)]
  · rw [upd_ne hk]
    unfold zero_row
    by_cases h : a ≤ k ∧ k < a + j
    · rw [if_pos h, if_pos (by omega)]
    · rw [if_neg h, if_neg (by omega)]
theorem zero_0 (f : Nat → Int32) (a : Nat) : zero_row f a 0 = f := by
  funext k
  unfold zero_row
  rw [if_neg (by omega)]
theorem sp_make (rw : RW) {r n : Nat} (hr : r < 8) (hn : n ≤ 40) (ln : Int32) : M_X5_make rw (nI r) ln (nI n) = some (upd (rw_lanes rw) r ln, upd (rw_sizes rw) r (nI n), zero_row (rw_items rw) (r * 40) n) := by
  unfold M_X5_make
  rw [if_pos (inb_nI hr (by omega)), cl (by omega)]
  refine lp_at (fun k => (nI k, zero_row (rw_items rw) (r * 40) k)) n _ ?_ ?_ ?_ (by omega)
  · rw [zero_0]; rfl
  · intro k rec hk
    have h1 : ¬ nI n ≤ nI k := nI_ge hk (by omega)
    have h2 : nI r * 40 + nI k = nI (r * 40 + k) := by rw [li 40, pk_mul, nI_add]
    have h3 : inb (nI (r * 40 + k)) 320 = true := inb_nI (by omega) (by omega)
    simp only [h1, h2, h3, if_true, if_false]
    rw [cl (by omega), zero_step]
    exact congrArg rec (Prod.ext (nI_1 k) rfl)
  · intro rec
    have h1 : nI n ≤ nI n := nI_le (Nat.le_refl n) (by omega)
    simp only [h1, if_true]
theorem sim_row {tf : TF} {rw : RW} {tp : TP} {bs : IA} {L i0 i1 : BD} {ac : AC} {as : AS} {S : MS} (h : Rel tf rw tp bs L i0 i1 ac as S) (r ln n : Int32) : ∃ v tf' rw' S', M_X7_row tf rw r ln n = some (v, tf', rw') ∧ M_X8_row S r ln n = some (v, S') ∧ Rel tf' rw' tp bs L i0 i1 ac as S' := by
  obtain ⟨hT, hR, hP, hA, hB⟩ := h
  unfold M_X7_row M_X8_row
  rw [sp_isRow7, sp_isRow8, sp_within, show (0 : Int64) = (0 : Int32).toInt64 from rfl, show (2 : Int64) = (2 : Int32).toInt64 from rfl, sp_in]
  simp only [ob, b01_0]
  by_cases h1 : 0 ≤ r ∧ r ≤ 7
  · simp only [h1, not_true_eq_false, if_false, and_self]
    by_cases h2 : 0 ≤ ln ∧ ln ≤ 2
    · simp only [h2, not_true_eq_false, if_false, and_self]
      by_cases h3 : n ≤ 40
      · simp only [h3, if_true]
        by_cases h4 : 0 ≤ n
        · simp only [h4, if_true]
          obtain ⟨r, hr, rfl⟩ := nat_of (m := 7) rfl (by omega) h1
          obtain ⟨ln, hln, rfl⟩ := nat_of (m := 2) rfl (by omega) h2
          obtain ⟨n, hn, rfl⟩ := nat_of (m := 40) rfl (by omega) ⟨h4, h3⟩
          rw [sp_make rw (by omega) hn, inb_nI (show r < 8 by omega) (by omega), cl (by omega)]
          have hlp : lp (σ := Int32 × (Nat → Int32)) (β := (Nat → Int32)) (fun rec8 st8 => (if (nI n) ≤ st8.1 then (some st8.2) else (if inb (((40 : Int32) * (nI r)) + st8.1) 320 = true then (rec8 ((st8.1 + (1 : Int32)), (upd st8.2 ((((40 : Int32) * (nI r)) + st8.1)).toNatClampNeg (0 : Int32)))) else none))) 1000000 ((0 : Int32), (ms_items S)) = some (zero_row (ms_items S) (r * 40) n) := by
            refine lp_at (fun k => (nI k, zero_row (ms_items S) (r * 40) k)) n _ ?_ ?_ ?_ (by omega)
            · rw [zero_0]; rfl
            · intro k rec hk
              have h1 : ¬ nI n ≤ nI k := nI_ge hk (by omega)
              have h2 : 40 * nI r + nI k = nI (r * 40 + k) := by rw [li 40, pk_mul, nI_add, Nat.mul_comm]
              have h3 : inb (nI (r * 40 + k)) 320 = true := inb_nI (by omega) (by omega)
              simp only [h1, h2, h3, if_true, if_false]
              rw [cl (by omega), zero_step]
              exact congrArg rec (Prod.ext (nI_1 k) rfl)
            · intro rec
              have h1 : nI n ≤ nI n := nI_le (Nat.le_refl n) (by omega)
              simp only [h1, if_true]
          rw [hlp]
          simp only [ob, if_true]
          refine ⟨_, _, _, _, rfl, rfl, ⟨hT.1, rfl⟩, ⟨fun k hk => ?_, fun q hq => ?_⟩, hP, hA, hB⟩
          · show zero_row _ _ _ k = zero_row _ _ _ k
            unfold zero_row
            split
            · rfl
            · exact hR.1 k hk
          · show (upd _ _ _ q = -1 ∧ upd _ _ _ q = -1) ∨ _
            by_cases hqr : q = r
            · subst hqr
              refine Or.inr ⟨ln, n, by omega, hn, ?_, ?_, ?_, ?_⟩ <;> exact upd_at
            · rcases hR.2 q hq with ⟨a, b⟩ | ⟨l', n', a, b, c, d, e, f⟩
              · exact Or.inl ⟨(upd_ne hqr).trans a, (upd_ne hqr).trans b⟩
              · exact Or.inr ⟨l', n', a, b, (upd_ne hqr).trans c, (upd_ne hqr).trans d, (upd_ne hqr).trans e, (upd_ne hqr).trans f⟩
        · simp only [h4, if_false]
          exact ⟨_, _, _, _, rfl, rfl, ⟨hT.1, rfl⟩, hR, hP, hA, hB⟩
      · simp only [h3, if_false]
        exact ⟨_, _, _, _, rfl, rfl, hT, hR, hP, hA, hB⟩
    · simp only [h2, not_false_eq_true, if_true]
      exact ⟨_, _, _, _, rfl, rfl, hT, hR, hP, hA, hB⟩
  · simp only [h1, not_false_eq_true, if_true]
    exact ⟨_, _, _, _, rfl, rfl, hT, hR, hP, hA, hB⟩
