/-! ===== copy ===== -/
def cpL (i1 i2 i3 i4 i5 v18 : Int32) : (Int32 × (Nat → Int32) → Option (Nat → Int32)) → Int32 × (Nat → Int32) → Option (Nat → Int32) := (fun rec19 st19 => (if i5 ≤ st19.1 then (some st19.2) else (jn (σ := Int32) (fun v22 => (if inb ((((40 : Int32) * i1) + i2) + v22) 320 = true then (if inb ((((40 : Int32) * i3) + i4) + v22) 320 = true then (rec19 ((st19.1 + (1 : Int32)), (upd st19.2 (((((40 : Int32) * i3) + i4) + v22)).toNatClampNeg (st19.2 (((((40 : Int32) * i1) + i2) + v22)).toNatClampNeg)))) else none) else none)) (fun J22 => (if v18 = 0 then (J22 ((i5 - (1 : Int32)) - st19.1)) else (J22 st19.1))))))
theorem cp_loop {a b p q m : Nat} (ha : a < 8) (hb : b < 8) (hp : p + m ≤ 40) (hq : q + m ≤ 40) (f : Nat → Int32) : lp (cpL (nI a) (nI p) (nI b) (nI q) (nI m) (if nI p < nI q then 0 else 1)) 1000000 ((0 : Int32), f) = some (fb_put f (fun c => f (40 * a + p + c)) (40 * b + q) m) := by
  have e1 : (40 : Int32) * nI a + nI p = nI (40 * a + p) := by rw [show ((40 : Int32)) = nI 40 from rfl, pk_mul, nI_add]
  have e2 : (40 : Int32) * nI b + nI q = nI (40 * b + q) := by rw [show ((40 : Int32)) = nI 40 from rfl, pk_mul, nI_add]
  by_cases c : p < q
  · have c' : nI p < nI q := (ltI (by omega) (by omega)).2 c
    rw [if_pos c']
    refine lp_at (fun k => (nI k, fb_put f (fun c => f (40 * a + p + (c + (m - k)))) (40 * b + q + (m - k)) (m - (m - k)))) m _ ?_ ?_ ?_ (by omega)
    · refine congrArg (Prod.mk _) ?_
      rw [show m - (m - 0) = 0 by omega, fb_put_0]
    · intro k rec hk
      have h1 : ¬ nI m ≤ nI k := nI_ge hk (by omega)
      have e3 : nI m - 1 - nI k = nI (m - 1 - k) := by
        rw [show nI m - (1 : Int32) = nI (m - 1) from subI (a := m) (b := 1) (by omega)]
        exact subI (by omega)
      have hd := fb_put_down f (fun c => f (40 * a + p + c)) (a := 40 * b + q) (n := m) (m := m - 1 - k) (by omega)
      rw [show m - 1 - k + 1 = m - k by omega] at hd
      have hr : fb_put f (fun c => f (40 * a + p + (c + (m - k)))) (40 * b + q + (m - k)) (m - (m - k)) (40 * a + p + (m - 1 - k)) = f (40 * a + p + (m - 1 - k)) := fb_put_out (by omega)
      simp only [cpL, jn, h1, if_false, if_true, e1, e2, e3, nI_add]
      rw [inb_nI (show 40 * a + p + (m - 1 - k) < 320 by omega) (by omega), inb_nI (show 40 * b + q + (m - 1 - k) < 320 by omega) (by omega), cl (show 40 * a + p + (m - 1 - k) < 2 ^ 31 by omega), cl (show 40 * b + q + (m - 1 - k) < 2 ^ 31 by omega), hr, nI_p1]
      simp only [if_true]
      rw [hd, show m - (k + 1) = m - 1 - k by omega]
    · intro rec
      have h1 : nI m ≤ nI m := nI_le (Nat.le_refl m) (by omega)
      simp only [cpL, h1, if_true]
      rw [Nat.sub_self]
      rfl
  · have c' : ¬ nI p < nI q := fun z => c ((ltI (by omega) (by omega)).1 z)
    rw [if_neg c']
    refine lp_at (fun k => (nI k, fb_put f (fun c => f (40 * a + p + c)) (40 * b + q) k)) m _ ?_ ?_ ?_ (by omega)
    · rw [fb_put_0]; rfl
    · intro k rec hk
      have h1 : ¬ nI m ≤ nI k := nI_ge hk (by omega)
      have hd := fb_put_succ f (fun c => f (40 * a + p + c)) (40 * b + q) k
      have hr : fb_put f (fun c => f (40 * a + p + c)) (40 * b + q) k (40 * a + p + k) = f (40 * a + p + k) := fb_put_out (by omega)
      simp only [cpL, jn, h1, if_false, show ¬ (1 : Int32) = 0 by decide, e1, e2, nI_add]
      rw [inb_nI (show 40 * a + p + k < 320 by omega) (by omega), inb_nI (show 40 * b + q + k < 320 by omega) (by omega), cl (show 40 * a + p + k < 2 ^ 31 by omega), cl (show 40 * b + q + k < 2 ^ 31 by omega), hr, nI_p1]
      simp only [if_true]
      rw [hd]
    · intro rec
      have h1 : nI m ≤ nI m := nI_le (Nat.le_refl m) (by omega)
      simp only [cpL, h1, if_true]
theorem ne_m1' {x : Int32} {n : Nat} (h : x = nI n) (hn : n < 2 ^ 31) : ¬ x < 0 := by
  rw [h]
  exact nI_pos hn
theorem sim_copy {tf : TF} {rw_ : RW} {tp : TP} {bs : IA} {L i0 i1 : BD} {ac : AC} {as : AS} {S : MS} (h : Rel tf rw_ tp bs L i0 i1 ac as S) (x i y j z : Int32) :
    ∃ v tf' rw' S', M_X7_copy tf rw_ x i y j z = some (v, tf', rw') ∧ M_X8_copy S x i y j z = some (v, S') ∧ Rel tf' rw' tp bs L i0 i1 ac as S' := by
  obtain ⟨hT, hR, hP, hA, hB⟩ := h
  have found : ∀ w : Int32, Rel (tf_s_latestFinding tf w) rw_ tp bs L i0 i1 ac as (ms_s_status S w) := fun w => ⟨⟨hT.1, rfl⟩, hR, hP, hA, hB⟩
  unfold M_X7_copy M_X8_copy
  rw [sp_isRow7, sp_isRow8, sp_isRow7, sp_isRow8]
  simp only [ob, b01_no]
  by_cases h1 : 0 ≤ x ∧ x ≤ 7
  · obtain ⟨a, ha, rfl⟩ := row_of h1
    have n1 : ¬ ¬ (0 ≤ nI a ∧ nI a ≤ 7) := fun q => q h1
    simp only [n1, if_false]
    by_cases h2 : 0 ≤ y ∧ y ≤ 7
    · obtain ⟨b, hb, rfl⟩ := row_of h2
      have n2 : ¬ ¬ (0 ≤ nI b ∧ nI b ≤ 7) := fun q => q h2
      simp only [n2, if_false]
      unfold M_X5_copyFinding
      rw [sp_isMissing rw_ ha, sp_isMissing rw_ hb, inb_nI ha (by omega), inb_nI hb (by omega), cl (show a < 2 ^ 31 by omega), cl (show b < 2 ^ 31 by omega)]
      simp only [ob, b01_no, if_true, jn]
      rcases hR.2 a ha with ⟨m1, m2⟩ | ⟨la, na, q1, q2, q3, q4, q5, q6⟩
      · rw [m1, m2]
        simp only [show (-1 : Int32) < 0 by decide, not_true_eq_false, if_false, if_true, M_X7_found, M_X8_found, ob, show ¬ (1 : Int32) = 0 by decide]
        exact ⟨_, _, _, _, rfl, rfl, found 1⟩
      · rw [if_pos (ne_m1 q3 (by omega)), if_neg (ne_m1' q6 (by omega))]
        rcases hR.2 b hb with ⟨m1, m2⟩ | ⟨lb, nb, r1, r2, r3, r4, r5, r6⟩
        · rw [m1, m2]
          simp only [show ¬ (0 : Int32) ≤ -1 by decide, not_true_eq_false, if_false, M_X7_found, M_X8_found, ob, show ¬ (1 : Int32) = 0 by decide]
          exact ⟨_, _, _, _, rfl, rfl, found 1⟩
        · rw [if_pos (ne_m1 r3 (by omega)), r6, if_pos (nI_pos' (by omega)), q3, q4, r3, r4]
          simp only [eqI (show la < 2 ^ 31 by omega) (show lb < 2 ^ 31 by omega)]
          by_cases hl : la = lb
          · rw [if_pos hl, if_pos hl, sp_hasItems rw_ ha q2 q5, sp_hasItems rw_ hb r2 r5, sp_isSpan S ha q2 q6, sp_isSpan S hb r2 r6]
            simp only [ob, b01_no]
            by_cases s1 : 0 ≤ i.toInt ∧ 0 ≤ z.toInt ∧ i.toInt + z.toInt ≤ na
            · have ns1 : ¬ ¬ (0 ≤ i.toInt ∧ 0 ≤ z.toInt ∧ i.toInt + z.toInt ≤ na) := fun w => w s1
              simp only [ns1, if_false]
              by_cases s2 : 0 ≤ j.toInt ∧ 0 ≤ z.toInt ∧ j.toInt + z.toInt ≤ nb
              · have ns2 : ¬ ¬ (0 ≤ j.toInt ∧ 0 ≤ z.toInt ∧ j.toInt + z.toInt ≤ nb) := fun w => w s2
                simp only [ns2, if_false]
                obtain ⟨p, hp, rfl⟩ := nI_of (x := i) (by rw [lt0]; omega)
                obtain ⟨q, hq, rfl⟩ := nI_of (x := j) (by rw [lt0]; omega)
                obtain ⟨m, hm, rfl⟩ := nI_of (x := z) (by rw [lt0]; omega)
                rw [nI_toInt hp, nI_toInt hm] at s1
                rw [nI_toInt hq, nI_toInt hm] at s2
                have e1 : nI a * 40 + nI p = nI (a * 40 + p) := by rw [li 40, pk_mul, nI_add]
                have e2 : nI b * 40 + nI q = nI (b * 40 + q) := by rw [li 40, pk_mul, nI_add]
                have hcarry : M_X5_carry rw_ (nI a) (nI p) (nI b) (nI q) (nI m) = some (rw_s_items rw_ (va_cpy (rw_items rw_) (rw_items rw_) (a * 40 + p) (b * 40 + q) m)) := by
                  unfold M_X5_carry
                  rw [e1, e2, cl (show a * 40 + p < 2 ^ 31 by omega), cl (show b * 40 + q < 2 ^ 31 by omega), cl hm, if_pos]
                  exact ⟨⟨nI_pos (by omega), nI_pos (by omega), nI_pos hm⟩, by omega, by omega⟩
                have hlp := cp_loop (a := a) (b := b) (p := p) (q := q) (m := m) ha hb (by omega) (by omega) (ms_items S)
                have hRel : Rel (tf_s_latestFinding tf 0) (rw_s_items rw_ (va_cpy (rw_items rw_) (rw_items rw_) (a * 40 + p) (b * 40 + q) m)) tp bs L i0 i1 ac as (ms_s_status (ms_s_items S (fb_put (ms_items S) (fun c => ms_items S (40 * a + p + c)) (40 * b + q) m)) 0) := by
                  refine ⟨⟨hT.1, rfl⟩, ⟨fun k hk => ?_, hR.2⟩, hP, hA, hB⟩
                  show va_cpy (rw_items rw_) (rw_items rw_) (a * 40 + p) (b * 40 + q) m k = fb_put (ms_items S) (fun c => ms_items S (40 * a + p + c)) (40 * b + q) m k
                  by_cases c : b * 40 + q ≤ k ∧ k < b * 40 + q + m
                  · rw [pk_cpy_in c.1 c.2, fb_put_in (by omega) (by omega), hR.1 _ (by omega)]
                    congr 1
                    omega
                  · rw [pk_cpy_out (by omega), fb_put_out (by omega)]
                    exact hR.1 k hk
                simp only [if_true, ob, hcarry, M_X7_unfound]
                by_cases c : nI p < nI q
                · rw [if_pos c] at hlp ⊢
                  exact ⟨_, _, _, _, rfl, (bind_of hlp).trans rfl, hRel⟩
                · rw [if_neg c] at hlp ⊢
                  exact ⟨_, _, _, _, rfl, (bind_of hlp).trans rfl, hRel⟩
              · simp only [s2, not_false_eq_true, if_true, M_X7_found, M_X8_found, ob, show ¬ (2 : Int32) = 0 by decide, if_false]
                exact ⟨_, _, _, _, rfl, rfl, found 2⟩
            · simp only [s1, not_false_eq_true, if_true, M_X7_found, M_X8_found, ob, show ¬ (2 : Int32) = 0 by decide, if_false]
              exact ⟨_, _, _, _, rfl, rfl, found 2⟩
          · rw [if_neg hl, if_neg hl]
            simp only [M_X7_found, M_X8_found, ob, show ¬ (5 : Int32) = 0 by decide, if_false]
            exact ⟨_, _, _, _, rfl, rfl, found 5⟩
    · simp only [h2, not_false_eq_true, if_true]
      exact ⟨_, _, _, _, rfl, rfl, hT, hR, hP, hA, hB⟩
  · simp only [h1, not_false_eq_true, if_true]
    exact ⟨_, _, _, _, rfl, rfl, hT, hR, hP, hA, hB⟩
