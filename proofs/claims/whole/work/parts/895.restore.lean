/-! ===== restore ===== -/
def r8T (S0 : MS) (i1 : Int32) : Option (Int32 × MS) := ((lp (σ := Int32 × (Nat → Int32) × (Nat → Int32)) (β := (Nat → Int32) × (Nat → Int32)) (rL5 S0 i1) 1000000 ((0 : Int32), (ms_firms S0), (ms_kinds S0))).bind (fun b5 => ((lp (σ := Int32 × (Nat → Int32)) (β := (Nat → Int32)) (rL6 S0 i1) 1000000 ((0 : Int32), (ms_now S0))).bind (fun b6 => (if inb (((32 : Int32) * i1) + (20 : Int32)) 64 = true then (if inb (((32 : Int32) * i1) + (21 : Int32)) 64 = true then (if inb (((32 : Int32) * i1) + (22 : Int32)) 64 = true then (some ((1 : Int32), (ms_s_now (ms_s_kinds (ms_s_firms (ms_s_acts (ms_s_men (ms_s_home (ms_s_points S0 ((ms_images S0) ((((32 : Int32) * i1) + (20 : Int32))).toNatClampNeg)) ((ms_images S0) ((((32 : Int32) * i1) + (21 : Int32))).toNatClampNeg)) ((ms_images S0) ((((32 : Int32) * i1) + (22 : Int32))).toNatClampNeg)) (0 : Int32)) b5.1) b5.2) b6))) else none) else none) else none)))))
def rS7 (S : MS) (k : Nat) : MS := ms_s_now (ms_s_kinds (ms_s_firms (ms_s_acts (ms_s_men (ms_s_home (ms_s_points S (ms_images S (32 * k + 20))) (ms_images S (32 * k + 21))) (ms_images S (32 * k + 22))) 0) (asR 0 (ms_firms S) (fun m => ms_images S (32 * k + m) - ms_images S (32 * k + m) / 10 * 10) 8)) (asR 0 (ms_kinds S) (fun m => ms_images S (32 * k + m) / 10) 8)) (asR 0 (ms_now S) (fun c => ms_images S (32 * k + 8 + c)) 12)
theorem r8_is (S : MS) {k : Nat} (hk : k < 2) : r8T S (nI k) = some ((1 : Int32), rS7 S k) := by
  have e20 : nI (32 * k) + 20 = nI (32 * k + 20) := nI_add _ 20
  have e21 : nI (32 * k) + 21 = nI (32 * k + 21) := nI_add _ 21
  have e22 : nI (32 * k) + 22 = nI (32 * k + 22) := nI_add _ 22
  unfold r8T
  rw [r_loop5 S hk, e32, e20, e21, e22]
  simp only [ob]
  rw [r_loop6 S hk]
  simp only [ob]
  rw [if_pos (inb_nI (show 32 * k + 20 < 64 by omega) (by omega)), if_pos (inb_nI (show 32 * k + 21 < 64 by omega) (by omega)), if_pos (inb_nI (show 32 * k + 22 < 64 by omega) (by omega)), cl (show 32 * k + 20 < 2 ^ 31 by omega), cl (show 32 * k + 21 < 2 ^ 31 by omega), cl (show 32 * k + 22 < 2 ^ 31 by omega)]
  rfl
theorem rS7_kr (S : MS) (k : Nat) : Kr S (rS7 S k) := ((((((kr_points S _).trans (kr_home _ _)).trans (kr_men _ _)).trans (kr_acts _ _)).trans (kr_firms _ _)).trans (kr_kinds _ _)).trans (kr_now _ _)
theorem rS7_points (S : MS) (k : Nat) : ms_points (rS7 S k) = ms_images S (32 * k + 20) := rfl
theorem rS7_home (S : MS) (k : Nat) : ms_home (rS7 S k) = ms_images S (32 * k + 21) := rfl
theorem rS7_men (S : MS) (k : Nat) : ms_men (rS7 S k) = ms_images S (32 * k + 22) := rfl
theorem rS7_firms (S : MS) (k : Nat) : ms_firms (rS7 S k) = asR 0 (ms_firms S) (fun m => ms_images S (32 * k + m) - ms_images S (32 * k + m) / 10 * 10) 8 := rfl
theorem rS7_kinds (S : MS) (k : Nat) : ms_kinds (rS7 S k) = asR 0 (ms_kinds S) (fun m => ms_images S (32 * k + m) / 10) 8 := rfl
theorem rS7_now (S : MS) (k : Nat) : ms_now (rS7 S k) = asR 0 (ms_now S) (fun c => ms_images S (32 * k + 8 + c)) 12 := rfl
theorem rS7_acts (S : MS) (k : Nat) : ms_acts (rS7 S k) = 0 := rfl
theorem rS7_rest (S : MS) (k : Nat) : ms_hasTable (rS7 S k) = ms_hasTable S ∧ ms_otherOne (rS7 S k) = ms_otherOne S ∧ ms_imaged (rS7 S k) = ms_imaged S ∧ ms_images (rS7 S k) = ms_images S := ⟨rfl, rfl, rfl, rfl⟩
/-- what an image gives back -/
theorem restore_B {k : Nat} {I i0 i1 : BD} {S : MS} {ac : AC} {pts0 n0 : Nat} (hk : k < 2) (h : RelImg k I S 1) (ht : ms_hasTable S = 1) (ho : ms_otherOne S = -1000000) (A : RelAct pts0 n0 ac S) (Im : RelIm i0 i1 S) (M : BD) : ∃ L', M_X2_copyFrom I M = some L' ∧ ¬ bd_men I = 0 ∧ RelB L' i0 i1 (ac_s_kept ac 0) (rS7 S k) := by
  rcases h with ⟨h, _⟩ | ⟨-, pts, hm, n, fm, kd, ps, thr, trn, cub, ow, c1, ok, okt, E, T, p6, p7, p8, p9, p10⟩
  · omega
  have hn : n ≤ 8 := ok.2.2.2.2.1
  obtain ⟨L', g1, g2, g3⟩ := sp_copyFrom E hn M
  obtain ⟨q1, q2, q3, q4⟩ := rS7_rest S k
  refine ⟨L', g1, ?_, relB_of (pts := pts) (hm := hm) (n := n) (fm := fm) (kd := kd) (ps := ps) (thr := thr) (trn := trn) (cub := cub) (ow := ow) ⟨c1, ok, okt, g2, T.same g3, ⟨?_, ?_, ?_, fun i hi => ⟨?_, ?_, ?_⟩⟩, ⟨?_, ?_, ?_, ?_⟩, q1.trans ht, q2.trans ho⟩ ?_ ?_⟩
  · rw [E.2.2.1]
    exact fun z => absurd ((eqI (b := 0) (by omega) (by omega)).1 z) (by omega)
  · rw [rS7_points]; exact p8
  · rw [rS7_home]; exact p9
  · rw [rS7_men]; exact p10
  · have o1 := (ok.2.2.2.2.2 i hi).1
    have o3 := (ok.2.2.2.2.2 i hi).2.2.1
    rw [rS7_firms, asR0_in (by omega), (p6 i hi).1, show ((10 : Int32)) = nI 10 from rfl, pk_rem (by omega) (by omega) (by omega)]
    congr 1
    omega
  · have o1 := (ok.2.2.2.2.2 i hi).1
    have o3 := (ok.2.2.2.2.2 i hi).2.2.1
    rw [rS7_kinds, asR0_in (by omega), (p6 i hi).1, show ((10 : Int32)) = nI 10 from rfl, pk_div (by omega) (by omega) (by omega)]
    congr 1
    omega
  · rw [rS7_now, asR0_in (by omega)]; exact (p6 i hi).2
  · rw [rS7_now, asR0_in (by omega)]; exact p7.1
  · rw [rS7_now, asR0_in (by omega)]; exact p7.2.1
  · rw [rS7_now, asR0_in (by omega)]; exact p7.2.2.1
  · rw [rS7_now, asR0_in (by omega)]; exact p7.2.2.2
  · obtain ⟨K, N, k1, k2, k3, k4, k5, k6⟩ := A
    exact ⟨0, N, by omega, k2, rfl, k4, rS7_acts S k, fun j hj => absurd hj (Nat.not_lt_zero j)⟩
  · obtain ⟨m0, m1, im, I0, I1⟩ := Im
    exact ⟨m0, m1, q3.trans im, I0.out (fun c hc => by rw [q4]), I1.out (fun c hc => by rw [q4])⟩
theorem sim_restore {tf : TF} {rw_ : RW} {tp : TP} {bs : IA} {L i0 i1 : BD} {ac : AC} {as : AS} {S : MS} (h : Rel tf rw_ tp bs L i0 i1 ac as S) (x : Int32) :
    ∃ v L' ac' S', M_X7_restore tf i0 i1 L ac x = some (v, L', ac') ∧ M_X8_restore S x = some (v, S') ∧ Rel tf rw_ tp bs L' i0 i1 ac' as S' := by
  unfold M_X7_restore M_X8_restore
  rw [sp_within, show (0 : Int64) = (0 : Int32).toInt64 from rfl, show (1 : Int64) = (1 : Int32).toInt64 from rfl, sp_in]
  simp only [ob, b01_no]
  by_cases hx : 0 ≤ x ∧ x ≤ 1
  · obtain ⟨k, hk, rfl⟩ := firm_of hx
    have nx : ¬ ¬ (0 ≤ nI k ∧ nI k ≤ 1) := fun q => q hx
    simp only [nx, if_false]
    have h0 := h
    obtain ⟨hT, hR, hP, hA, pts, hm, n, fm, kd, ps, thr, trn, cub, ow, hcase, E, EM, A, hoo, m0, m1, im, I0, I1⟩ := h
    have l0 := I0.lt
    have l1 := I1.lt
    have Im : RelIm i0 i1 S := ⟨m0, m1, im, I0, I1⟩
    have hb := has_bit hk l0 l1
    have htab : m0 + 2 * m1 ≠ 0 → ms_hasTable S = 1 := fun hne => by
      rcases hcase with c | c
      · exact absurd ((eqI (a := m0 + 2 * m1) (b := 0) (by omega) (by omega)).1 (im.symm.trans c.2.2.2.2.2.2.2)) hne
      · exact c.2.2.2.2.2
    rw [im, hb]
    simp only [ob]
    rcases (show k = 0 ∨ k = 1 by omega) with rfl | rfl
    · rw [if_pos (show nI 0 = (0 : Int32) from rfl), if_pos (show nI 0 = (0 : Int32) from rfl), if_pos (show (0 : Nat) = 0 from rfl)]
      rcases (show m0 = 0 ∨ m0 = 1 by omega) with rfl | rfl
      · have hmen : bd_men i0 = 0 := by
          rcases I0 with c | c
          · exact c.2
          · omega
        rw [if_pos hmen, if_pos (show nI 0 = (0 : Int32) from rfl)]
        exact ⟨_, _, _, _, rfl, rfl, h0⟩
      · obtain ⟨L', g1, g2, g3⟩ := restore_B (k := 0) (by omega) I0 (htab (by omega)) hoo A Im L
        rw [if_neg g2, g1, if_neg (show ¬ nI 1 = (0 : Int32) by decide)]
        exact ⟨_, _, _, _, rfl, r8_is S (k := 0) (by omega), h0.kr (rS7_kr S 0) g3⟩
    · rw [if_neg (show ¬ nI 1 = (0 : Int32) by decide), if_pos (show nI 1 = (1 : Int32) from rfl), if_neg (show ¬ nI 1 = (0 : Int32) by decide), if_pos (show nI 1 = (1 : Int32) from rfl), if_neg (show ¬ (1 : Nat) = 0 by omega)]
      rcases (show m1 = 0 ∨ m1 = 1 by omega) with rfl | rfl
      · have hmen : bd_men i1 = 0 := by
          rcases I1 with c | c
          · exact c.2
          · omega
        rw [if_pos hmen, if_pos (show nI 0 = (0 : Int32) from rfl)]
        exact ⟨_, _, _, _, rfl, rfl, h0⟩
      · obtain ⟨L', g1, g2, g3⟩ := restore_B (k := 1) (by omega) I1 (htab (by omega)) hoo A Im L
        rw [if_neg g2, g1, if_neg (show ¬ nI 1 = (0 : Int32) by decide)]
        exact ⟨_, _, _, _, rfl, r8_is S (k := 1) (by omega), h0.kr (rS7_kr S 1) g3⟩
  · simp only [hx, not_false_eq_true, if_true]
    exact ⟨_, _, _, _, rfl, rfl, h⟩
