/-! ===== sim: best ===== -/
theorem sim_best {tf : TF} {rw_ : RW} {tp : TP} {bs : IA} {L i0 i1 : BD} {ac : AC} {as : AS} {S : MS} (h : Rel tf rw_ tp bs L i0 i1 ac as S) (fs : FS) (M : BD) (x y z : Int32) :
    ∃ v fs' M' S', M_X7_best tf L fs M x y z = some (v, fs', M') ∧ M_X8_best S x y z = some (v, S') ∧ Rel tf rw_ tp bs L i0 i1 ac as S' := by
  unfold M_X7_best M_X8_best
  rcases h.tabs with ⟨e1, e2, e3, e4⟩ | ⟨pts, hm, n, fm, kd, ps, thr, trn, cub, ow, B, A, I⟩
  · rw [no_tab e1, e3]
    exact ⟨_, _, _, _, rfl, rfl, h⟩
  have hn := B.n8
  have hno := B.no (tf := tf)
  have hov := B.over (tf := tf)
  have hhas := B.has
  have B0 := B
  obtain ⟨c1, ok, okt, E, T, EM, TM, c6, hoo⟩ := B
  obtain ⟨S1, w1, w2, w3, w4⟩ := kp_wonNow EM hoo ok
  rw [hno, if_neg hhas, sp_isThrow7, sp_isThrow8, sp_within, sp_isChoice7, show (0 : Int64) = (0 : Int32).toInt64 from rfl, show (1 : Int64) = (1 : Int32).toInt64 from rfl, show (2 : Int64) = (2 : Int32).toInt64 from rfl, sp_in, sp_in, hov, w1]
  simp only [ob, if_true, b01_no]
  by_cases hx : 1 ≤ x ∧ x ≤ 6
  · obtain ⟨d, hd1, hd, rfl⟩ := thr_of hx
    have nx : ¬ ¬ (1 ≤ nI d ∧ nI d ≤ 6) := fun q => q hx
    simp only [nx, if_false]
    by_cases hy : 0 ≤ y ∧ y ≤ 2
    · have ny : ¬ ¬ (0 ≤ y ∧ y ≤ 2) := fun q => q hy
      simp only [ny, if_false]
      by_cases hz : 0 ≤ z ∧ z ≤ 1
      · have nz : ¬ ¬ (0 ≤ z ∧ z ≤ 1) := fun q => q hz
        simp only [nz, if_false, won_no]
        by_cases hw : winA pts n fm ps < 1000
        · simp only [hw, not_true_eq_false, if_false]
          exact ⟨_, _, _, _, rfl, rfl, h.kp w2 w3⟩
        · obtain ⟨e, -, he, rfl⟩ := rng_of (lo := 0) (hi := 2) rfl rfl (by omega) (by omega) hy
          obtain ⟨L1, p1, p2, p3⟩ := sp_copyFrom E hn M
          have B1 := B0.kp w2 w3.1
          have t8 : ms_now S1 ((8 : Int32)).toNatClampNeg = nI thr := B1.2.2.2.2.2.2.1.2.1
          have hS1 := (es_of EM hoo hn).kp w2
          have hE1 : ER pts n ps 0 S1 := er_rows EM hn w4
          obtain ⟨L', g1, g2⟩ := gw_all e he fs L1 ps thr d ok p2 okt.1 hd1 hd
          have hst : M_X3_startFrom fs L M = some L1 := by
            unfold M_X3_startFrom
            rw [p1]
            rfl
          simp only [hw, not_false_eq_true, if_true, hst, ob, T.2.1, g1, t8, jn]
          obtain ⟨a0, a1, a2⟩ := bs_all (pts := pts) (hm := hm) (n := n) (fm := fm) (kd := kd)
          have key : ∀ (W : Int32) (b : Int32) (S' : MS), b = W → Kp S S' → Kn S S' → ms_bests S' 0 = (grB pts hm n fm kd (wrA pts hm n fm kd e) ps thr d n).1 → W = grW pts hm n fm kd (wrA pts hm n fm kd e) ps thr d → ∃ v fs' M' S'', (if z = 0 then some ((grB pts hm n fm kd (wrA pts hm n fm kd e) ps thr d n).1, (grB pts hm n fm kd (wrA pts hm n fm kd e) ps thr d n).1, L') else some (grW pts hm n fm kd (wrA pts hm n fm kd e) ps thr d, (grB pts hm n fm kd (wrA pts hm n fm kd e) ps thr d n).1, L')) = some (v, fs', M') ∧ (if z = 0 then some (ms_bests S' 0, S') else some (W, S')) = some (v, S'') ∧ Rel tf rw_ tp bs L i0 i1 ac as S'' := by
            intro W b S' _ k1 k2 k3 k4
            subst k4
            by_cases c : z = 0
            · rw [if_pos c, if_pos c, k3]
              exact ⟨_, _, _, _, rfl, rfl, h.kp k1 k2⟩
            · rw [if_neg c, if_neg c]
              exact ⟨_, _, _, _, rfl, rfl, h.kp k1 k2⟩
          rcases (show e = 0 ∨ e = 1 ∨ e = 2 by omega) with rfl | rfl | rfl
          · obtain ⟨S', q1, q2, q3⟩ := a0 S1 ps thr d ok hS1 hE1 okt.1 hd1 hd
            have q1 : M_X8_best0 S1 (0 : Int32) (nI thr) (nI d) = _ := q1
            rw [if_pos (show nI 0 = (0 : Int32) from rfl), q1]
            exact key _ _ S' rfl (w2.trans q3.2.2.1) (w3.trans q3.2.2.2) q2 rfl
          · obtain ⟨S', q1, q2, q3⟩ := a1 S1 ps thr d ok hS1 hE1 okt.1 hd1 hd
            have q1 : M_X8_best1 S1 (0 : Int32) (nI thr) (nI d) = _ := q1
            rw [if_neg (show ¬ nI 1 = (0 : Int32) by decide), if_pos (show nI 1 = (1 : Int32) from rfl), q1]
            exact key _ _ S' rfl (w2.trans q3.2.2.1) (w3.trans q3.2.2.2) q2 rfl
          · obtain ⟨S', q1, q2, q3⟩ := a2 S1 ps thr d ok hS1 hE1 okt.1 hd1 hd
            have q1 : M_X8_best2 S1 (nI thr) (nI d) = _ := q1
            rw [if_neg (show ¬ nI 2 = (0 : Int32) by decide), if_neg (show ¬ nI 2 = (1 : Int32) by decide), q1]
            exact key _ _ S' rfl (w2.trans q3.2.2.1) (w3.trans q3.2.2.2) q2 rfl
      · simp only [hz, not_false_eq_true, if_true]
        exact ⟨_, _, _, _, rfl, rfl, h⟩
    · simp only [hy, not_false_eq_true, if_true]
      exact ⟨_, _, _, _, rfl, rfl, h⟩
  · simp only [hx, not_false_eq_true, if_true]
    exact ⟨_, _, _, _, rfl, rfl, h⟩
