/-! ===== twice, lay, undo ===== -/
theorem EC.tw {pts hm n : Nat} {fm kd ps : Nat → Nat} {L : BD} (E : EC pts hm n fm kd ps L) (a b : Int32) : EC pts hm n fm kd ps (bd_s_owner (bd_s_cube L a) b) := E
theorem emb_now {pts hm n : Nat} {fm kd ps qs : Nat → Nat} {S S' : MS} (EM : EMb pts hm n fm kd ps S) (k : Kp S S') (h : ∀ i, i < n → ms_now S' i = nI (trc pts (qs i))) : EMb pts hm n fm kd qs S' := by
  obtain ⟨-, ⟨c1, c2, c3, c4, c5, c6, c7, c8⟩, -⟩ := k
  obtain ⟨e1, e2, e3, e4⟩ := EM
  exact ⟨c1.trans e1, c2.trans e2, c3.trans e3, fun i hi => ⟨by rw [c4]; exact (e4 i hi).1, by rw [c5]; exact (e4 i hi).2.1, h i hi⟩⟩
theorem sim_twice {tf : TF} {rw_ : RW} {tp : TP} {bs : IA} {L i0 i1 : BD} {ac : AC} {as : AS} {S : MS} (h : Rel tf rw_ tp bs L i0 i1 ac as S) :
    ∃ v L' ac' S', M_X7_twice tf L ac = some (v, L', ac') ∧ M_X8_twice S = some (v, S') ∧ Rel tf rw_ tp bs L' i0 i1 ac' as S' := by
  unfold M_X7_twice M_X8_twice
  rcases h.tabs with ⟨e1, e2, e3, e4⟩ | ⟨pts, hm, n, fm, kd, ps, thr, trn, cub, ow, B, A, I⟩
  · rw [no_tab e1, e3]
    exact ⟨_, _, _, _, rfl, rfl, h⟩
  have hn := B.n8
  have hno := B.no (tf := tf)
  have hov := B.over (tf := tf)
  have hhas := B.has
  have B0 := B
  obtain ⟨c1, ok, okt, E, T, EM, TM, c6, hoo⟩ := B
  obtain ⟨S1, w1, w2, w3, w4⟩ := kp_wonNow EM hoo ok
  rw [hno, if_neg hhas, hov, w1]
  simp only [ob, if_true, b01_no, won_no]
  by_cases hw : winA pts n fm ps < 1000
  · simp only [hw, not_true_eq_false, if_false]
    exact ⟨_, _, _, _, rfl, rfl, h.kp w2 w3⟩
  · have B1 := B0.kp w2 w3.1
    have TM1 := B1.2.2.2.2.2.2.1
    have t8 : ms_now S1 ((8 : Int32)).toNatClampNeg = nI thr := TM1.2.1
    have t9 : ms_now S1 ((9 : Int32)).toNatClampNeg = nI cub := TM1.2.2.1
    have t10 : ms_now S1 ((10 : Int32)).toNatClampNeg = ow := TM1.2.2.2
    have ot := okt.2.1
    have oh := okt.1
    obtain ⟨j, hj, hcub⟩ := okt.2.2.1
    have hcl : cub ≤ 64 := by
      have : 2 ^ j ≤ 2 ^ 6 := Nat.pow_le_pow_right (by omega) hj
      omega
    have e1t : (1 : Int32) - nI thr = nI (1 - thr) := one_sub oh
    simp only [hw, not_false_eq_true, if_true, t8, t9, t10, T.2.1, T.2.2.1, T.2.2.2, show ((64 : Int32)) = nI 64 from rfl, ltI (show cub < 2 ^ 31 by omega) (show 64 < 2 ^ 31 by omega), eqI (show cub < 2 ^ 31 by omega) (show 64 < 2 ^ 31 by omega), e1t]
    by_cases co : ow = nI (1 - thr)
    · rw [if_pos co, if_pos co]
      exact ⟨_, _, _, _, rfl, rfl, h.kp w2 w3⟩
    · rw [if_neg co, if_neg co]
      by_cases c64 : cub < 64
      · rw [if_pos c64, if_neg (show ¬ cub = 64 by omega)]
        obtain ⟨ac', S2, g1, g2, g3, g4, g5, g6⟩ := kp_keep (A.kn w3.2.1 w3.2.2) B1
        rw [g1, g2]
        simp only [ob]
        have ec : (2 : Int32) * nI cub = nI (2 * cub) := pk_mul 2 cub
        have ec2 : nI cub * (2 : Int32) = nI (2 * cub) := by rw [show ((2 : Int32)) = nI 2 from rfl, pk_mul, Nat.mul_comm]
        have n9 : ((9 : Int32)).toNatClampNeg = 9 := rfl
        have n8 : ((8 : Int32)).toNatClampNeg = 8 := rfl
        have n10 : ((10 : Int32)).toNatClampNeg = 10 := rfl
        have t8' : ms_now S2 8 = nI thr := by rw [g5]; exact t8
        have t9' : ms_now S2 9 = nI cub := by rw [g5]; exact t9
        rw [n9, n8, n10, t9', upd_ne (show 8 ≠ 9 by omega), t8', e1t, ec, ec2, upd_ne (show 9 ≠ 10 by omega), upd_at]
        have hj5 : j ≤ 5 := by
          rcases Nat.lt_or_ge j 6 with c | c
          · omega
          · have e6 : j = 6 := by omega
            rw [e6] at hcub
            omega
        have k3 := (w2.trans g4).trans (kp_now S2 (upd (upd (ms_now S2) 9 (nI (2 * cub))) 10 (nI (1 - thr))))
        have hnw : ∀ c, c ≠ 9 → c ≠ 10 → upd (upd (ms_now S2) 9 (nI (2 * cub))) 10 (nI (1 - thr)) c = ms_now S c := fun c a1 a2 => by rw [upd_ne a2, upd_ne a1, g5, w3.1]
        refine ⟨_, _, _, _, rfl, rfl, h.mk k3 (relB_of (pts := pts) (hm := hm) (n := n) (fm := fm) (kd := kd) (ps := ps) (thr := thr) (trn := trn) (cub := 2 * cub) (ow := nI (1 - thr)) ⟨c1, ok, ⟨oh, ot, ⟨j + 1, by omega, by rw [hcub, Nat.pow_succ, Nat.mul_comm]⟩, Or.inr ?_⟩, E.tw _ _, ⟨T.1, T.2.1, rfl, rfl⟩, emb_now EM k3 (fun i hi => ?_), ⟨?_, ?_, ?_, ?_⟩, k3.2.1.2.2.2.2.2.1.trans c6, k3.2.1.2.2.2.2.2.2.1.trans hoo⟩ (g3.kn rfl rfl) (I.kp k3))⟩
        · rcases (show thr = 0 ∨ thr = 1 by omega) with c | c
          · exact Or.inr (by rw [c]; rfl)
          · exact Or.inl (by rw [c]; rfl)
        · exact (hnw i (by omega) (by omega)).trans (EM.2.2.2 i hi).2.2
        · exact (hnw 11 (by omega) (by omega)).trans TM.1
        · exact (hnw 8 (by omega) (by omega)).trans TM.2.1
        · show upd (upd (ms_now S2) 9 (nI (2 * cub))) 10 (nI (1 - thr)) 9 = _
          rw [upd_ne (by omega), upd_at]
        · show upd (upd (ms_now S2) 9 (nI (2 * cub))) 10 (nI (1 - thr)) 10 = _
          rw [upd_at]
      · rw [if_neg c64, if_pos (show cub = 64 by omega)]
        exact ⟨_, _, _, _, rfl, rfl, h.kp w2 w3⟩
theorem sim_lay {tf : TF} {rw_ : RW} {tp : TP} {bs : IA} {L i0 i1 : BD} {ac : AC} {as : AS} {S : MS} (h : Rel tf rw_ tp bs L i0 i1 ac as S) (x y : Int32) :
    ∃ v L' ac' S', M_X7_lay tf L ac x y = some (v, L', ac') ∧ M_X8_lay S x y = some (v, S') ∧ Rel tf rw_ tp bs L' i0 i1 ac' as S' := by
  unfold M_X7_lay M_X8_lay
  rcases h.tabs with ⟨e1, e2, e3, e4⟩ | ⟨pts, hm, n, fm, kd, ps, thr, trn, cub, ow, B, A, I⟩
  · rw [sp_isMan7 (n := 0) e1, sp_isMan8 (n := 0) e2, b01_f man_no]
    exact ⟨_, _, _, _, rfl, rfl, h⟩
  have hn := B.n8
  have B0 := B
  obtain ⟨c1, ok, okt, E, T, EM, TM, c6, hoo⟩ := B
  have hpt : pts ≤ 12 := ok.2.1
  rw [sp_isMan7 E.2.2.1, sp_isMan8 EM.2.2.1, sp_bar E, EM.1, show (0 : Int64) = (0 : Int32).toInt64 from rfl, sp_in]
  simp only [ob, b01_no]
  by_cases hm1 : 0 ≤ x ∧ x ≤ nI n - 1
  · obtain ⟨i, hi, rfl⟩ := man_of hn hm1
    have nm : ¬ ¬ (0 ≤ nI i ∧ nI i ≤ nI n - 1) := fun z => z hm1
    obtain ⟨o1, o2, o3, o4⟩ := ok.2.2.2.2.2 i hi
    simp only [nm, if_false]
    rw [sp_within]
    simp only [ob, b01_no]
    by_cases hy : 0 ≤ y ∧ y ≤ nI pts
    · have ny : ¬ ¬ (0 ≤ y ∧ y ≤ nI pts) := fun z => z hy
      obtain ⟨a, ha, rfl⟩ := pl_of hpt hy
      simp only [ny, if_false]
      have tl := trc_le o4 hpt
      have t9 := trc_99 o4 hpt
      have ti := trc_inj o4 (show a ≤ pts + 1 by omega) hpt
      rw [trc_pt (show a < pts + 1 by omega)] at ti
      rw [inb_nI (show i < 8 by omega) (by omega), inb_nI (show i < 12 by omega) (by omega), cl (show i < 2 ^ 31 by omega), (E.2.2.2.1 i hi).2.2, (EM.2.2.2 i hi).2.2]
      simp only [if_true, eqI (show ps i < 2 ^ 31 by omega) (show a < 2 ^ 31 by omega), eqI (show trc pts (ps i) < 2 ^ 31 by omega) (show a < 2 ^ 31 by omega), ti]
      by_cases ce : ps i = a
      · rw [if_pos ce, if_pos ce]
        exact ⟨_, _, _, _, rfl, rfl, h⟩
      · rw [if_neg ce, if_neg ce]
        obtain ⟨ac', S2, g1, g2, g3, g4, g5, g6⟩ := kp_keep A B0
        obtain ⟨L', q1, q2, q3⟩ := sp_put E ok hi (show a ≤ pts + 1 by omega)
        have en : ms_now S2 i = nI (trc pts (ps i)) := by rw [g5]; exact (EM.2.2.2 i hi).2.2
        have k3 := g4.trans (kp_now S2 (upd (ms_now S2) i (nI a)))
        have EM2 : EMb pts hm n fm kd (setp ps i a) (ms_s_now S2 (upd (ms_now S2) i (nI a))) := emb_now EM k3 (fun j hj => by
          show upd (ms_now S2) i (nI a) j = _
          refine upd_f (fun e => ?_) (fun e => ?_)
          · rw [e, setp_at, trc_pt (by omega)]
          · rw [setp_ne e, g5]; exact (EM.2.2.2 j hj).2.2)
        have TM2 : EMt thr trn cub ow (upd (ms_now S2) i (nI a)) := emt_same TM (fun c a1 a2 => by rw [upd_ne (by omega), g5])
        have hRel : Rel tf rw_ tp bs L' i0 i1 ac' as (ms_s_now S2 (upd (ms_now S2) i (nI a))) := h.mk k3 (relB_of ⟨c1, ok.set (by omega), okt, q2, T.same q3, EM2, TM2, k3.2.1.2.2.2.2.2.1.trans c6, k3.2.1.2.2.2.2.2.2.1.trans hoo⟩ (g3.kn rfl rfl) (I.kp k3))
        have ep : ms_points S2 = nI pts := g4.2.1.1.trans EM.1
        rw [g1, g2, q1]
        simp only [ob]
        rw [en, ep]
        simp only [show ((99 : Int32)) = nI 99 from rfl, eqI (show trc pts (ps i) < 2 ^ 31 by omega) (show 99 < 2 ^ 31 by omega), t9, nI_p1]
        by_cases c9 : ps i = pts + 1
        · rw [if_pos c9, ← c9]
          exact ⟨_, _, _, _, rfl, rfl, hRel⟩
        · rw [if_neg c9, trc_pt (show ps i < pts + 1 by omega)]
          exact ⟨_, _, _, _, rfl, rfl, hRel⟩
    · simp only [hy, not_false_eq_true, if_true]
      exact ⟨_, _, _, _, rfl, rfl, h⟩
  · simp only [hm1, not_false_eq_true, if_true]
    exact ⟨_, _, _, _, rfl, rfl, h⟩
/-- men are put, one by one -/
def mixA (ps qs : Nat → Nat) (k : Nat) : Nat → Nat := fun j => if j < k then qs j else ps j
theorem mix_s {ps qs : Nat → Nat} {k : Nat} : setp (mixA ps qs k) k (qs k) = mixA ps qs (k + 1) := by
  funext j
  unfold setp mixA
  by_cases c : j = k
  · rw [if_pos c, if_pos (by omega), c]
  · rw [if_neg c]
    by_cases c2 : j < k
    · rw [if_pos c2, if_pos (by omega)]
    · rw [if_neg c2, if_neg (by omega)]
theorem OKb.mix {pts hm n : Nat} {fm kd ps qs : Nat → Nat} (ok : OKb pts hm n fm kd ps) (hq : ∀ i, i < n → qs i ≤ pts + 1) {k : Nat} : OKb pts hm n fm kd (mixA ps qs k) :=
  ⟨ok.1, ok.2.1, ok.2.2.1, ok.2.2.2.1, ok.2.2.2.2.1, fun j hj => by
    obtain ⟨a, b, c, d⟩ := ok.2.2.2.2.2 j hj
    refine ⟨a, b, c, ?_⟩
    unfold mixA
    split
    · exact hq j hj
    · exact d⟩
theorem sim_undo {tf : TF} {rw_ : RW} {tp : TP} {bs : IA} {L i0 i1 : BD} {ac : AC} {as : AS} {S : MS} (h : Rel tf rw_ tp bs L i0 i1 ac as S) :
    ∃ v ac' L' S', M_X7_undo tf ac L = some (v, ac', L') ∧ M_X8_undo S = some (v, S') ∧ Rel tf rw_ tp bs L' i0 i1 ac' as S' := by
  unfold M_X7_undo M_X8_undo
  rcases h.tabs with ⟨e1, e2, e3, e4⟩ | ⟨pts, hm, n, fm, kd, ps, thr, trn, cub, ow, B, A, I⟩
  · obtain ⟨pts, hm, n, fm, kd, ps, thr, trn, cub, ow, hcase, E, EM, hAct, hoo, hImg⟩ := h.2.2.2.2
    obtain ⟨K, N, k1, k2, k3, k4, k5, k6⟩ := hAct
    rw [e4, k5, ← k3, e4]
    exact ⟨_, _, _, _, rfl, rfl, h⟩
  have hn := B.n8
  have B0 := B
  obtain ⟨c1, ok, okt, E, T, EM, TM, c6, hoo⟩ := B
  obtain ⟨K, N, k1, k2, k3, k4, k5, k6⟩ := A
  rw [k3, k5]
  by_cases cK : K = 0
  · subst cK
    rw [if_pos (show nI 0 = (0 : Int32) from rfl), if_pos (show nI 0 = (0 : Int32) from rfl)]
    exact ⟨_, _, _, _, rfl, rfl, h⟩
  have nK : ¬ nI K = (0 : Int32) := fun z => cK ((eqI (b := 0) (by omega) (by omega)).1 z)
  rw [if_neg nK, if_neg nK]
  obtain ⟨ps0, thr0, trn0, cub0, ow0, h1, h2, h3, h4, h5, h6, h7⟩ := k6 0 (by omega)
  have hM : (N + 23 - 0) % 24 < 24 := Nat.mod_lt _ (by omega)
  have eM : nI N + 24 - 1 - (nI N + 24 - 1) / 24 * 24 = nI ((N + 23 - 0) % 24) := by
    have e1 : nI N + 24 - 1 = nI (N + 23 - 0) := by
      rw [show ((24 : Int32)) = nI 24 from rfl, nI_add]
      exact subI (a := N + 24) (b := 1) (by omega)
    rw [e1]
    exact pk_rem (d := 24) (by omega) (by omega) (by omega)
  have eK1 : nI K - 1 = nI (K - 1) := subI (a := K) (b := 1) (by omega)
  have k6' : ∀ j, j < K - 1 → ((N + 23 - 0) % 24 + 23 - j) % 24 = (N + 23 - (j + 1)) % 24 := fun j hj => by omega
  have k6s := fun j (hj : j < K - 1) => k6 (j + 1) (by omega)
  generalize (N + 23 - 0) % 24 = M at *
  have eN : nI M * 12 = nI (M * 12) := by rw [li 12, pk_mul]
  have e8 : nI (M * 12) + 8 = nI (M * 12 + 8) := nI_add _ 8
  have e9 : nI (M * 12 + 8) + 1 = nI (M * 12 + 9) := nI_add _ 1
  have e10 : nI (M * 12 + 8) + 2 = nI (M * 12 + 10) := nI_add _ 2
  have e11 : nI (M * 12 + 8) + 3 = nI (M * 12 + 11) := nI_add _ 3
  have hlp : ∃ b, lp (σ := Int32 × BD) (β := BD) (fun rec1 st1 => (if (bd_men st1.2) ≤ st1.1 then (some st1.2) else (if inb (nI (M * 12) + st1.1) 288 = true then ((M_X2_put st1.2 st1.1 (((ac_before ac) ((nI (M * 12) + st1.1)).toNatClampNeg))).bind (fun u8 => (rec1 ((st1.1 + (1 : Int32)), u8)))) else none))) 1000000 ((0 : Int32), L) = some b ∧ EC pts hm n fm kd (mixA ps ps0 n) b := by
    refine lp_inv (fun k s => s.1 = nI k ∧ EC pts hm n fm kd (mixA ps ps0 k) s.2) _ n ?_ ?_ ⟨rfl, E.same (by funext j; exact (if_neg (by omega)).symm)⟩ (by omega)
    · rintro k ⟨s1, s2⟩ hk ⟨rfl, hE⟩
      have q1 : ¬ nI n ≤ nI k := nI_ge hk (by omega)
      obtain ⟨L', p1, p2, p3⟩ := sp_put hE (ok.mix (fun i hi => (h2 i hi).1)) hk (h2 k hk).1
      refine ⟨(nI (k + 1), L'), ⟨rfl, p2.same mix_s⟩, fun rec => ?_⟩
      have hE3 : bd_men s2 = nI n := hE.2.2.1
      simp only [hE3, q1, if_false]
      rw [nI_add, inb_nI (show M * 12 + k < 288 by omega) (by omega), cl (show M * 12 + k < 2 ^ 31 by omega), (h2 k hk).2.1, p1, nI_p1]
      rfl
    · rintro ⟨s1, s2⟩ ⟨rfl, hE⟩
      have q1 : nI n ≤ nI n := nI_le (Nat.le_refl n) (by omega)
      have hE3 : bd_men s2 = nI n := hE.2.2.1
      refine ⟨s2, hE, fun rec => ?_⟩
      simp only [hE3, q1, if_true]
  obtain ⟨b, hb, hEb⟩ := hlp
  have hlp8 : lp (σ := Int32 × (Nat → Int32)) (β := (Nat → Int32)) (fun rec2 st2 => (if (12 : Int32) ≤ st2.1 then (some st2.2) else (if inb (((12 : Int32) * nI (K - 1)) + st2.1) 288 = true then (if inb st2.1 12 = true then (rec2 ((st2.1 + (1 : Int32)), (upd st2.2 (st2.1).toNatClampNeg ((ms_before S) ((((12 : Int32) * nI (K - 1)) + st2.1)).toNatClampNeg)))) else none) else none))) 1000000 ((0 : Int32), (ms_now S)) = some (asR 0 (ms_now S) (fun c => ms_before S (12 * (K - 1) + c)) 12) := by
    refine lp_at (fun j => (nI j, asR 0 (ms_now S) (fun c => ms_before S (12 * (K - 1) + c)) j)) 12 _ (congrArg (Prod.mk _) asR_0.symm) ?_ ?_ (by omega)
    · intro j rec hj
      have q1 : ¬ (12 : Int32) ≤ nI j := fun z => absurd ((leI (a := 12) (by omega) (by omega)).1 z) (by omega)
      have hs := asR_s (D := 0) (k := j) (f := ms_now S) (g := fun c => ms_before S (12 * (K - 1) + c)) rfl
      rw [Nat.mul_zero, Nat.zero_add] at hs
      simp only [q1, if_false]
      rw [ix8, inb_nI (show j < 12 by omega) (by omega), inb_nI (show 12 * (K - 1) + j < 288 by omega) (by omega), cl (show j < 2 ^ 31 by omega), cl (show 12 * (K - 1) + j < 2 ^ 31 by omega), nI_p1]
      simp only [if_true]
      rw [hs]
    · intro rec
      rfl
  have eqf : ∀ c, c < 12 → asR 0 (ms_now S) (fun c => ms_before S (12 * (K - 1) + c)) 12 c = ms_before S (12 * (K - 1 - 0) + c) := fun c hc => by
    have q := asR_in (D := 0) (k := 12) (j := c) (f := ms_now S) (g := fun c => ms_before S (12 * (K - 1) + c)) hc
    rw [Nat.mul_zero, Nat.zero_add] at q
    exact q
  have hmix : ∀ i, i < n → mixA ps ps0 n i = ps0 i := fun i hi => if_pos hi
  have ok0 : OKb pts hm n fm kd (mixA ps ps0 n) := ok.mix (fun i hi => (h2 i hi).1)
  unfold M_X0_takeBack
  rw [k4, eM, eN, e8, e9, e10, e11, eK1, k3, eK1, inb_nI (show M * 12 + 8 < 288 by omega) (by omega), inb_nI (show M * 12 + 9 < 288 by omega) (by omega), inb_nI (show M * 12 + 10 < 288 by omega) (by omega), inb_nI (show M * 12 + 11 < 288 by omega) (by omega), cl (show M * 12 + 8 < 2 ^ 31 by omega), cl (show M * 12 + 9 < 2 ^ 31 by omega), cl (show M * 12 + 10 < 2 ^ 31 by omega), cl (show M * 12 + 11 < 2 ^ 31 by omega), h3, h4, h5, h6]
  rw [hb, hlp8]
  simp only [ob, if_true]
  have kx := (kp_acts S (nI (K - 1))).trans (kp_now (ms_s_acts S (nI (K - 1))) (asR 0 (ms_now S) (fun c => ms_before S (12 * (K - 1) + c)) 12))
  refine ⟨_, _, _, _, rfl, rfl, h.mk kx (relB_of (pts := pts) (hm := hm) (n := n) (fm := fm) (kd := kd) (ps := mixA ps ps0 n) (thr := thr0) (trn := trn0) (cub := cub0) (ow := ow0) ⟨c1, ok0, h1, hEb, ⟨rfl, rfl, rfl, rfl⟩, emb_now EM kx (fun i hi => ?_), ⟨?_, ?_, ?_, ?_⟩, c6, hoo⟩ ⟨K - 1, M, by omega, hM, rfl, rfl, rfl, fun j hj => ?_⟩ (I.kp kx))⟩
  · rw [hmix i hi]
    exact (eqf i (by omega)).trans (h2 i hi).2.2
  · exact (eqf 11 (by omega)).trans h7.1
  · exact (eqf 8 (by omega)).trans h7.2.1
  · exact (eqf 9 (by omega)).trans h7.2.2.1
  · exact (eqf 10 (by omega)).trans h7.2.2.2
  · obtain ⟨ps1, thr1, trn1, cub1, ow1, w1, w2, w3, w4, w5, w6, w7⟩ := k6s j hj
    rw [k6' j hj]
    have eK2 : K - 1 - 1 - j = K - 1 - (j + 1) := by omega
    rw [eK2]
    exact ⟨ps1, thr1, trn1, cub1, ow1, w1, w2, w3, w4, w5, w6, w7⟩
