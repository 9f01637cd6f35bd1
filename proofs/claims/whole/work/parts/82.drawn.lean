/-! ===== drawn ===== -/
def nxN (a : Nat) : Nat := a * 16807 % 2147483647
/-- where all stand after so many turns of a game -/
def dA (pts hm n : Nat) (fm kd : Nat → Nat) : Nat → Nat → Nat → (Nat → Nat) → Nat → Nat
  | 0, _, _, q => q
  | m + 1, a, thr, q => if winA pts n fm q < 1000 then q else dA pts hm n fm kd m (nxN a) (1 - thr) (turA pts hm n fm kd q thr (nxN a % 6 + 1))
def dF7 (i2 : Int32) : (Int64 × Int32 × BD → Option BD) → Int64 × Int32 × BD → Option BD := (fun rec2 st2 => (if i2 ≤ st2.2.1 then (some st2.2.2) else ((M_X2_winner st2.2.2).bind (fun u4 => (if u4 = (-1000000 : Int32) then ((M_X2_turnByRule st2.2.2 (((1 : Int32) + ((((st2.1 * (16807 : Int64)) - (st2.1 * (16807 : Int64)) / (2147483647 : Int64) * (2147483647 : Int64)) - ((st2.1 * (16807 : Int64)) - (st2.1 * (16807 : Int64)) / (2147483647 : Int64) * (2147483647 : Int64)) / (6 : Int64) * (6 : Int64))).toInt32))).bind (fun u6 => (rec2 (((st2.1 * (16807 : Int64)) - (st2.1 * (16807 : Int64)) / (2147483647 : Int64) * (2147483647 : Int64)), (st2.2.1 + (1 : Int32)), u6.2)))) else (some st2.2.2))))))
def dF8 (i1 : Int32) : (Int64 × Int32 × MS → Option MS) → Int64 × Int32 × MS → Option MS := (fun rec9 st9 => (if i1 ≤ st9.2.1 then (some st9.2.2) else ((M_X8_won st9.2.2 (0 : Int32)).bind (fun u17 => (if u17 = (-1000000 : Int32) then ((M_X8_goRuled st9.2.2 (0 : Int32) ((((((st9.1 * (16807 : Int64)) - (st9.1 * (16807 : Int64)) / (2147483647 : Int64) * (2147483647 : Int64)) - ((st9.1 * (16807 : Int64)) - (st9.1 * (16807 : Int64)) / (2147483647 : Int64) * (2147483647 : Int64)) / (6 : Int64) * (6 : Int64))).toInt32 + (1 : Int32)))).bind (fun u19 => (rec9 (((st9.1 * (16807 : Int64)) - (st9.1 * (16807 : Int64)) / (2147483647 : Int64) * (2147483647 : Int64)), (st9.2.1 + (1 : Int32)), u19.2)))) else (rec9 (((st9.1 * (16807 : Int64)) - (st9.1 * (16807 : Int64)) / (2147483647 : Int64) * (2147483647 : Int64)), (st9.2.1 + (1 : Int32)), st9.2.2)))))))
def dF10 (b9 : MS) : (Int32 × Int32 → Option Int32) → Int32 × Int32 → Option Int32 := (fun rec10 st10 => (if (ms_men b9) ≤ st10.2 then (some st10.1) else ((M_X8_at b9 (0 : Int32) st10.2).bind (fun u14 => (if u14 = (99 : Int32) then (rec10 ((st10.1 ||| ((1 : Int32) <<< (st10.2 &&& 31))), (st10.2 + (1 : Int32)))) else (rec10 ((st10.1 ||| (0 : Int32)), (st10.2 + (1 : Int32)))))))))
theorem nx_lt (a : Nat) : nxN a < 2147483647 := Nat.mod_lt _ (by omega)
theorem nx_L {a : Nat} (h : a < 2 ^ 31) : lN a * (16807 : Int64) - lN a * (16807 : Int64) / (2147483647 : Int64) * (2147483647 : Int64) = lN (nxN a) := by
  rw [show ((16807 : Int64)) = lN 16807 from rfl, show ((2147483647 : Int64)) = lN 2147483647 from rfl, lN_mul]
  exact pk_lRem (by omega) (by omega) (by omega)
theorem nx_6 (a : Nat) : lN (nxN a) - lN (nxN a) / (6 : Int64) * (6 : Int64) = lN (nxN a % 6) := by
  have := nx_lt a
  exact pk_lRem (b := 6) (by omega) (by omega) (by omega)
section DRAWN
variable {pts hm n : Nat} {fm kd : Nat → Nat} {cub : Nat} {ow : Int32}
theorem dA_won {q : Nat → Nat} (h : winA pts n fm q < 1000) : ∀ m a thr, dA pts hm n fm kd m a thr q = q
  | 0, _, _ => rfl
  | m + 1, a, thr => if_pos h
theorem OKb.d : ∀ (m a thr : Nat) {q : Nat → Nat}, OKb pts hm n fm kd q → OKb pts hm n fm kd (dA pts hm n fm kd m a thr q)
  | 0, _, _, _, ok => ok
  | m + 1, a, thr, q, ok => by
    show OKb pts hm n fm kd (if winA pts n fm q < 1000 then q else _)
    by_cases c : winA pts n fm q < 1000
    · rw [if_pos c]; exact ok
    · rw [if_neg c]; exact OKb.d m _ _ ok.tur
theorem sp_drawnLoop {N0 : Nat} (hN0 : N0 ≤ 60) : ∀ (m k N : Nat) (q : Nat → Nat) (thr trn a : Nat) (L : BD), k + m = N0 → m < N → OKb pts hm n fm kd q → EC pts hm n fm kd q L → ECt thr trn cub ow L → thr < 2 → a < 2 ^ 31 → ∃ L', lp (dF7 (nI N0)) N (lN a, nI k, L) = some L' ∧ EC pts hm n fm kd (dA pts hm n fm kd m a thr q) L'
  | 0, k, N, q, thr, trn, a, L, hk, hN, ok, E, T, ht, ha => by
    cases N with
    | zero => omega
    | succ N =>
      have l1 : nI N0 ≤ nI k := nI_le (by omega) (by omega)
      refine ⟨L, ?_, E⟩
      show dF7 (nI N0) (lp (dF7 (nI N0)) N) (lN a, nI k, L) = some L
      simp only [dF7, l1, if_true]
  | m + 1, k, N, q, thr, trn, a, L, hk, hN, ok, E, T, ht, ha => by
    cases N with
    | zero => omega
    | succ N =>
      have l1 : ¬ nI N0 ≤ nI k := nI_ge (by omega) (by omega)
      have hx := nx_lt a
      by_cases c : winA pts n fm q < 1000
      · refine ⟨L, ?_, by rw [dA_won c]; exact E⟩
        show dF7 (nI N0) (lp (dF7 (nI N0)) N) (lN a, nI k, L) = some L
        simp only [dF7, l1, if_false, sp_winner E ok, ob, won_no, c, not_true_eq_false]
      · have hr := Nat.mod_lt (nxN a) (show 0 < 6 by omega)
        obtain ⟨L1, h1, h2, h3⟩ := sp_turnByRule (d := nxN a % 6 + 1) E T ok ht (by omega) (by omega)
        obtain ⟨L', g1, g2⟩ := sp_drawnLoop hN0 m (k + 1) N _ (1 - thr) (trn + 1) (nxN a) L1 (by omega) (by omega) ok.tur h2 h3 (by omega) (by omega)
        refine ⟨L', ?_, ?_⟩
        · show dF7 (nI N0) (lp (dF7 (nI N0)) N) (lN a, nI k, L) = some L'
          simp only [dF7, l1, if_false, sp_winner E ok, ob, won_no, c, not_false_eq_true, if_true, nx_L ha, nx_6, lN_i]
          rw [show (1 : Int32) + nI (nxN a % 6) = nI (nxN a % 6 + 1) by rw [show ((1 : Int32)) = nI 1 from rfl, nI_add, Nat.add_comm], h1, nI_p1]
          exact g1
        · show EC pts hm n fm kd (if winA pts n fm q < 1000 then q else _) L'
          rw [if_neg c]
          exact g2
theorem s8_drawnLoop {N0 : Nat} (hN0 : N0 ≤ 60) : ∀ (m k N : Nat) (q : Nat → Nat) (thr trn a : Nat) (S : MS), k + m = N0 → m < N → OKb pts hm n fm kd q → ES pts hm n fm kd S → ER pts n q 0 S → EMt thr trn cub ow (fun c => ms_rows S (12 * 0 + c)) → thr < 2 → a < 2 ^ 31 → ∃ S', lp (dF8 (nI N0)) N (lN a, nI k, S) = some S' ∧ ER pts n (dA pts hm n fm kd m a thr q) 0 S' ∧ Kp S S' ∧ Kn S S'
  | 0, k, N, q, thr, trn, a, S, hk, hN, ok, hS, hE, T, ht, ha => by
    cases N with
    | zero => omega
    | succ N =>
      have l1 : nI N0 ≤ nI k := nI_le (by omega) (by omega)
      refine ⟨S, ?_, hE, Kp.refl S, Kn.refl S⟩
      show dF8 (nI N0) (lp (dF8 (nI N0)) N) (lN a, nI k, S) = some S
      simp only [dF8, l1, if_true]
  | m + 1, k, N, q, thr, trn, a, S, hk, hN, ok, hS, hE, T, ht, ha => by
    cases N with
    | zero => omega
    | succ N =>
      have l1 : ¬ nI N0 ≤ nI k := nI_ge (by omega) (by omega)
      have hx := nx_lt a
      have hw : M_X8_won S (0 : Int32) = _ := s8_won hS hE (show 0 < 4 by omega) ok
      by_cases c : winA pts n fm q < 1000
      · obtain ⟨S', g1, g2, g3⟩ := s8_drawnLoop hN0 m (k + 1) N q thr trn (nxN a) S (by omega) (by omega) ok hS hE T ht (by omega)
        refine ⟨S', ?_, by rw [dA_won c] at g2 ⊢; exact g2, g3⟩
        show dF8 (nI N0) (lp (dF8 (nI N0)) N) (lN a, nI k, S) = some S'
        simp only [dF8, l1, if_false, hw, ob, won_no, c, not_true_eq_false, nx_L ha]
        rw [nI_p1]
        exact g1
      · have hr := Nat.mod_lt (nxN a) (show 0 < 6 by omega)
        obtain ⟨S1, h1, h2, h3, h4, h5, h6⟩ := kp_goRuled (d := nxN a % 6 + 1) hS hE T (show 0 < 4 by omega) ok ht (by omega) (by omega)
        have h1 : M_X8_goRuled S (0 : Int32) (nI (nxN a % 6 + 1)) = _ := h1
        obtain ⟨S', g1, g2, g3, g4⟩ := s8_drawnLoop hN0 m (k + 1) N _ (1 - thr) (trn + 1) (nxN a) S1 (by omega) (by omega) ok.tur (hS.kp h5) h2 h3 (by omega) (by omega)
        refine ⟨S', ?_, ?_, h5.trans g3, h6.trans g4⟩
        · show dF8 (nI N0) (lp (dF8 (nI N0)) N) (lN a, nI k, S) = some S'
          simp only [dF8, l1, if_false, hw, ob, won_no, c, not_false_eq_true, if_true, nx_L ha, nx_6, lN_i]
          rw [nI_p1, nI_p1, h1]
          exact g1
        · show ER pts n (if winA pts n fm q < 1000 then q else _) 0 S'
          rw [if_neg c]
          exact g2
end DRAWN
theorem rng_of {x : Int32} {lo hi : Nat} {l h : Int32} (el : l = nI lo) (eh : h = nI hi) (b : hi < 2 ^ 31) (b2 : lo ≤ hi) (q : l ≤ x ∧ x ≤ h) : ∃ k, lo ≤ k ∧ k ≤ hi ∧ x = nI k := by
  subst el eh
  have q1 := q.1
  have q2 := q.2
  rw [Int32.le_iff_toInt_le, nI_toInt (by omega)] at q1
  obtain ⟨k, hk, rfl⟩ := nI_of (x := x) (by rw [lt0]; omega)
  exact ⟨k, (leI (by omega) hk).1 q.1, (leI hk (by omega)).1 q.2, rfl⟩
theorem sim_drawn {tf : TF} {rw_ : RW} {tp : TP} {bs : IA} {L i0 i1 : BD} {ac : AC} {as : AS} {S : MS} (h : Rel tf rw_ tp bs L i0 i1 ac as S) (fs : FS) (M : BD) (x y z : Int32) :
    ∃ v M' S', M_X7_drawn tf L fs M x y z = some (v, M') ∧ M_X8_drawn S x y z = some (v, S') ∧ Rel tf rw_ tp bs L i0 i1 ac as S' := by
  unfold M_X7_drawn M_X8_drawn
  rcases h.tabs with ⟨e1, e2, e3, e4⟩ | ⟨pts, hm, n, fm, kd, ps, thr, trn, cub, ow, B, A, I⟩
  · rw [no_tab e1, e3]
    exact ⟨_, _, _, rfl, rfl, h⟩
  have hn := B.n8
  have hno := B.no (tf := tf)
  have hhas := B.has
  obtain ⟨c1, ok, okt, E, T, EM, TM, c6, hoo⟩ := B
  have hpt : pts ≤ 12 := ok.2.1
  rw [hno, if_neg hhas, sp_within, sp_within, sp_isChoice7, show (0 : Int64) = (0 : Int32).toInt64 from rfl, show (1 : Int64) = (1 : Int32).toInt64 from rfl, show (60 : Int64) = (60 : Int32).toInt64 from rfl, show (999999 : Int64) = (999999 : Int32).toInt64 from rfl, sp_in, sp_in, sp_in]
  simp only [ob, if_true, b01_no]
  by_cases hx : 0 ≤ x ∧ x ≤ 60
  · by_cases hy : 1 ≤ y ∧ y ≤ 999999
    · by_cases hz : 0 ≤ z ∧ z ≤ 1
      · have nx : ¬ ¬ (0 ≤ x ∧ x ≤ 60) := fun q => q hx
        have ny : ¬ ¬ (1 ≤ y ∧ y ≤ 999999) := fun q => q hy
        have nz : ¬ ¬ (0 ≤ z ∧ z ≤ 1) := fun q => q hz
        simp only [nx, ny, nz, if_false]
        obtain ⟨N0, -, hN0, rfl⟩ := rng_of (lo := 0) (hi := 60) rfl rfl (by omega) (by omega) hx
        obtain ⟨a, ha1, ha, rfl⟩ := rng_of (lo := 1) (hi := 999999) rfl rfl (by omega) (by omega) hy
        obtain ⟨L1, p1, p2, p3⟩ := sp_copyFrom E hn M
        obtain ⟨S1, q1, q2, q3, q4⟩ := kp_aside S (D := 0) (by omega)
        have q1 : M_X8_aside S (0 : Int32) = _ := q1
        obtain ⟨L2, g1, g2⟩ := sp_drawnLoop hN0 N0 0 1000000 ps thr trn a L1 (by omega) (by omega) ok p2 (T.same p3) okt.1 (by omega)
        obtain ⟨S2, r1, r2, r3, r4⟩ := s8_drawnLoop hN0 N0 0 1000000 ps thr trn a S1 (by omega) (by omega) ok ((es_of EM hoo hn).kp q2) (er_rows EM hn q4) (emt_rows TM q4) okt.1 (by omega)
        have okd := OKb.d N0 a thr ok
        generalize dA pts hm n fm kd N0 a thr ps = qd at *
        have k2 := q2.trans r3
        have hS2 := (es_of EM hoo hn).kp k2
        unfold M_X3_endOfGame
        rw [p1, q1, nI_l (show a < 2 ^ 31 by omega)]
        simp only [ob]
        have g1 : lp (dF7 (nI N0)) 1000000 (lN a, (0 : Int32), L1) = some L2 := g1
        have r1 : lp (dF8 (nI N0)) 1000000 (lN a, (0 : Int32), S1) = some S2 := r1
        have hoff : lp (dF10 S2) 1000000 ((0 : Int32), (0 : Int32)) = some (0 ||| orS (fun k => if qd k = pts + 1 then btI k else 0) n) := by
          refine lp_or0 _ n 0 (by omega) ?_ ?_
          · intro k v rec hk
            have o4 := (okd.2.2.2.2.2 k hk).2.2.2
            have h1 : ¬ nI n ≤ nI k := nI_ge hk (by omega)
            have tl := trc_le o4 hpt
            have hat : M_X8_at S2 (0 : Int32) (nI k) = some (nI (trc pts (qd k))) := s8_at r2 (show 0 < 4 by omega) okd hk
            simp only [dF10, hS2.2.2.1, h1, if_false, hat, ob, show ((99 : Int32)) = nI 99 from rfl, eqI (show trc pts (qd k) < 2 ^ 31 by omega) (show 99 < 2 ^ 31 by omega), trc_99 o4 hpt, nI_p1]
            by_cases c : qd k = pts + 1
            · rw [if_pos c, if_pos c]; rfl
            · rw [if_neg c, if_neg c]
          · intro v rec
            have h1 : nI n ≤ nI n := nI_le (Nat.le_refl n) (by omega)
            simp only [dF10, hS2.2.2.1, h1, if_true]
        have hle : M_X8_lead S2 (0 : Int32) (0 : Int32) = _ := s8_lead hS2 r2 (show 0 < 4 by omega) okd (show 0 < 2 by omega)
        have hl7 : M_X2_lead L2 (0 : Int32) = _ := sp_lead g2 (show 0 < 2 by omega)
        have hm0 : M_X2_menAt L2 (0 : Int32) (nI (pts + 1)) = _ := sp_menAt g2 okd (show 0 < 2 by omega) (Nat.le_refl (pts + 1))
        have hm1 : M_X2_menAt L2 (1 : Int32) (nI (pts + 1)) = _ := sp_menAt g2 okd (show 1 < 2 by omega) (Nat.le_refl (pts + 1))
        have hor : orS (onG fm qd 0 (pts + 1)) n ||| orS (onG fm qd 1 (pts + 1)) n = orS (fun k => if qd k = pts + 1 then btI k else 0) n := by
          rw [← orS_or]
          refine orS_cong (fun k hk => ?_)
          have o1 := (okd.2.2.2.2.2 k hk).1
          unfold onG
          by_cases c : qd k = pts + 1
          · rcases (show fm k = 0 ∨ fm k = 1 by omega) with e | e
            · rw [if_pos ⟨e, c⟩, if_neg (fun w => by rw [e] at w; omega), if_pos c, or_z]
            · rw [if_neg (fun w => by rw [e] at w; omega), if_pos ⟨e, c⟩, if_pos c, z_or]
          · rw [if_neg (fun w => c w.2), if_neg (fun w => c w.2), if_neg c, or_z]
        have e7 : ∀ (K : BD → Option (Int32 × BD)), (((lp (dF7 (nI N0)) 1000000 (lN a, (0 : Int32), L1)).bind (fun b2 => some b2)).bind K) = K L2 := fun K => by rw [g1]; rfl
        have e8 : ∀ (K : MS → Option (Int32 × MS)), ((lp (dF8 (nI N0)) 1000000 (lN a, (0 : Int32), S1)).bind K) = K S2 := fun K => by rw [r1]; rfl
        have hRel := h.kp k2 (q3.trans r4)
        by_cases d0 : z = 0
        · refine ⟨nI (pipS pts n fm qd (1 - 0)) - nI (pipS pts n fm qd 0), L2, S2, (e7 _).trans ?_, (e8 _).trans ((bind_of hoff).trans ?_), hRel⟩
          · rw [if_pos d0, hl7]; rfl
          · rw [if_pos d0, hle]; rfl
        · refine ⟨orS (fun k => if qd k = pts + 1 then btI k else 0) n, L2, S2, (e7 _).trans ?_, (e8 _).trans ((bind_of hoff).trans ?_), hRel⟩
          · rw [if_neg d0, sp_off g2]
            simp only [ob]
            rw [hm0, hm1]
            simp only [ob, hor]
          · rw [if_neg d0, z_or]
      · have nx : ¬ ¬ (0 ≤ x ∧ x ≤ 60) := fun q => q hx
        have ny : ¬ ¬ (1 ≤ y ∧ y ≤ 999999) := fun q => q hy
        simp only [nx, ny, hz, not_false_eq_true, if_false, if_true]
        exact ⟨_, _, _, rfl, rfl, h⟩
    · have nx : ¬ ¬ (0 ≤ x ∧ x ≤ 60) := fun q => q hx
      simp only [nx, hy, not_false_eq_true, if_false, if_true]
      exact ⟨_, _, _, rfl, rfl, h⟩
  · simp only [hx, not_false_eq_true, if_true]
    exact ⟨_, _, _, rfl, rfl, h⟩
