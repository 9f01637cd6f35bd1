/-! ===== table: the law, a man ===== -/
section LAWT
variable {pts hm n : Nat} {fm kd ps : Nat → Nat} {thr trn cub : Nat} {ow : Int32}
theorem sp_begin (D : BD) (pts hm : Nat) : ∃ D', M_X2_begin D (nI pts) (nI hm) = some D' ∧ (∀ fm kd ps, EC pts hm 0 fm kd ps D') ∧ ECt 0 0 1 (-1000000) D' := by
  unfold M_X2_begin
  rw [sp_fill 28 (by omega), sp_fill 2 (by omega), sp_fill 2 (by omega)]
  refine ⟨_, rfl, fun fm kd ps => ⟨rfl, rfl, rfl, fun i hi => absurd hi (Nat.not_lt_zero i), fun f a hf ha => ?_, fun f hf => ⟨?_, ?_⟩⟩, rfl, rfl, rfl, rfl⟩
  · show (if f * 14 + a < 28 then (0 : Int32) else _) = _
    rw [if_pos (by omega)]; rfl
  · show (if f < 2 then (0 : Int32) else _) = _
    rw [if_pos hf]; rfl
  · show (if f < 2 then (0 : Int32) else _) = _
    rw [if_pos hf]; rfl
theorem cnt_more {f a k g x : Nat} : cntA (n + 1) (setp fm n g) (setp ps n x) f a = cntA n fm ps f a + (if g = f ∧ x = a then 1 else 0) := by
  have h1 : cntA n (setp fm n g) (setp ps n x) f a = cntA n fm ps f a := fb_ct_cong (fun k hk => by rw [setp_ne (by omega), setp_ne (by omega)])
  have h2 : cntA (n + 1) (setp fm n g) (setp ps n x) f a = cntA n (setp fm n g) (setp ps n x) f a + (if (setp fm n g n == f && setp ps n x n == a) = true then 1 else 0) := rfl
  rw [h2, h1, setp_at, setp_at]
  congr 1
  by_cases c : g = f ∧ x = a
  · rw [if_pos c, if_pos (by simp [c.1, c.2])]
  · rw [if_neg c, if_neg (by simpa using fun e => fun e2 => c ⟨e, e2⟩)]
theorem pip_more {f g x : Nat} : pipS pts (n + 1) (setp fm n g) (setp ps n x) f = pipS pts n fm ps f + (if g = f then pipA pts f x else 0) := by
  have h1 : pipS pts n (setp fm n g) (setp ps n x) f = pipS pts n fm ps f := fb_sm_cong (fun k hk => by rw [setp_ne (by omega), setp_ne (by omega)])
  have h2 : pipS pts (n + 1) (setp fm n g) (setp ps n x) f = pipS pts n (setp fm n g) (setp ps n x) f + (if setp fm n g n = f then pipA pts f (setp ps n x n) else 0) := rfl
  rw [h2, h1, setp_at, setp_at]
theorem out_more {f g x : Nat} : outS pts hm (n + 1) (setp fm n g) (setp ps n x) f = outS pts hm n fm ps f + (if g = f ∧ hm < pipA pts f x then 1 else 0) := by
  have h1 : outS pts hm n (setp fm n g) (setp ps n x) f = outS pts hm n fm ps f := fb_ct_cong (fun k hk => by rw [setp_ne (by omega), setp_ne (by omega)])
  have h2 : outS pts hm (n + 1) (setp fm n g) (setp ps n x) f = outS pts hm n (setp fm n g) (setp ps n x) f + (if (setp fm n g n == f && decide (hm < pipA pts f (setp ps n x n))) = true then 1 else 0) := rfl
  rw [h2, h1, setp_at, setp_at]
  congr 1
  by_cases c : g = f ∧ hm < pipA pts f x
  · rw [if_pos c, if_pos (by simp [c.1, c.2])]
  · rw [if_neg c, if_neg (by simpa using fun e => fun e2 => c ⟨e, e2⟩)]
theorem OKb.more (ok : OKb pts hm n fm kd ps) {k g x : Nat} (h8 : n < 8) (hg : g < 2) (h1 : 1 ≤ k) (h5 : k ≤ 5) (hx : x ≤ pts + 1) : OKb pts hm (n + 1) (setp fm n g) (setp kd n k) (setp ps n x) :=
  ⟨ok.1, ok.2.1, ok.2.2.1, ok.2.2.2.1, by omega, fun i hi => by
    by_cases e : i = n
    · rw [e, setp_at, setp_at, setp_at]; exact ⟨hg, h1, h5, hx⟩
    · rw [setp_ne e, setp_ne e, setp_ne e]; exact ok.2.2.2.2.2 i (by omega)⟩
theorem sp_join {D : BD} (E : EC pts hm n fm kd ps D) (T : ECt thr trn cub ow D) (ok : OKb pts hm n fm kd ps) {k g x : Nat} (h8 : n < 8) (hg : g < 2) (h1 : 1 ≤ k) (h5 : k ≤ 5) (hx : x ≤ pts + 1) : ∃ D', M_X2_join D (nI k) (nI g) (nI x) = some D' ∧ EC pts hm (n + 1) (setp fm n g) (setp kd n k) (setp ps n x) D' ∧ ECt thr trn cub ow D' := by
  have okm := ok.more h8 hg h1 h5 hx
  obtain ⟨e1, e2, e3, e4, e5, e6⟩ := E
  have hE : ECg pts hm (n + 1) (setp fm n g) (setp kd n k) (setp ps n x) (cntA n fm ps) (pipS pts n fm ps) (outS pts hm n fm ps) (bd_s_places (bd_s_kindsTold (bd_s_firms (bd_s_men D (nI (n + 1))) (upd (bd_firms D) n (nI g))) (upd (bd_kindsTold D) n (nI k))) (upd (bd_places D) n (nI x))) := by
    refine ⟨e1, e2, rfl, fun i hi => ⟨?_, ?_, ?_⟩, e5, e6⟩
    · show upd (bd_firms D) n (nI g) i = _
      refine upd_f (fun e => ?_) (fun e => ?_)
      · rw [e, setp_at]
      · rw [setp_ne e]; exact (e4 i (by omega)).1
    · show upd (bd_kindsTold D) n (nI k) i = _
      refine upd_f (fun e => ?_) (fun e => ?_)
      · rw [e, setp_at]
      · rw [setp_ne e]; exact (e4 i (by omega)).2.1
    · show upd (bd_places D) n (nI x) i = _
      refine upd_f (fun e => ?_) (fun e => ?_)
      · rw [e, setp_at]
      · rw [setp_ne e]; exact (e4 i (by omega)).2.2
  obtain ⟨D', t1, t2, t3⟩ := sp_tally hE okm (show n < n + 1 by omega) 1 (cntA (n + 1) (setp fm n g) (setp ps n x)) (pipS pts (n + 1) (setp fm n g) (setp ps n x)) (outS pts hm (n + 1) (setp fm n g) (setp ps n x))
    (fun f a hf ha => by
      rw [cnt_more (k := 0), setp_at, setp_at]
      by_cases c : g = f ∧ x = a
      · rw [if_pos c, if_pos c, nI_p1]
      · rw [if_neg c, if_neg c]; rfl)
    (fun f hf => by
      rw [pip_more, setp_at, setp_at]
      by_cases c : g = f
      · rw [if_pos c, if_pos c, ← c, Int32.one_mul, nI_add]
      · rw [if_neg c, if_neg c]; rfl)
    (fun f hf => by
      rw [out_more, setp_at, setp_at]
      by_cases c : g = f ∧ hm < pipA pts f x
      · rw [if_pos c, if_pos c, nI_p1]
      · rw [if_neg c, if_neg c]; rfl)
  refine ⟨D', ?_, t2, T.same t3⟩
  unfold M_X2_join
  rw [e3, if_pos (inb_nI (show n < 8 by omega) (by omega)), cl (show n < 2 ^ 31 by omega), nI_p1, t1]
  rfl
end LAWT
theorem Flt.to {rd : RD} {S S' : MS} {f : Int32} (h : Flt rd S f) (e : ms_begins S' = ms_begins S) : Flt rd S' f := by
  obtain ⟨w, p, h1, h2, h3, h4, h5, h6⟩ := h
  exact ⟨w, p, h1, h2, h3, h4, h5, e.trans h6⟩
theorem op_readKinds (S : MS) (v : Nat → Int32) : ∃ T, T = ms_s_readKinds S v ∧ Ko S T ∧ ms_spot T = ms_spot S ∧ ms_begins T = ms_begins S ∧ ms_number T = ms_number S ∧ ms_readKinds T = v ∧ ms_readPoints T = ms_readPoints S ∧ ms_readHome T = ms_readHome S ∧ ms_readMen T = ms_readMen S ∧ ms_readFirms T = ms_readFirms S ∧ ms_readAt T = ms_readAt S := ⟨_, rfl, ko_readKinds S v, rfl, rfl, rfl, rfl, rfl, rfl, rfl, rfl, rfl⟩
theorem op_readFirms (S : MS) (v : Nat → Int32) : ∃ T, T = ms_s_readFirms S v ∧ Ko S T ∧ ms_spot T = ms_spot S ∧ ms_begins T = ms_begins S ∧ ms_number T = ms_number S ∧ ms_readFirms T = v ∧ ms_readPoints T = ms_readPoints S ∧ ms_readHome T = ms_readHome S ∧ ms_readMen T = ms_readMen S ∧ ms_readKinds T = ms_readKinds S ∧ ms_readAt T = ms_readAt S := ⟨_, rfl, ko_readFirms S v, rfl, rfl, rfl, rfl, rfl, rfl, rfl, rfl, rfl⟩
theorem op_readAt (S : MS) (v : Nat → Int32) : ∃ T, T = ms_s_readAt S v ∧ Ko S T ∧ ms_spot T = ms_spot S ∧ ms_begins T = ms_begins S ∧ ms_number T = ms_number S ∧ ms_readAt T = v ∧ ms_readPoints T = ms_readPoints S ∧ ms_readHome T = ms_readHome S ∧ ms_readMen T = ms_readMen S ∧ ms_readFirms T = ms_readFirms S ∧ ms_readKinds T = ms_readKinds S := ⟨_, rfl, ko_readAt S v, rfl, rfl, rfl, rfl, rfl, rfl, rfl, rfl, rfl⟩
theorem op_readMen (S : MS) (v : Int32) : ∃ T, T = ms_s_readMen S v ∧ Ko S T ∧ ms_spot T = ms_spot S ∧ ms_begins T = ms_begins S ∧ ms_readMen T = v ∧ ms_readPoints T = ms_readPoints S ∧ ms_readHome T = ms_readHome S ∧ ms_readFirms T = ms_readFirms S ∧ ms_readKinds T = ms_readKinds S ∧ ms_readAt T = ms_readAt S := ⟨_, rfl, ko_readMen S v, rfl, rfl, rfl, rfl, rfl, rfl, rfl, rfl⟩
def RdP (S : MS) (pts hm : Nat) : Prop := ms_readPoints S = nI pts ∧ ms_readHome S = nI hm
def RdM (S : MS) (m : Nat) (fm kd ps : Nat → Nat) : Prop := ms_readMen S = nI m ∧ ∀ i, i < m → ms_readFirms S i = nI (fm i) ∧ ms_readKinds S i = nI (kd i) ∧ ms_readAt S i = nI (ps i) ∧ nI (ps i) ≤ ms_readPoints S
section LAWR
variable {tp : Nat → Nat} {n : Nat} {bs : IA} {S : MS} {p : Nat}
theorem law_two {rd : RD} (hA : At rd n p) (hT : TapeT tp n bs S) (hp : p ≤ n) (hs : ms_spot S = nI p) (D : BD) (hm0 : ms_readMen S = 0) :
    ∃ f S' c rd' D', M_X8_law S = some (f, S') ∧ M_X4_readLaw rd bs D = some (c, rd', D') ∧ Ko S S' ∧ ms_readMen S' = 0 ∧ ((f = 0 ∧ c = 1 ∧ ∃ pts hm q, 4 ≤ pts ∧ pts ≤ 12 ∧ 1 ≤ hm ∧ hm ≤ 4 ∧ q ≤ n ∧ At rd' n q ∧ ms_spot S' = nI q ∧ RdP S' pts hm ∧ (∀ fm kd ps, EC pts hm 0 fm kd ps D') ∧ ECt 0 0 1 (-1000000) D') ∨ (c = 0 ∧ Flt rd' S' f)) := by
  obtain ⟨f1, S1, c1, r1, a1, b1, k1, d1, h1⟩ := sign_two hA hT hp hs (z := 116) (by omega) (by omega) (fun z => by have := z.2; omega) (Or.inl (by omega))
  have a1 : M_X8_sign S (116 : Int32) = _ := a1
  have b1 : M_X4_readSign rd bs (116 : Int32) = _ := b1
  unfold M_X8_law M_X4_readLaw
  rw [a1, b1]
  simp only [ob, jn]
  rcases h1 with ⟨e1, e2, q1, A1, s1⟩ | ⟨e2, F1⟩
  rotate_left
  · simp only [F1.ne, e2, if_false, if_true]
    exact ⟨f1, S1, 0, r1, D, rfl, rfl, k1, d1.2.2.1.trans hm0, Or.inr ⟨rfl, F1.to rfl⟩⟩
  simp only [e1, e2, if_true, show ¬ (1 : Int32) = 0 by decide, if_false]
  obtain ⟨f2, S2, c2, r2, a2, b2, k2, d2, h2⟩ := num_two A1 (hT.ko k1) q1 s1 (lo := 4) (hi := 12) (by omega) (by omega)
  have a2 : M_X8_numberIn S1 (4 : Int32) (12 : Int32) = _ := a2
  have b2 : M_X4_readNumber r1 bs (4 : Int32) (12 : Int32) = _ := b2
  rw [a2, b2]
  simp only [ob]
  have k12 := (k1.trans k2).trans (ko_readPoints S2 (ms_number S2))
  have m12 : ms_readMen (ms_s_readPoints S2 (ms_number S2)) = 0 := (d2.2.2.1.trans d1.2.2.1).trans hm0
  rcases h2 with ⟨e3, v, q, v1, v2, e4, n4, q2, A2, s2⟩ | ⟨e4, F2⟩
  rotate_left
  · simp only [F2.ne, e4, if_false, if_true]
    exact ⟨f2, _, 0, r2, D, rfl, rfl, k12, m12, Or.inr ⟨rfl, F2.to rfl⟩⟩
  have nv : ¬ nI v = (-1000000 : Int32) := nI_ne_no (by omega)
  simp only [e3, e4, nv, if_true, if_false]
  obtain ⟨f3, S3, c3, r3, a3, b3, k3, d3, h3⟩ := sign_two A2 (hT.ko k12) q2 (S := ms_s_readPoints S2 (ms_number S2)) s2 (z := 44) (by omega) (by omega) (fun z => by have := z.1; omega) (Or.inr (Or.inl rfl))
  have a3 : M_X8_sign (ms_s_readPoints S2 (ms_number S2)) (44 : Int32) = _ := a3
  have b3 : M_X4_readSign r2 bs (44 : Int32) = _ := b3
  rw [a3, b3]
  simp only [ob]
  have k13 := k12.trans k3
  have m13 : ms_readMen S3 = 0 := d3.2.2.1.trans m12
  have p3 : ms_readPoints S3 = nI v := d3.1.trans n4
  rcases h3 with ⟨e5, e6, q3, A3, s3⟩ | ⟨e6, F3⟩
  rotate_left
  · simp only [F3.ne, e6, if_false, if_true]
    exact ⟨f3, _, 0, r3, D, rfl, rfl, k13, m13, Or.inr ⟨rfl, F3.to rfl⟩⟩
  simp only [e5, e6, if_true, show ¬ (1 : Int32) = 0 by decide, if_false]
  obtain ⟨f4, S4, c4, r4, a4, b4, k4, d4, h4⟩ := num_two A3 (hT.ko k13) q3 s3 (lo := 1) (hi := 4) (by omega) (by omega)
  have a4 : M_X8_numberIn S3 (1 : Int32) (4 : Int32) = _ := a4
  have b4 : M_X4_readNumber r3 bs (1 : Int32) (4 : Int32) = _ := b4
  rw [a4, b4]
  simp only [ob]
  have k14 := (k13.trans k4).trans (ko_readHome S4 (ms_number S4))
  have m14 : ms_readMen (ms_s_readHome S4 (ms_number S4)) = 0 := d4.2.2.1.trans m13
  have p4 : ms_readPoints (ms_s_readHome S4 (ms_number S4)) = nI v := d4.1.trans p3
  rcases h4 with ⟨e7, w, q4, w1, w2, e8, n8, q5, A4, s4⟩ | ⟨e8, F4⟩
  rotate_left
  · simp only [F4.ne, e8, if_false, if_true]
    exact ⟨f4, _, 0, r4, D, rfl, rfl, k14, m14, Or.inr ⟨rfl, F4.to rfl⟩⟩
  have nw : ¬ nI w = (-1000000 : Int32) := nI_ne_no (by omega)
  simp only [e7, e8, nw, if_true, if_false]
  obtain ⟨f5, S5, c5, r5, a5, b5, k5, d5, h5⟩ := sign_two A4 (hT.ko k14) q5 (S := ms_s_readHome S4 (ms_number S4)) s4 (z := 59) (by omega) (by omega) (fun z => by have := z.2; omega) (Or.inr (Or.inr rfl))
  have a5 : M_X8_sign (ms_s_readHome S4 (ms_number S4)) (59 : Int32) = _ := a5
  have b5 : M_X4_readSign r4 bs (59 : Int32) = _ := b5
  rw [a5, b5]
  simp only [ob]
  have k15 := k14.trans k5
  have m15 : ms_readMen S5 = 0 := d5.2.2.1.trans m14
  rcases h5 with ⟨e9, e10, q6, A5, s5⟩ | ⟨e10, F5⟩
  · obtain ⟨D', g1, g2, g3⟩ := sp_begin D v w
    simp only [e10, show ¬ (1 : Int32) = 0 by decide, if_false, g1, ob]
    exact ⟨f5, S5, 1, r5, D', rfl, rfl, k15, m15, Or.inl ⟨e9, rfl, v, w, _, v1, v2, w1, w2, q6, A5, s5, ⟨d5.1.trans p4, d5.2.1.trans n8⟩, g2, g3⟩⟩
  · simp only [e10, if_true]
    exact ⟨f5, S5, 0, r5, D, rfl, rfl, k15, m15, Or.inr ⟨rfl, F5.to rfl⟩⟩
/-- which kind a letter tells -/
def kdL (z : Nat) : Nat := if z = 99 then 1 else if z = 114 then 2 else if z = 111 then 3 else if z = 112 then 4 else if z = 98 then 5 else 0
theorem kdL_le (z : Nat) : kdL z ≤ 5 := by
  unfold kdL
  repeat' split
  all_goals omega
theorem kdL_let {z : Nat} (h : kdL z ≠ 0) : 97 ≤ z ∧ z ≤ 122 := by
  unfold kdL at h
  repeat' split at h
  all_goals omega
theorem kindOf_is {z : Nat} (h : z < 2 ^ 31) : M_X8_kindOf (nI z) = some (nI (kdL z)) := by
  unfold M_X8_kindOf kdL
  simp only [show ((99 : Int32)) = nI 99 from rfl, show ((114 : Int32)) = nI 114 from rfl, show ((111 : Int32)) = nI 111 from rfl, show ((112 : Int32)) = nI 112 from rfl, show ((98 : Int32)) = nI 98 from rfl, eqI h (show 99 < 2 ^ 31 by omega), eqI h (show 114 < 2 ^ 31 by omega), eqI h (show 111 < 2 ^ 31 by omega), eqI h (show 112 < 2 ^ 31 by omega), eqI h (show 98 < 2 ^ 31 by omega)]
  repeat' split
  all_goals rfl
/-- the letter of a man: on both sides alike -/
theorem kind_two {rd : RD} (hA : At rd n p) (hT : TapeT tp n bs S) (hp : p ≤ n) (hs : ms_spot S = nI p) :
    ∃ s t v k, M_X8_next S = some (tokS S s (nI p) t v) ∧ M_X8_kindOf t = some (nI k) ∧ k ≤ 5 ∧ ((k = 0 ∧ M_X4_kindHere rd bs = some (-1000000)) ∨ (1 ≤ k ∧ M_X4_kindHere rd bs = some (nI k) ∧ p + 1 ≤ n ∧ s = nI (p + 1))) := by
  obtain ⟨s, t, v, hn, hc⟩ := s8_next hT hp hs
  have h90 := hT.1
  unfold M_X4_kindHere
  rw [hA.1, hA.2]
  have km1 : M_X8_kindOf (-1) = some (nI 0) := rfl
  by_cases c : p = n
  · have l1 : ¬ nI p < nI n := fun z => absurd ((ltI (by omega) (by omega)).1 z) (by omega)
    have ht : t = -1 := by
      rcases hc with ⟨-, e⟩ | ⟨q, -⟩ | ⟨r, q1, q2, -⟩
      · exact e
      · omega
      · omega
    rw [if_neg l1]
    exact ⟨s, t, v, 0, hn, by rw [ht]; exact km1, by omega, Or.inl ⟨rfl, rfl⟩⟩
  · have l1 : nI p < nI n := (ltI (by omega) (by omega)).2 (by omega)
    obtain ⟨b1, b2, b3⟩ := hT.2.2 p (by omega)
    rw [if_pos l1, inb_nI (show p < 90 by omega) (by omega), cl (show p < 2 ^ 31 by omega), b1]
    have hk7 : (if nI (tp p) = (98 : Int32) then some (5 : Int32) else if nI (tp p) = (99 : Int32) then some 1 else if nI (tp p) = (111 : Int32) then some 3 else if nI (tp p) = (112 : Int32) then some 4 else if nI (tp p) = (114 : Int32) then some 2 else some (-1000000)) = some (if kdL (tp p) = 0 then -1000000 else nI (kdL (tp p))) := by
      have h : tp p < 2 ^ 31 := by omega
      simp only [show ((99 : Int32)) = nI 99 from rfl, show ((114 : Int32)) = nI 114 from rfl, show ((111 : Int32)) = nI 111 from rfl, show ((112 : Int32)) = nI 112 from rfl, show ((98 : Int32)) = nI 98 from rfl, eqI h (show 99 < 2 ^ 31 by omega), eqI h (show 114 < 2 ^ 31 by omega), eqI h (show 111 < 2 ^ 31 by omega), eqI h (show 112 < 2 ^ 31 by omega), eqI h (show 98 < 2 ^ 31 by omega)]
      by_cases z1 : tp p = 98
      · rw [z1]; rfl
      by_cases z2 : tp p = 99
      · rw [z2]; rfl
      by_cases z3 : tp p = 111
      · rw [z3]; rfl
      by_cases z4 : tp p = 112
      · rw [z4]; rfl
      by_cases z5 : tp p = 114
      · rw [z5]; rfl
      have hz : kdL (tp p) = 0 := by
        unfold kdL
        rw [if_neg z2, if_neg z5, if_neg z3, if_neg z4, if_neg z1]
      rw [if_neg z1, if_neg z2, if_neg z3, if_neg z4, if_neg z5, if_pos hz]
    simp only [if_true]
    rw [hk7]
    have hz0 : figA (tp p) → kdL (tp p) = 0 := fun z => by
      rcases Nat.eq_zero_or_pos (kdL (tp p)) with e | e
      · exact e
      · have := kdL_let (z := tp p) (by omega)
        have := z.2
        omega
    rcases hc with ⟨q, -⟩ | ⟨q1, q2, q3, q4⟩ | ⟨r, q1, q2, q3, q4, q5, q6⟩
    · omega
    · by_cases ck : kdL (tp p) = 0
      · refine ⟨s, t, v, 0, hn, ?_, by omega, Or.inl ⟨rfl, by rw [if_pos ck]⟩⟩
        rw [q3]
        split
        · rw [kindOf_is (by omega), ck]
        · exact km1
      · have hl := kdL_let ck
        rw [if_pos (Or.inl hl)] at q3
        exact ⟨s, t, v, kdL (tp p), hn, by rw [q3]; exact kindOf_is (by omega), kdL_le _, Or.inr ⟨by omega, by rw [if_neg ck], by omega, q4⟩⟩
    · have hf : figA (tp p) := by
        have := q3 0 (by omega)
        rw [Nat.add_zero] at this
        exact this
      refine ⟨s, t, v, 0, hn, ?_, by omega, Or.inl ⟨rfl, by rw [if_pos (hz0 hf)]⟩⟩
      rw [q5]
      split
      · rfl
      · exact km1
theorem man_two {rd : RD} (hA : At rd n p) (hT : TapeT tp n bs S) (hp : p ≤ n) (hs : ms_spot S = nI p) {pts hm m : Nat} {fm kd ps : Nat → Nat} {D : BD} (hP : RdP S pts hm) (hM : RdM S m fm kd ps) (ok : OKb pts hm m fm kd ps) (E : EC pts hm m fm kd ps D) (T : ECt 0 0 1 (-1000000) D) :
    ∃ f S' c rd' D', M_X8_manItem S = some (f, S') ∧ M_X4_readMan rd bs D = some (c, rd', D') ∧ Ko S S' ∧ ((f = 0 ∧ c = 1 ∧ ∃ fm' kd' ps' q, q ≤ n ∧ At rd' n q ∧ ms_spot S' = nI q ∧ RdP S' pts hm ∧ RdM S' (m + 1) fm' kd' ps' ∧ OKb pts hm (m + 1) fm' kd' ps' ∧ EC pts hm (m + 1) fm' kd' ps' D' ∧ ECt 0 0 1 (-1000000) D') ∨ (c = 0 ∧ Flt rd' S' f)) := by
  obtain ⟨s, t, v, k, hn, hk, hk5, hc⟩ := kind_two hA hT hp hs
  have m8 : m ≤ 8 := ok.2.2.2.2.1
  have hpt : pts ≤ 12 := ok.2.1
  obtain ⟨i1, i2, i3, i4⟩ := tokS_is S s (nI p) t v
  have ko1 := tokS_ko S s (nI p) t v
  have kd1 := tokS_kd S s (nI p) t v
  generalize tokS S s (nI p) t v = S1 at *
  have fault : ∀ w, 1 ≤ w → w ≤ 3 → Flt (rd_s_faultPlace (rd_s_faultNumber rd (nI w)) (rd_at rd)) S1 (nI w) := fun w a b => ⟨w, p, a, b, rfl, rfl, hA.2, i2⟩
  unfold M_X8_manItem M_X4_readMan
  rw [hn]
  simp only [ob]
  rw [i3, hk]
  simp only [ob, jn]
  rcases hc with ⟨e, h7⟩ | ⟨e, h7, q1, q2⟩
  · subst e
    rw [h7, if_pos (show nI 0 = (0 : Int32) from rfl)]
    simp only [ob, if_true, fail_is, true_or]
    exact ⟨nI 1, S1, 0, _, D, rfl, rfl, ko1, Or.inr ⟨rfl, fault 1 (by omega) (by omega)⟩⟩
  · have nk : ¬ nI k = (-1000000 : Int32) := nI_ne_no (by omega)
    have nk0 : ¬ nI k = (0 : Int32) := fun z => absurd ((eqI (b := 0) (by omega) (by omega)).1 z) (by omega)
    have hm1 : ms_readMen S1 = nI m := kd1.2.2.1.trans hM.1
    rw [h7, if_neg nk0, hm1, E.2.2.1]
    simp only [ob, nk, if_false, show ((8 : Int32)) = nI 8 from rfl, eqI (show m < 2 ^ 31 by omega) (show 8 < 2 ^ 31 by omega), ltI (show m < 2 ^ 31 by omega) (show 8 < 2 ^ 31 by omega)]
    by_cases c8 : m = 8
    · rw [if_pos c8, if_neg (by omega)]
      simp only [fail_is, ob, true_or, if_true]
      exact ⟨nI 3, S1, 0, _, D, rfl, rfl, ko1, Or.inr ⟨rfl, fault 3 (by omega) (by omega)⟩⟩
    · have hm8 : m < 8 := by omega
      rw [if_neg c8, if_pos hm8, inb_nI hm8 (by omega), cl (show m < 2 ^ 31 by omega), hA.2, nI_p1]
      simp only [if_true]
      -- the firm
      have A1 : At (rd_s_at rd (nI (p + 1))) n (p + 1) := ⟨hA.1, rfl⟩
      obtain ⟨T2, eT2, kT2, sT2, bT2, nT2, vT2, oP2, oH2, oM2, oF2, oA2⟩ := op_readKinds S1 (upd (ms_readKinds S1) m (nI k))
      rw [← eT2]
      clear eT2
      have ko2 := ko1.trans kT2
      obtain ⟨f2, S2, c2, r2, a2, b2, k2, d2, h2⟩ := num_two A1 (hT.ko ko2) q1 (sT2.trans (i1.trans q2)) (lo := 0) (hi := 1) (by omega) (by omega)
      have a2 : M_X8_numberIn T2 (0 : Int32) (1 : Int32) = some (f2, S2) := a2
      have b2 : M_X4_readNumber (rd_s_at rd (nI (p + 1))) bs (0 : Int32) (1 : Int32) = some (c2, r2) := b2
      rw [a2, b2]
      simp only [ob]
      have hm2 : ms_readMen S2 = nI m := (d2.2.2.1.trans oM2).trans hm1
      rw [hm2, inb_nI hm8 (by omega), cl (show m < 2 ^ 31 by omega)]
      simp only [if_true]
      obtain ⟨T3, eT3, kT3, sT3, bT3, nT3, vT3, oP3, oH3, oM3, oK3, oA3⟩ := op_readFirms S2 (upd (ms_readFirms S2) m (ms_number S2))
      rw [← eT3]
      clear eT3
      have ko3 := (ko2.trans k2).trans kT3
      have hmT3 : ms_readMen T3 = nI m := oM3.trans hm2
      rcases h2 with ⟨e3, g, q, v1, v2, e4, n4, q3, A2, s2⟩ | ⟨e4, F2⟩
      rotate_left
      · obtain ⟨T9, eT9, kT9, sT9, bT9, -⟩ := op_readMen T3 (nI m + 1)
        simp only [F2.ne, e4, if_false, if_true]
        rw [← eT9]
        exact ⟨f2, T9, 0, r2, D, rfl, rfl, ko3.trans kT9, Or.inr ⟨rfl, F2.to (bT9.trans bT3)⟩⟩
      have ng : ¬ nI g = (-1000000 : Int32) := nI_ne_no (by omega)
      simp only [e3, e4, ng, if_true, if_false]
      -- the sign
      obtain ⟨f3, S3, c3, r3, a3, b3, k3, d3, h3⟩ := sign_two A2 (hT.ko ko3) q3 (sT3.trans s2) (z := 44) (by omega) (by omega) (fun z => by have := z.1; omega) (Or.inr (Or.inl rfl))
      have a3 : M_X8_sign T3 (44 : Int32) = some (f3, S3) := a3
      have b3 : M_X4_readSign r2 bs (44 : Int32) = some (c3, r3) := b3
      rw [a3, b3]
      simp only [ob]
      have ko4 := ko3.trans k3
      have hm3 : ms_readMen S3 = nI m := d3.2.2.1.trans hmT3
      have fi3 : ms_readFirms S3 = upd (ms_readFirms S) m (nI g) := by
        rw [d3.2.2.2.1, vT3, n4, d2.2.2.2.1, oF2, kd1.2.2.2.1]
      have ki3 : ms_readKinds S3 = upd (ms_readKinds S) m (nI k) := by
        rw [d3.2.2.2.2.1, oK3, d2.2.2.2.2.1, vT2, kd1.2.2.2.2.1]
      have at3 : ms_readAt S3 = ms_readAt S := by
        rw [d3.2.2.2.2.2, oA3, d2.2.2.2.2.2, oA2, kd1.2.2.2.2.2]
      have pt3 : ms_readPoints S3 = nI pts := by
        rw [d3.1, oP3, d2.1, oP2, kd1.1]
        exact hP.1
      have ho3 : ms_readHome S3 = nI hm := by
        rw [d3.2.1, oH3, d2.2.1, oH2, kd1.2.1]
        exact hP.2
      rcases h3 with ⟨e5, e6, q4, A3, s3⟩ | ⟨e6, F3⟩
      rotate_left
      · obtain ⟨T9, eT9, kT9, sT9, bT9, -⟩ := op_readMen S3 (ms_readMen S3 + 1)
        simp only [F3.ne, e6, if_false, if_true]
        rw [← eT9]
        exact ⟨f3, T9, 0, r3, D, rfl, rfl, ko4.trans kT9, Or.inr ⟨rfl, F3.to bT9⟩⟩
      simp only [e5, e6, if_true, show ¬ (1 : Int32) = 0 by decide, if_false]
      -- where
      obtain ⟨f4, S4, c4, r4, a4, b4, k4, d4, h4⟩ := num_two A3 (hT.ko ko4) q4 s3 (lo := 0) (hi := pts) (by omega) (by omega)
      have a4 : M_X8_numberIn S3 (0 : Int32) (nI pts) = some (f4, S4) := a4
      have b4 : M_X4_readNumber r3 bs (0 : Int32) (nI pts) = some (c4, r4) := b4
      rw [pt3, a4, sp_bar E]
      simp only [ob]
      rw [b4]
      simp only [ob]
      have hm4 : ms_readMen S4 = nI m := d4.2.2.1.trans hm3
      rw [hm4, inb_nI hm8 (by omega), cl (show m < 2 ^ 31 by omega)]
      simp only [if_true]
      obtain ⟨T5, eT5, kT5, sT5, bT5, nT5, vT5, oP5, oH5, oM5, oF5, oK5⟩ := op_readAt S4 (upd (ms_readAt S4) m (ms_number S4))
      rw [← eT5]
      clear eT5
      have ko5 := (ko4.trans k4).trans kT5
      rcases h4 with ⟨e7, x, q5, x1, x2, e8, n8, q6, A4, s4⟩ | ⟨e8, F4⟩
      rotate_left
      · obtain ⟨T9, eT9, kT9, sT9, bT9, -⟩ := op_readMen T5 (nI m + 1)
        simp only [F4.ne, e8, if_false, if_true]
        rw [← eT9]
        exact ⟨f4, T9, 0, r4, D, rfl, rfl, ko5.trans kT9, Or.inr ⟨rfl, F4.to (bT9.trans bT5)⟩⟩
      have nx : ¬ nI x = (-1000000 : Int32) := nI_ne_no (by omega)
      simp only [e7, e8, nx, if_true, if_false]
      -- the end
      obtain ⟨f5, S5, c5, r5, a5, b5, k5, d5, h5⟩ := sign_two A4 (hT.ko ko5) q6 (sT5.trans s4) (z := 59) (by omega) (by omega) (fun z => by have := z.2; omega) (Or.inr (Or.inr rfl))
      have a5 : M_X8_sign T5 (59 : Int32) = some (f5, S5) := a5
      have b5 : M_X4_readSign r4 bs (59 : Int32) = some (c5, r5) := b5
      rw [a5, b5]
      simp only [ob]
      have hm5 : ms_readMen S5 = nI m := (d5.2.2.1.trans oM5).trans hm4
      obtain ⟨T9, eT9, kT9, sT9, bT9, vT9, oP9, oH9, oF9, oK9, oA9⟩ := op_readMen S5 (ms_readMen S5 + 1)
      rw [← eT9]
      clear eT9
      have ko6 := (ko5.trans k5).trans kT9
      rcases h5 with ⟨e9, e10, q7, A5, s5⟩ | ⟨e10, F5⟩
      rotate_left
      · simp only [e10, if_true]
        exact ⟨f5, T9, 0, r5, D, rfl, rfl, ko6, Or.inr ⟨rfl, F5.to bT9⟩⟩
      obtain ⟨D', g1, g2, g3⟩ := sp_join E T ok (k := k) (g := g) (x := x) hm8 (by omega) e hk5 (by omega)
      simp only [e10, show ¬ (1 : Int32) = 0 by decide, if_false, g1, ob]
      refine ⟨f5, T9, 1, r5, D', rfl, rfl, ko6, Or.inl ⟨e9, rfl, setp fm m g, setp kd m k, setp ps m x, _, q7, A5, sT9.trans s5, ⟨?_, ?_⟩, ⟨?_, fun i hi => ?_⟩, ok.more hm8 (by omega) e hk5 (by omega), g2, g3⟩⟩
      · rw [oP9, d5.1, oP5, d4.1]
        exact pt3
      · rw [oH9, d5.2.1, oH5, d4.2.1]
        exact ho3
      · rw [vT9, hm5, nI_p1]
      · have hf : ms_readFirms T9 = upd (ms_readFirms S) m (nI g) := by
          rw [oF9, d5.2.2.2.1, oF5, d4.2.2.2.1]
          exact fi3
        have hkk : ms_readKinds T9 = upd (ms_readKinds S) m (nI k) := by
          rw [oK9, d5.2.2.2.2.1, oK5, d4.2.2.2.2.1]
          exact ki3
        have ha : ms_readAt T9 = upd (ms_readAt S) m (nI x) := by
          rw [oA9, d5.2.2.2.2.2, vT5, n8, d4.2.2.2.2.2, at3]
        have pt9 : ms_readPoints T9 = nI pts := by
          rw [oP9, d5.1, oP5, d4.1]
          exact pt3
        rw [hf, hkk, ha, pt9]
        by_cases ei : i = m
        · rw [ei, upd_at, upd_at, upd_at, setp_at, setp_at, setp_at]
          exact ⟨rfl, rfl, rfl, (leI (by omega) (by omega)).2 x2⟩
        · rw [upd_ne ei, upd_ne ei, upd_ne ei, setp_ne ei, setp_ne ei, setp_ne ei]
          have hMi := hM.2 i (by omega)
          rw [hP.1] at hMi
          exact hMi
end LAWR
