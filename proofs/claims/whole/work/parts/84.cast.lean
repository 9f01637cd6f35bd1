/-! ===== cast, played, kinds ===== -/
def cF7 (S0 : FS) (S1 : BD) (S3 : IA) : (Int32 × Int32 × BD → Option (Int32 × BD)) → Int32 × Int32 × BD → Option (Int32 × BD) := (fun rec1 st1 => (if (6 : Int32) < st1.2.1 then (some (st1.1, st1.2.2)) else ((M_X2_copyFrom S1 st1.2.2).bind (fun u3 => ((M_X2_turnByRule u3 st1.2.1).bind (fun u4 => ((M_X3_isAsTold S0 u4.2 S3).bind (fun u5 => (if u5 = 0 then (rec1 (st1.1, (st1.2.1 + (1 : Int32)), u4.2)) else (rec1 ((st1.1 ||| ((1 : Int32) <<< (st1.2.1 &&& 31))), (st1.2.1 + (1 : Int32)), u4.2)))))))))))
def cF8 (i1 i2 : Int32) : (Int32 × Int32 × MS → Option (Int32 × MS)) → Int32 × Int32 × MS → Option (Int32 × MS) := (fun rec8 st8 => (if (7 : Int32) ≤ st8.2.1 then (some (st8.1, st8.2.2)) else ((M_X8_aside st8.2.2 (0 : Int32)).bind (fun u11 => ((M_X8_goRuled u11 (0 : Int32) st8.2.1).bind (fun u12 => ((M_X8_isAs u12.2 (0 : Int32) i1 i2).bind (fun u13 => (if u13 = 0 then (rec8 ((st8.1 ||| (0 : Int32)), (st8.2.1 + (1 : Int32)), u12.2)) else (rec8 ((st8.1 ||| ((1 : Int32) <<< (st8.2.1 &&& 31))), (st8.2.1 + (1 : Int32)), u12.2)))))))))))
def pF7 (S0 : BD) (S1 : FS) (S3 : IA) (i2 : Int32) (u1 : Int32) : (Int32 × Int32 × BD → Option (Int32 × BD)) → Int32 × Int32 × BD → Option (Int32 × BD) := (fun rec2 st2 => (if (bd_men S0) ≤ st2.2.1 then (some (st2.1, st2.2.2)) else (if (u1 &&& ((1 : Int32) <<< (st2.2.1 &&& 31))) = 0 then (rec2 (st2.1, (st2.2.1 + (1 : Int32)), st2.2.2)) else ((M_X2_copyFrom S0 st2.2.2).bind (fun u5 => ((M_X2_go u5 st2.2.1 i2).bind (fun u6 => ((M_X3_isAsTold S1 u6.2 S3).bind (fun u7 => (if u7 = 0 then (rec2 (st2.1, (st2.2.1 + (1 : Int32)), u6.2)) else (rec2 ((st2.1 ||| ((1 : Int32) <<< (st2.2.1 &&& 31))), (st2.2.1 + (1 : Int32)), u6.2))))))))))))
def pF8 (i1 i2 i3 : Int32) : (Int32 × Int32 × MS → Option (Int32 × MS)) → Int32 × Int32 × MS → Option (Int32 × MS) := (fun rec10 st10 => (if (ms_men st10.2.2) ≤ st10.2.1 then (some (st10.1, st10.2.2)) else ((M_X8_aside st10.2.2 (0 : Int32)).bind (fun u13 => (if inb st10.2.1 8 = true then (if ((ms_firms u13) (st10.2.1).toNatClampNeg) = ((ms_now u13) ((8 : Int32)).toNatClampNeg) then ((M_X8_can u13 (0 : Int32) st10.2.1 i1).bind (fun u16 => (if u16 = 0 then (rec10 (st10.1, (st10.2.1 + (1 : Int32)), u13)) else ((M_X8_goMan u13 (0 : Int32) st10.2.1 i1).bind (fun u18 => ((M_X8_isAs u18 (0 : Int32) i2 i3).bind (fun u19 => (if u19 = 0 then (rec10 ((st10.1 ||| (0 : Int32)), (st10.2.1 + (1 : Int32)), u18)) else (rec10 ((st10.1 ||| ((1 : Int32) <<< (st10.2.1 &&& 31))), (st10.2.1 + (1 : Int32)), u18)))))))))) else (rec10 (st10.1, (st10.2.1 + (1 : Int32)), u13))) else none)))))
def kF7 (S0 : FS) (S1 : BD) (S3 : IA) (i2 i3 : Int32) : (Int32 × Int32 × BD → Option (Int32 × BD)) → Int32 × Int32 × BD → Option (Int32 × BD) := (fun rec1 st1 => (if (6 : Int32) ≤ st1.2.1 then (some (st1.1, st1.2.2)) else ((M_X2_copyFrom S1 st1.2.2).bind (fun u3 => (if inb i2 8 = true then ((M_X2_turnByRule ((bd_s_kindsTold u3 (upd (bd_kindsTold u3) (i2).toNatClampNeg st1.2.1))) i3).bind (fun u5 => ((M_X3_isAsTold S0 u5.2 S3).bind (fun u6 => (if u6 = 0 then (rec1 (st1.1, (st1.2.1 + (1 : Int32)), u5.2)) else (rec1 ((st1.1 ||| ((1 : Int32) <<< (st1.2.1 &&& 31))), (st1.2.1 + (1 : Int32)), u5.2))))))) else none)))))
def kF8 (i2 i3 i4 : Int32) : (Int32 × MS → Option (Int32 × MS)) → Int32 × MS → Option (Int32 × MS) := (fun rec11 st11 => (if (6 : Int32) ≤ (ms_otherKind st11.2) then (some (st11.1, st11.2)) else ((M_X8_aside st11.2 (0 : Int32)).bind (fun u14 => ((M_X8_goRuled u14 (0 : Int32) i2).bind (fun u15 => ((M_X8_isAs u15.2 (0 : Int32) i3 i4).bind (fun u16 => (jn (σ := Int32) (fun v17 => (rec11 ((st11.1 ||| v17), (ms_s_otherKind u15.2 ((ms_otherKind u15.2) + (1 : Int32)))))) (fun J17 => (if u16 = 0 then (J17 (0 : Int32)) else (J17 ((1 : Int32) <<< ((ms_otherKind u15.2) &&& 31))))))))))))))
/-- what an ask of a row begins with, on both sides -/
theorem ptwo {α β : Type} (v : α) (a b : β) : (v, a, b).2.1 = a := rfl
section CAST
variable {pts hm n : Nat} {fm kd ps : Nat → Nat} {L : BD} {S : MS} {thr trn cub : Nat} {ow : Int32} {rw_ : RW}
theorem cast_two {S0 : FS} (B : TabR L S pts hm n fm kd ps thr trn cub ow) (hR : RelRow rw_ S) (told : IA) {r j : Nat} (hr : r < 8) (hj : j + n ≤ 40) (M : BD) {S1 : MS} (k1 : Kp S S1) (n1 : Kn S S1) :
    ∃ b1 b2, lp (cF7 S0 L (va_cpy (rw_items rw_) told (r * 40 + j) 0 n)) 1000000 ((0 : Int32), (1 : Int32), M) = some b1 ∧ lp (cF8 (nI r) (nI j)) 1000000 ((0 : Int32), (1 : Int32), S1) = some b2 ∧ b1.1 = b2.1 ∧ Kp S b2.2 ∧ Kn S b2.2 := by
  have hn := B.n8
  obtain ⟨c1, ok, okt, E, T, EM, TM, c6, hoo⟩ := B
  refine lp_two (F1 := cF7 S0 L (va_cpy (rw_items rw_) told (r * 40 + j) 0 n)) (F2 := cF8 (nI r) (nI j)) (a1 := ((0 : Int32), (1 : Int32), M)) (a2 := ((0 : Int32), (1 : Int32), S1)) (N := 1000000) (fun k (s1 : Int32 × Int32 × BD) (s2 : Int32 × Int32 × MS) => s1.1 = s2.1 ∧ s1.2.1 = nI (k + 1) ∧ s2.2.1 = nI (k + 1) ∧ Kp S s2.2.2 ∧ Kn S s2.2.2) (fun (b1 : Int32 × BD) (b2 : Int32 × MS) => b1.1 = b2.1 ∧ Kp S b2.2 ∧ Kn S b2.2) 6 ?_ ?_ ⟨rfl, rfl, rfl, k1, n1⟩ (by omega)
  · rintro k ⟨v, s1, M1⟩ ⟨v', s2, S2⟩ hk ⟨rfl, rfl, rfl, kp, kn⟩
    refine Or.inl ?_
    obtain ⟨L1, p1, p2, p3⟩ := sp_copyFrom E hn M1
    obtain ⟨L2, h1, h2, h3⟩ := sp_turnByRule (d := k + 1) p2 (T.same p3) ok okt.1 (by omega) (by omega)
    have EM2 := EM.kp kp kn.1
    have TM2 : EMt thr trn cub ow (ms_now S2) := by rw [kn.1]; exact TM
    obtain ⟨S3, q1, q2, q3, q4⟩ := kp_aside S2 (D := 0) (by omega)
    have q1 : M_X8_aside S2 (0 : Int32) = _ := q1
    have hS3 := (es_of EM hoo hn).kp (kp.trans q2)
    obtain ⟨S4, r1, r2, r3, r4, r5, r6⟩ := kp_goRuled (d := k + 1) hS3 (er_rows EM2 hn q4) (emt_rows TM2 q4) (show 0 < 4 by omega) ok okt.1 (by omega) (by omega)
    have r1 : M_X8_goRuled S3 (0 : Int32) (nI (k + 1)) = _ := r1
    have kp4 := (kp.trans q2).trans r5
    have hR4 : RelRow rw_ S4 := by
      unfold RelRow at hR ⊢
      rw [kp4.1.2.2.1, kp4.1.2.2.2.1, kp4.1.2.2.2.2.1]
      exact hR
    have a7 := sp_isAsTold (S0 := S0) h2 ok.tur (va_cpy (rw_items rw_) told (r * 40 + j) 0 n)
    have a8 : M_X8_isAs S4 (0 : Int32) (nI r) (nI j) = _ := s8_isAs (hS3.kp r5).2.2.1 r2 (show 0 < 4 by omega) ok.tur hr hj
    rw [told_same hR4 hr hj] at a7
    by_cases c : allB (asP pts (fun k => ms_items S4 (40 * r + j + k)) (turA pts hm n fm kd ps thr (k + 1))) n = true
    · refine ⟨(v ||| btI (k + 1), nI (k + 1 + 1), L2), (v ||| btI (k + 1), nI (k + 1 + 1), S4), ⟨rfl, rfl, rfl, kp4, (kn.trans q3).trans r6⟩, fun rec => ?_, fun rec => ?_⟩
      · simp only [cF7, show ((6 : Int32)) = nI 6 from rfl, thr_idx hk, if_false, p1, ob, h1, a7, b01_t c, show ¬ (1 : Int32) = 0 by decide, nI_p1]
        rfl
      · simp only [cF8, show ((7 : Int32)) = nI 7 from rfl, thr_idx7 hk, if_false, q1, ob, r1, a8, b01_t c, show ¬ (1 : Int32) = 0 by decide, nI_p1]
        rfl
    · refine ⟨(v, nI (k + 1 + 1), L2), (v, nI (k + 1 + 1), S4), ⟨rfl, rfl, rfl, kp4, (kn.trans q3).trans r6⟩, fun rec => ?_, fun rec => ?_⟩
      · simp only [cF7, show ((6 : Int32)) = nI 6 from rfl, thr_idx hk, if_false, p1, ob, h1, a7, b01_f c, if_true, nI_p1]
      · simp only [cF8, show ((7 : Int32)) = nI 7 from rfl, thr_idx7 hk, if_false, q1, ob, r1, a8, b01_f c, if_true, nI_p1, or_z]
  · rintro ⟨v, s1, M1⟩ ⟨v', s2, S2⟩ ⟨rfl, rfl, rfl, kp, kn⟩
    exact ⟨(v, M1), (v, S2), ⟨rfl, kp, kn⟩, fun rec => by simp only [cF7, show (6 : Int32) < nI (6 + 1) by decide, if_true], fun rec => by simp only [cF8, show (7 : Int32) ≤ nI (6 + 1) by decide, if_true]⟩
theorem btI_and : ∀ i, i < 8 → ∀ k, k < 8 → btI i &&& btI k = if i = k then btI k else 0 := by decide
theorem orS_and (f : Nat → Int32) (x : Int32) : ∀ n, orS f n &&& x = orS (fun k => f k &&& x) n
  | 0 => by show (0 : Int32) &&& x = 0; exact Int32.zero_and
  | n + 1 => by
    rw [orS_s, orS_s, ← orS_and f x n]
    apply Int32.toBitVec_inj.1
    simp only [Int32.toBitVec_and, Int32.toBitVec_or]
    exact BitVec.and_or_distrib_right
theorem msk_bit {f d k : Nat} (hn : n ≤ 8) (hk : k < n) : mskA pts hm n fm kd ps f d n &&& ((1 : Int32) <<< (nI k &&& 31)) = 0 ↔ ¬ (fm k = f ∧ canA pts hm n fm kd ps k d = true) := by
  show mskA pts hm n fm kd ps f d n &&& btI k = 0 ↔ _
  rw [msk_or, orS_and]
  have h : orS (fun i => (if fm i = f ∧ canA pts hm n fm kd ps i d = true then btI i else 0) &&& btI k) n = orS (fun i => if i = k ∧ fm i = f ∧ canA pts hm n fm kd ps i d = true then btI k else 0) n := orS_cong (fun i hi => by
    by_cases c : fm i = f ∧ canA pts hm n fm kd ps i d = true
    · rw [if_pos c, btI_and i (by omega) k (by omega)]
      by_cases e : i = k
      · rw [if_pos e, if_pos ⟨e, c⟩]
      · rw [if_neg e, if_neg (fun z => e z.1)]
    · rw [if_neg c, if_neg (fun z => c z.2)]
      exact Int32.zero_and)
  rw [h, orS_if]
  by_cases c : fm k = f ∧ canA pts hm n fm kd ps k d = true
  · rw [if_pos ⟨k, hk, rfl, c⟩]
    exact ⟨fun z => absurd z (btI_ne k (by omega)), fun z => absurd c z⟩
  · rw [if_neg (fun ⟨i, a, e, b⟩ => c (by rw [e] at b; exact b))]
    exact ⟨fun _ => c, fun _ => rfl⟩
theorem played_two {S0 : FS} (B : TabR L S pts hm n fm kd ps thr trn cub ow) (hR : RelRow rw_ S) (told : IA) {r j d : Nat} (hr : r < 8) (hj : j + n ≤ 40) (hd1 : 1 ≤ d) (hd : d ≤ 6) (M : BD) {S1 : MS} (k1 : Kp S S1) (n1 : Kn S S1) :
    ∃ b1 b2, lp (pF7 L S0 (va_cpy (rw_items rw_) told (r * 40 + j) 0 n) (nI d) (mskA pts hm n fm kd ps thr d n)) 1000000 ((0 : Int32), (0 : Int32), M) = some b1 ∧ lp (pF8 (nI d) (nI r) (nI j)) 1000000 ((0 : Int32), (0 : Int32), S1) = some b2 ∧ b1.1 = b2.1 ∧ Kp S b2.2 ∧ Kn S b2.2 := by
  have hn := B.n8
  obtain ⟨c1, ok, okt, E, T, EM, TM, c6, hoo⟩ := B
  refine lp_two (F1 := pF7 L S0 (va_cpy (rw_items rw_) told (r * 40 + j) 0 n) (nI d) (mskA pts hm n fm kd ps thr d n)) (F2 := pF8 (nI d) (nI r) (nI j)) (a1 := ((0 : Int32), (0 : Int32), M)) (a2 := ((0 : Int32), (0 : Int32), S1)) (N := 1000000) (fun k (s1 : Int32 × Int32 × BD) (s2 : Int32 × Int32 × MS) => s1.1 = s2.1 ∧ s1.2.1 = nI k ∧ s2.2.1 = nI k ∧ Kp S s2.2.2 ∧ Kn S s2.2.2) (fun (b1 : Int32 × BD) (b2 : Int32 × MS) => b1.1 = b2.1 ∧ Kp S b2.2 ∧ Kn S b2.2) n ?_ ?_ ⟨rfl, rfl, rfl, k1, n1⟩ (by omega)
  · rintro k ⟨v, s1, M1⟩ ⟨v', s2, S2⟩ hk ⟨rfl, rfl, rfl, kp, kn⟩
    refine Or.inl ?_
    have l1 : ¬ nI n ≤ nI k := nI_ge hk (by omega)
    have o1 := (ok.2.2.2.2.2 k hk).1
    have ot := okt.1
    have EM2 := EM.kp kp kn.1
    obtain ⟨S3, q1, q2, q3, q4⟩ := kp_aside S2 (D := 0) (by omega)
    have q1 : M_X8_aside S2 (0 : Int32) = _ := q1
    have kp3 := kp.trans q2
    have kn3 := kn.trans q3
    have EM3 := EM.kp kp3 kn3.1
    have hS3 := (es_of EM hoo hn).kp kp3
    have hE3 : ER pts n ps 0 S3 := er_rows EM2 hn q4
    have hcan : M_X8_can S3 (0 : Int32) (nI k) (nI d) = _ := s8_can hS3 hE3 (show 0 < 4 by omega) ok hk hd1 hd
    have t8 : ms_now S3 ((8 : Int32)).toNatClampNeg = nI thr := by rw [kn3.1]; exact TM.2.1
    have f1 : ms_firms S3 (nI k).toNatClampNeg = nI (fm k) := by rw [cl (show k < 2 ^ 31 by omega)]; exact (EM3.2.2.2 k hk).1
    have hb := msk_bit (pts := pts) (hm := hm) (fm := fm) (kd := kd) (ps := ps) (f := thr) (d := d) hn hk
    have hi8 : inb (nI k) 8 = true := inb_nI (show k < 8 by omega) (by omega)
    have m2 : ms_men S2 = nI n := EM2.2.2.1
    by_cases cf : fm k = thr ∧ canA pts hm n fm kd ps k d = true
    · have hb2 : ¬ mskA pts hm n fm kd ps thr d n &&& ((1 : Int32) <<< (nI k &&& 31)) = 0 := fun z => hb.1 z cf
      have cf1 : nI (fm k) = nI thr := by rw [cf.1]
      obtain ⟨L1, p1, p2, p3⟩ := sp_copyFrom E hn M1
      obtain ⟨L2, h1, h2, h3⟩ := sp_go p2 ok hk hd1 hd (canA_few cf.2)
      obtain ⟨S4, r1, r2, r3, r4, r5⟩ := kp_goMan hS3 hE3 (show 0 < 4 by omega) ok hk hd1 hd
      have r1 : M_X8_goMan S3 (0 : Int32) (nI k) (nI d) = _ := r1
      have hto := aimA_le (pts := pts) (f := fm k) (k := kd k) (d := d) (ok.2.2.2.2.2 k hk).2.2.2
      have kp4 := kp3.trans r4
      have hR4 : RelRow rw_ S4 := by
        unfold RelRow at hR ⊢
        rw [kp4.1.2.2.1, kp4.1.2.2.2.1, kp4.1.2.2.2.2.1]
        exact hR
      have a7 := sp_isAsTold (S0 := S0) h2 (ok.go hto) (va_cpy (rw_items rw_) told (r * 40 + j) 0 n)
      have a8 : M_X8_isAs S4 (0 : Int32) (nI r) (nI j) = _ := s8_isAs (hS3.kp r4).2.2.1 r2 (show 0 < 4 by omega) (ok.go hto) hr hj
      rw [told_same hR4 hr hj] at a7
      by_cases c : allB (asP pts (fun k => ms_items S4 (40 * r + j + k)) (goA pts n fm ps k (aimA pts (fm k) (kd k) (ps k) d))) n = true
      · refine ⟨(v ||| btI k, nI (k + 1), L2), (v ||| btI k, nI (k + 1), S4), ⟨rfl, rfl, rfl, kp4, kn3.trans r5⟩, fun rec => ?_, fun rec => ?_⟩
        · simp only [pF7, E.2.2.1, l1, if_false, hb2, p1, ob, h1, a7, b01_t c, show ¬ (1 : Int32) = 0 by decide, nI_p1]
          rfl
        · simp only [pF8, m2, l1, if_false, q1, ob, hi8, if_true, f1, t8, cf1, hcan, b01_t cf.2, show ¬ (1 : Int32) = 0 by decide, r1, a8, b01_t c, nI_p1]
          rfl
      · refine ⟨(v, nI (k + 1), L2), (v, nI (k + 1), S4), ⟨rfl, rfl, rfl, kp4, kn3.trans r5⟩, fun rec => ?_, fun rec => ?_⟩
        · simp only [pF7, E.2.2.1, l1, if_false, hb2, p1, ob, h1, a7, b01_f c, if_true, nI_p1]
        · simp only [pF8, m2, l1, if_false, q1, ob, hi8, if_true, f1, t8, cf1, hcan, b01_t cf.2, show ¬ (1 : Int32) = 0 by decide, r1, a8, b01_f c, nI_p1, or_z]
    · have hb2 : mskA pts hm n fm kd ps thr d n &&& ((1 : Int32) <<< (nI k &&& 31)) = 0 := hb.2 cf
      refine ⟨(v, nI (k + 1), M1), (v, nI (k + 1), S3), ⟨rfl, rfl, rfl, kp3, kn3⟩, fun rec => ?_, fun rec => ?_⟩
      · simp only [pF7, E.2.2.1, l1, if_false, hb2, if_true, nI_p1]
      · by_cases c1 : fm k = thr
        · have c2 : ¬ canA pts hm n fm kd ps k d = true := fun z => cf ⟨c1, z⟩
          simp only [pF8, m2, l1, if_false, q1, ob, hi8, if_true, f1, t8, c1, hcan, b01_f c2, nI_p1]
        · have c2 : ¬ nI (fm k) = nI thr := fun z => c1 ((eqI (by omega) (by omega)).1 z)
          simp only [pF8, m2, l1, if_false, q1, ob, hi8, if_true, f1, t8, c2, nI_p1]
  · rintro ⟨v, s1, M1⟩ ⟨v', s2, S2⟩ ⟨rfl, rfl, rfl, kp, kn⟩
    have l1 : nI n ≤ nI n := nI_le (Nat.le_refl n) (by omega)
    have m2 : ms_men S2 = nI n := (EM.kp kp kn.1).2.2.1
    exact ⟨(v, M1), (v, S2), ⟨rfl, kp, kn⟩, fun rec => by simp only [pF7, E.2.2.1, l1, if_true], fun rec => by simp only [pF8, m2, l1, if_true]⟩
theorem Kp.ok {A B : MS} (h : Kp A B) (v : Int32) : Kp (ms_s_otherKind A v) (ms_s_otherKind B v) := by
  obtain ⟨⟨a1, a2, a3, a4, a5, a6, a7, a8, a9⟩, ⟨c1, c2, c3, c4, c5, c6, c7, c8⟩, d1, d2⟩ := h
  exact ⟨⟨a1, a2, a3, a4, a5, a6, a7, a8, a9⟩, ⟨c1, c2, c3, c4, c5, c6, c7, rfl⟩, d1, d2⟩
theorem okok (A : MS) (v w : Int32) : ms_s_otherKind (ms_s_otherKind A v) w = ms_s_otherKind A w := rfl
theorem EC.kdS (E : EC pts hm n fm kd ps L) {i k : Nat} : EC pts hm n fm (setp kd i k) ps (bd_s_kindsTold L (upd (bd_kindsTold L) i (nI k))) := by
  obtain ⟨e1, e2, e3, e4, e5, e6⟩ := E
  refine ⟨e1, e2, e3, fun q hq => ⟨(e4 q hq).1, ?_, (e4 q hq).2.2⟩, e5, e6⟩
  show upd (bd_kindsTold L) i (nI k) q = _
  refine upd_f (fun e => ?_) (fun e => ?_)
  · rw [e, setp_at]
  · rw [setp_ne e]; exact (e4 q hq).2.1
theorem OKb.kdS (ok : OKb pts hm n fm kd ps) {i k : Nat} (h1 : 1 ≤ k) (h2 : k ≤ 5) : OKb pts hm n fm (setp kd i k) ps :=
  ⟨ok.1, ok.2.1, ok.2.2.1, ok.2.2.2.1, ok.2.2.2.2.1, fun j hj => by
    obtain ⟨a, b, c, d⟩ := ok.2.2.2.2.2 j hj
    unfold setp
    by_cases e : j = i
    · rw [if_pos e]; exact ⟨a, h1, h2, d⟩
    · rw [if_neg e]; exact ⟨a, b, c, d⟩⟩
theorem ES.other (EM : EMb pts hm n fm kd ps S) (hn : n ≤ 8) {i k : Nat} (hi : i < n) : ES pts hm n fm (setp kd i k) (ms_s_otherKind (ms_s_otherOne S (nI i)) (nI k)) := by
  obtain ⟨e1, e2, e3, e4⟩ := EM
  refine ⟨e1, e2, e3, fun q hq => ⟨(e4 q hq).1, ?_⟩⟩
  show (if nI q = nI i then nI k else ms_kinds S q) = _
  unfold setp
  by_cases e : q = i
  · rw [if_pos (by rw [e]), if_pos e]
  · rw [if_neg (fun z => e ((eqI (by omega) (by omega)).1 z)), if_neg e]; exact (e4 q hq).2.1
theorem kinds_two {S0 : FS} (B : TabR L S pts hm n fm kd ps thr trn cub ow) (hR : RelRow rw_ S) (told : IA) {r j d i : Nat} (hr : r < 8) (hj : j + n ≤ 40) (hi : i < n) (hd1 : 1 ≤ d) (hd : d ≤ 6) (M : BD) {S1 : MS} (k1 : Kp (ms_s_otherKind (ms_s_otherOne S (nI i)) (nI 1)) S1) (n1 : Kn S S1) :
    ∃ b1 b2, lp (kF7 S0 L (va_cpy (rw_items rw_) told (r * 40 + j) 0 n) (nI i) (nI d)) 1000000 ((0 : Int32), (1 : Int32), M) = some b1 ∧ lp (kF8 (nI d) (nI r) (nI j)) 1000000 ((0 : Int32), S1) = some b2 ∧ b1.1 = b2.1 ∧ Kw S b2.2 ∧ Kn S b2.2 := by
  have hn := B.n8
  obtain ⟨c1, ok, okt, E, T, EM, TM, c6, hoo⟩ := B
  have kw : ∀ {v : Int32} {S2 : MS}, Kp (ms_s_otherKind (ms_s_otherOne S (nI i)) v) S2 → Kw S S2 := fun {v S2} q => ((kw_oo S (nI i)).trans (kw_ok _ v)).trans q.w
  refine lp_two (F1 := kF7 S0 L (va_cpy (rw_items rw_) told (r * 40 + j) 0 n) (nI i) (nI d)) (F2 := kF8 (nI d) (nI r) (nI j)) (a1 := ((0 : Int32), (1 : Int32), M)) (a2 := ((0 : Int32), S1)) (N := 1000000) (fun k (s1 : Int32 × Int32 × BD) (s2 : Int32 × MS) => s1.1 = s2.1 ∧ s1.2.1 = nI (k + 1) ∧ Kp (ms_s_otherKind (ms_s_otherOne S (nI i)) (nI (k + 1))) s2.2 ∧ Kn S s2.2) (fun (b1 : Int32 × BD) (b2 : Int32 × MS) => b1.1 = b2.1 ∧ Kw S b2.2 ∧ Kn S b2.2) 5 ?_ ?_ ⟨rfl, rfl, k1, n1⟩ (by omega)
  · rintro k ⟨v, s1, M1⟩ ⟨v', S2⟩ hk ⟨rfl, rfl, kp, kn⟩
    refine Or.inl ?_
    have l1 : ¬ (6 : Int32) ≤ nI (k + 1) := fun z => absurd ((leI (show 6 < 2 ^ 31 by omega) (show k + 1 < 2 ^ 31 by omega)).1 z) (by omega)
    have ek : ms_otherKind S2 = nI (k + 1) := kp.2.1.2.2.2.2.2.2.2
    have hkw := kw kp
    have okk := ok.kdS (i := i) (k := k + 1) (by omega) (by omega)
    obtain ⟨L1, p1, p2, p3⟩ := sp_copyFrom E hn M1
    have T1 : ECt thr trn cub ow (bd_s_kindsTold L1 (upd (bd_kindsTold L1) i (nI (k + 1)))) := T.same p3
    obtain ⟨L2, h1, h2, h3⟩ := sp_turnByRule (d := d) (p2.kdS (i := i) (k := k + 1)) T1 okk okt.1 hd1 hd
    have TM2 : EMt thr trn cub ow (ms_now S2) := by rw [kn.1]; exact TM
    obtain ⟨S3, q1, q2, q3, q4⟩ := kp_aside S2 (D := 0) (by omega)
    have q1 : M_X8_aside S2 (0 : Int32) = _ := q1
    have hS3 := ((ES.other (k := k + 1) EM hn hi).kp kp).kp q2
    have hE3 : ER pts n ps 0 S3 := fun a ha => by
      rw [q4, asR_in (show a < 12 by omega), kn.1]
      exact (EM.2.2.2 a ha).2.2
    obtain ⟨S4, r1, r2, r3, r4, r5, r6⟩ := kp_goRuled (d := d) hS3 hE3 (emt_rows TM2 q4) (show 0 < 4 by omega) okk okt.1 hd1 hd
    have r1 : M_X8_goRuled S3 (0 : Int32) (nI d) = _ := r1
    have kp4 := (kp.trans q2).trans r5
    have kw4 := kw kp4
    have hR4 : RelRow rw_ S4 := by
      unfold RelRow at hR ⊢
      rw [kw4.1.2.1, kw4.1.2.2.1, kw4.1.2.2.2.1]
      exact hR
    have ek4 : ms_otherKind S4 = nI (k + 1) := kp4.2.1.2.2.2.2.2.2.2
    have a7 := sp_isAsTold (S0 := S0) h2 okk.tur (va_cpy (rw_items rw_) told (r * 40 + j) 0 n)
    have a8 : M_X8_isAs S4 (0 : Int32) (nI r) (nI j) = _ := s8_isAs (hS3.kp r5).2.2.1 r2 (show 0 < 4 by omega) okk.tur hr hj
    rw [told_same hR4 hr hj] at a7
    have hi8 : inb (nI i) 8 = true := inb_nI (show i < 8 by omega) (by omega)
    have kp5 : Kp (ms_s_otherKind (ms_s_otherOne S (nI i)) (nI (k + 1 + 1))) (ms_s_otherKind S4 (nI (k + 1 + 1))) := by
      have := kp4.ok (nI (k + 1 + 1))
      rw [okok] at this
      exact this
    have kn5 := ((kn.trans q3).trans r6).trans (kn_ok S4 (nI (k + 1 + 1)))
    by_cases c : allB (asP pts (fun k => ms_items S4 (40 * r + j + k)) (turA pts hm n fm (setp kd i (k + 1)) ps thr d)) n = true
    · refine ⟨(v ||| btI (k + 1), nI (k + 1 + 1), L2), (v ||| btI (k + 1), ms_s_otherKind S4 (nI (k + 1 + 1))), ⟨rfl, rfl, kp5, kn5⟩, fun rec => ?_, fun rec => ?_⟩
      · simp only [kF7, l1, if_false, p1, ob, hi8, if_true, cl (show i < 2 ^ 31 by omega), h1, a7, b01_t c, show ¬ (1 : Int32) = 0 by decide, nI_p1]
        rfl
      · simp only [kF8, jn, ek, l1, if_false, q1, ob, r1, a8, b01_t c, show ¬ (1 : Int32) = 0 by decide, ek4, nI_p1]
        rfl
    · refine ⟨(v, nI (k + 1 + 1), L2), (v, ms_s_otherKind S4 (nI (k + 1 + 1))), ⟨rfl, rfl, kp5, kn5⟩, fun rec => ?_, fun rec => ?_⟩
      · simp only [kF7, l1, if_false, p1, ob, hi8, if_true, cl (show i < 2 ^ 31 by omega), h1, a7, b01_f c, nI_p1]
      · simp only [kF8, jn, ek, l1, if_false, q1, ob, r1, a8, b01_f c, if_true, ek4, nI_p1, or_z]
  · rintro ⟨v, s1, M1⟩ ⟨v', S2⟩ ⟨rfl, rfl, kp, kn⟩
    have ek : ms_otherKind S2 = nI (5 + 1) := kp.2.1.2.2.2.2.2.2.2
    have l1 : (6 : Int32) ≤ nI (5 + 1) := by decide
    exact ⟨(v, M1), (v, S2), ⟨rfl, kw kp, kn⟩, fun rec => rfl, fun rec => by simp only [kF8, ek, l1, if_true]⟩
end CAST
