/-! ===== table ===== -/
def tL7 (S1 : IA) : (Int32 × RD × BD → Option (Int32 × RD × BD)) → Int32 × RD × BD → Option (Int32 × RD × BD) := (fun rec5 st5 => (if (8 : Int32) < st5.1 then (some ((1 : Int32), st5.2.1, st5.2.2)) else (if (rd_length st5.2.1) ≤ (rd_at st5.2.1) then (some ((1 : Int32), st5.2.1, st5.2.2)) else ((M_X4_readMan st5.2.1 S1 st5.2.2).bind (fun u8 => (if u8.1 = 0 then (some ((0 : Int32), u8.2.1, u8.2.2)) else (rec5 ((st5.1 + (1 : Int32)), u8.2.1, u8.2.2))))))))
def tL8 : (Int32 × Int32 × MS → Option (Int32 × MS)) → Int32 × Int32 × MS → Option (Int32 × MS) := (fun rec2 st2 => (if st2.1 = 0 then (if st2.2.1 = 0 then (some (st2.1, st2.2.2)) else ((M_X8_manItem st2.2.2).bind (fun u5 => (if (ms_length u5.2) ≤ (ms_spot u5.2) then (rec2 (u5.1, (0 : Int32), u5.2)) else (rec2 (u5.1, (1 : Int32), u5.2)))))) else (some (st2.1, st2.2.2))))
section READ
variable {tp : Nat → Nat} {n : Nat} {bs : IA} {S : MS}
/-- a whole table has been read -/
def Told (S : MS) (D : BD) : Prop := ∃ pts hm m fm kd ps, 0 < m ∧ RdP S pts hm ∧ RdM S m fm kd ps ∧ OKb pts hm m fm kd ps ∧ EC pts hm m fm kd ps D ∧ ECt 0 0 1 (-1000000) D
theorem read_loop : ∀ (d k N1 N2 p : Nat) (rd : RD) (D : BD) (S : MS) (pts hm : Nat) (fm kd ps : Nat → Nat), k + d = 8 → d + 2 < N1 → d + 3 < N2 → TapeT tp n bs S → At rd n p → p ≤ n → ms_spot S = nI p → 0 < k → RdP S pts hm → RdM S k fm kd ps → OKb pts hm k fm kd ps → EC pts hm k fm kd ps D → ECt 0 0 1 (-1000000) D →
    ∃ c rd' D' f S', lp (tL7 bs) N1 (nI k, rd, D) = some (c, rd', D') ∧ lp tL8 N2 ((0 : Int32), (if ms_length S ≤ ms_spot S then 0 else 1), S) = some (f, S') ∧ Ko S S' ∧ ((c = 1 ∧ f = 0 ∧ Told S' D') ∨ (c = 0 ∧ Flt rd' S' f)) := by
  intro d
  induction d with
  | zero =>
    intro k N1 N2 p rd D S pts hm fm kd ps hk hN1 hN2 hT hA hp hs hk0 hP hM ok E T
    have h8 : k = 8 := by omega
    cases N1 with
    | zero => omega
    | succ N1 =>
    cases N2 with
    | zero => omega
    | succ N2 =>
    have l8 : ¬ (8 : Int32) < nI k := fun z => absurd ((ltI (show 8 < 2 ^ 31 by omega) (show k < 2 ^ 31 by omega)).1 z) (by omega)
    have hn90 := hT.1
    show ∃ c rd' D' f S', tL7 bs (lp (tL7 bs) N1) (nI k, rd, D) = some (c, rd', D') ∧ tL8 (lp tL8 N2) ((0 : Int32), (if ms_length S ≤ ms_spot S then 0 else 1), S) = some (f, S') ∧ _
    rw [hT.2.1, hs]
    by_cases ce : n ≤ p
    · have l1 : nI n ≤ nI p := nI_le ce (by omega)
      refine ⟨1, rd, D, 0, S, ?_, ?_, ⟨ka_refl S, rfl, rfl⟩, Or.inl ⟨rfl, rfl, pts, hm, k, fm, kd, ps, hk0, hP, hM, ok, E, T⟩⟩
      · simp only [tL7, l8, if_false, hA.1, hA.2, l1, if_true]
      · simp only [tL8, l1, if_true]
    · have l1 : ¬ nI n ≤ nI p := nI_ge (by omega) (by omega)
      obtain ⟨f, S', c, rd', D', a1, b1, k1, h1⟩ := man_two hA hT hp hs hP hM ok E T
      rcases h1 with ⟨e1, e2, fm', kd', ps', q, q1, q2, q3, q4, q5, q6, -⟩ | ⟨e2, F⟩
      · have := q6.2.2.2.2.1
        omega
      · cases N2 with
        | zero => omega
        | succ N2 =>
        refine ⟨0, rd', D', f, S', ?_, ?_, k1, Or.inr ⟨rfl, F⟩⟩
        · simp only [tL7, l8, if_false, hA.1, hA.2, l1, b1, ob, e2, if_true]
        · have step : ∀ w : Int32, lp tL8 (N2 + 1) (f, w, S') = some (f, S') := fun w => by
            show tL8 (lp tL8 N2) (f, w, S') = some (f, S')
            simp only [tL8, F.ne, if_false]
          simp only [tL8, l1, if_false, if_true, show ¬ (1 : Int32) = 0 by decide, a1, ob]
          by_cases c2 : ms_length S' ≤ ms_spot S'
          · rw [if_pos c2]; exact step 0
          · rw [if_neg c2]; exact step 1
  | succ d ih =>
    intro k N1 N2 p rd D S pts hm fm kd ps hk hN1 hN2 hT hA hp hs hk0 hP hM ok E T
    cases N1 with
    | zero => omega
    | succ N1 =>
    cases N2 with
    | zero => omega
    | succ N2 =>
    have l8 : ¬ (8 : Int32) < nI k := fun z => absurd ((ltI (show 8 < 2 ^ 31 by omega) (show k < 2 ^ 31 by omega)).1 z) (by omega)
    have hn90 := hT.1
    show ∃ c rd' D' f S', tL7 bs (lp (tL7 bs) N1) (nI k, rd, D) = some (c, rd', D') ∧ tL8 (lp tL8 N2) ((0 : Int32), (if ms_length S ≤ ms_spot S then 0 else 1), S) = some (f, S') ∧ _
    rw [hT.2.1, hs]
    by_cases ce : n ≤ p
    · have l1 : nI n ≤ nI p := nI_le ce (by omega)
      refine ⟨1, rd, D, 0, S, ?_, ?_, ⟨ka_refl S, rfl, rfl⟩, Or.inl ⟨rfl, rfl, pts, hm, k, fm, kd, ps, hk0, hP, hM, ok, E, T⟩⟩
      · simp only [tL7, l8, if_false, hA.1, hA.2, l1, if_true]
      · simp only [tL8, l1, if_true]
    · have l1 : ¬ nI n ≤ nI p := nI_ge (by omega) (by omega)
      obtain ⟨f, S', c, rd', D', a1, b1, k1, h1⟩ := man_two hA hT hp hs hP hM ok E T
      rcases h1 with ⟨e1, e2, fm', kd', ps', q, q1, q2, q3, q4, q5, q6, q7, q8⟩ | ⟨e2, F⟩
      · obtain ⟨c', rd2, D2, f2, S2, g1, g2, g3, g4⟩ := ih (k + 1) N1 N2 q rd' D' S' pts hm fm' kd' ps' (by omega) (by omega) (by omega) (hT.ko k1) q2 q1 q3 (by omega) q4 q5 q6 q7 q8
        refine ⟨c', rd2, D2, f2, S2, ?_, ?_, k1.trans g3, g4⟩
        · simp only [tL7, l8, if_false, hA.1, hA.2, l1, b1, ob, e2, show ¬ (1 : Int32) = 0 by decide, nI_p1]
          exact g1
        · simp only [tL8, l1, if_false, if_true, show ¬ (1 : Int32) = 0 by decide, a1, ob, e1]
          by_cases c2 : ms_length S' ≤ ms_spot S'
          · rw [if_pos c2] at g2 ⊢; exact g2
          · rw [if_neg c2] at g2 ⊢; exact g2
      · cases N2 with
        | zero => omega
        | succ N2 =>
        refine ⟨0, rd', D', f, S', ?_, ?_, k1, Or.inr ⟨rfl, F⟩⟩
        · simp only [tL7, l8, if_false, hA.1, hA.2, l1, b1, ob, e2, if_true]
        · have step : ∀ w : Int32, lp tL8 (N2 + 1) (f, w, S') = some (f, S') := fun w => by
            show tL8 (lp tL8 N2) (f, w, S') = some (f, S')
            simp only [tL8, F.ne, if_false]
          simp only [tL8, l1, if_false, if_true, show ¬ (1 : Int32) = 0 by decide, a1, ob]
          by_cases c2 : ms_length S' ≤ ms_spot S'
          · rw [if_pos c2]; exact step 0
          · rw [if_neg c2]; exact step 1
theorem read_two (hT : TapeT tp n bs S) (D : BD) : ∃ c rd' D' f S', M_X4_readAll (nI n, 0, 0, 0) bs D = some (c, rd', D') ∧ M_X8_readAll S = some (f, S') ∧ Ko S S' ∧ ((c = 1 ∧ f = 0 ∧ Told S' D') ∨ (c = 0 ∧ Flt rd' S' f)) := by
  obtain ⟨T0, eT0, k0, s0, m0⟩ : ∃ T, T = ms_s_readMen (ms_s_spot S 0) 0 ∧ Ko S T ∧ ms_spot T = 0 ∧ ms_readMen T = 0 := ⟨_, rfl, (ko_spot S 0).trans (ko_readMen _ 0), rfl, rfl⟩
  have hA0 : At (nI n, 0, 0, 0) n 0 := ⟨rfl, rfl⟩
  obtain ⟨f1, S1, c1, r1, D1, a1, b1, k1, m1, h1⟩ := law_two hA0 (hT.ko k0) (Nat.zero_le n) s0 D m0
  unfold M_X4_readAll M_X8_readAll
  rw [← eT0, a1, b1]
  simp only [ob]
  have k01 := k0.trans k1
  have fin : ∀ w : Int32, ¬ f1 = 0 → lp tL8 1000000 (f1, w, S1) = some (f1, S1) := fun w hne => by
    show tL8 (lp tL8 999999) (f1, w, S1) = some (f1, S1)
    simp only [tL8, hne, if_false]
  rcases h1 with ⟨e1, e2, pts, hm, q, v1, v2, v3, v4, q1, A1, s1, P1, E1, T1⟩ | ⟨e2, F1⟩
  rotate_left
  · simp only [e2, if_true]
    exact ⟨0, r1, D1, f1, S1, rfl, (bind_of (fin 1 F1.ne)).trans rfl, k01, Or.inr ⟨rfl, F1⟩⟩
  have hR0 : RdM S1 0 (fun _ => 0) (fun _ => 0) (fun _ => 0) := ⟨m1, fun i hi => absurd hi (Nat.not_lt_zero i)⟩
  have ok0 : OKb pts hm 0 (fun _ => 0) (fun _ => 0) (fun _ => 0) := ⟨v1, v2, v3, v4, by omega, fun i hi => absurd hi (Nat.not_lt_zero i)⟩
  obtain ⟨f2, S2, c2, r2, D2, a2, b2, k2, h2⟩ := man_two A1 (hT.ko k01) q1 s1 P1 hR0 ok0 (E1 _ _ _) T1
  have k02 := k01.trans k2
  have hstep : lp tL8 1000000 (f1, (1 : Int32), S1) = lp tL8 999999 (f2, (if ms_length S2 ≤ ms_spot S2 then 0 else 1), S2) := by
    show tL8 (lp tL8 999999) (f1, (1 : Int32), S1) = _
    simp only [tL8, e1, if_true, show ¬ (1 : Int32) = 0 by decide, if_false, a2, ob]
    by_cases c2 : ms_length S2 ≤ ms_spot S2
    · rw [if_pos c2, if_pos c2]
    · rw [if_neg c2, if_neg c2]
  simp only [e2, show ¬ (1 : Int32) = 0 by decide, if_false, b2, ob]
  rcases h2 with ⟨e3, e4, fm', kd', ps', q', w1, w2, w3, w4, w5, w6, w7, w8⟩ | ⟨e4, F2⟩
  · obtain ⟨c', rd2, D3, f3, S3, g1, g2, g3, g4⟩ := read_loop 7 1 1000000 999999 q' r2 D2 S2 pts hm fm' kd' ps' (by omega) (by omega) (by omega) (hT.ko k02) w2 w1 w3 (by omega) w4 w5 w6 w7 w8
    have g1 : lp (tL7 bs) 1000000 ((1 : Int32), r2, D2) = some (c', rd2, D3) := g1
    have g2 : lp tL8 999999 (f2, (if ms_length S2 ≤ ms_spot S2 then 0 else 1), S2) = some (f3, S3) := by rw [e3]; exact g2
    simp only [e4, show ¬ (1 : Int32) = 0 by decide, if_false]
    exact ⟨c', rd2, D3, f3, S3, g1, (bind_of (hstep.trans g2)).trans rfl, k02.trans g3, g4⟩
  · have fin2 : ∀ w : Int32, lp tL8 999999 (f2, w, S2) = some (f2, S2) := fun w => by
      show tL8 (lp tL8 999998) (f2, w, S2) = some (f2, S2)
      simp only [tL8, F2.ne, if_false]
    simp only [e4, if_true]
    exact ⟨0, r2, D2, f2, S2, rfl, (bind_of (hstep.trans (fin2 _))).trans rfl, k02, Or.inr ⟨rfl, F2⟩⟩
end READ
/-- what is told comes into the table -/
def tT3 (u : MS) : (Int32 × (Nat → Int32) × (Nat → Int32) × (Nat → Int32) → Option ((Nat → Int32) × (Nat → Int32) × (Nat → Int32))) → Int32 × (Nat → Int32) × (Nat → Int32) × (Nat → Int32) → Option ((Nat → Int32) × (Nat → Int32) × (Nat → Int32)) := (fun rec3 st3 => (if (8 : Int32) ≤ st3.1 then (some (st3.2.1, st3.2.2.1, st3.2.2.2)) else (if inb st3.1 8 = true then (if (ms_readMen u) ≤ st3.1 then (if inb st3.1 12 = true then (rec3 ((st3.1 + (1 : Int32)), (upd st3.2.1 (st3.1).toNatClampNeg ((ms_readFirms u) (st3.1).toNatClampNeg)), (upd st3.2.2.1 (st3.1).toNatClampNeg ((ms_readKinds u) (st3.1).toNatClampNeg)), (upd st3.2.2.2 (st3.1).toNatClampNeg (99 : Int32)))) else none) else (if inb st3.1 12 = true then (rec3 ((st3.1 + (1 : Int32)), (upd st3.2.1 (st3.1).toNatClampNeg ((ms_readFirms u) (st3.1).toNatClampNeg)), (upd st3.2.2.1 (st3.1).toNatClampNeg ((ms_readKinds u) (st3.1).toNatClampNeg)), (upd st3.2.2.2 (st3.1).toNatClampNeg ((ms_readAt u) (st3.1).toNatClampNeg)))) else none)) else none)))
theorem t_loop3 (u : MS) {m : Nat} (hm : m ≤ 8) (h : ms_readMen u = nI m) (f g w : Nat → Int32) : lp (tT3 u) 1000000 ((0 : Int32), f, g, w) = some (asR 0 f (ms_readFirms u) 8, asR 0 g (ms_readKinds u) 8, asR 0 w (fun j => if j < m then ms_readAt u j else 99) 8) := by
  refine lp_at (fun j => (nI j, asR 0 f (ms_readFirms u) j, asR 0 g (ms_readKinds u) j, asR 0 w (fun j => if j < m then ms_readAt u j else 99) j)) 8 _ (by rw [asR_0, asR_0, asR_0]; rfl) ?_ ?_ (by omega)
  · intro j rec hj
    have h1 : ¬ (8 : Int32) ≤ nI j := fun z => absurd ((leI (show 8 < 2 ^ 31 by omega) (show j < 2 ^ 31 by omega)).1 z) (by omega)
    have s1 := asR0_s (f := f) (k := j) (g := ms_readFirms u) rfl
    have s2 := asR0_s (f := g) (k := j) (g := ms_readKinds u) rfl
    simp only [tT3, h1, if_false, h]
    rw [inb_nI (show j < 8 by omega) (by omega), inb_nI (show j < 12 by omega) (by omega), cl (show j < 2 ^ 31 by omega), nI_p1]
    simp only [if_true, leI (show m < 2 ^ 31 by omega) (show j < 2 ^ 31 by omega)]
    rw [s1, s2]
    by_cases c : m ≤ j
    · rw [if_pos c, asR0_s (f := w) (k := j) (g := fun j => if j < m then ms_readAt u j else 99) (v := 99) (if_neg (by omega)).symm]
    · rw [if_neg c, asR0_s (f := w) (k := j) (g := fun j => if j < m then ms_readAt u j else 99) (v := ms_readAt u j) (if_pos (by omega)).symm]
  · intro rec
    rfl
def tS9 (u : MS) (m : Nat) : MS := ms_s_now (ms_s_kinds (ms_s_firms (ms_s_length (ms_s_acts (ms_s_hasTable (ms_s_men (ms_s_home (ms_s_points u (ms_readPoints u)) (ms_readHome u)) (ms_readMen u)) 1) 0) 0) (asR 0 (ms_firms u) (ms_readFirms u) 8)) (asR 0 (ms_kinds u) (ms_readKinds u) 8)) (upd (upd (upd (upd (asR 0 (ms_now u) (fun j => if j < m then ms_readAt u j else 99) 8) 8 0) 9 1) 10 (-1000000)) 11 0)
theorem tS9_a (u : MS) (m : Nat) : ms_points (tS9 u m) = ms_readPoints u ∧ ms_home (tS9 u m) = ms_readHome u ∧ ms_men (tS9 u m) = ms_readMen u ∧ ms_hasTable (tS9 u m) = 1 ∧ ms_acts (tS9 u m) = 0 ∧ ms_length (tS9 u m) = 0 ∧ ms_otherOne (tS9 u m) = ms_otherOne u ∧ ms_imaged (tS9 u m) = ms_imaged u ∧ ms_images (tS9 u m) = ms_images u := ⟨rfl, rfl, rfl, rfl, rfl, rfl, rfl, rfl, rfl⟩
theorem tS9_b (u : MS) (m : Nat) : ms_firms (tS9 u m) = asR 0 (ms_firms u) (ms_readFirms u) 8 ∧ ms_kinds (tS9 u m) = asR 0 (ms_kinds u) (ms_readKinds u) 8 ∧ ms_now (tS9 u m) = upd (upd (upd (upd (asR 0 (ms_now u) (fun j => if j < m then ms_readAt u j else 99) 8) 8 0) 9 1) 10 (-1000000)) 11 0 := ⟨rfl, rfl, rfl⟩
theorem tS9_c (u : MS) (m : Nat) : ms_status (tS9 u m) = ms_status u ∧ ms_fault (tS9 u m) = ms_fault u ∧ ms_items (tS9 u m) = ms_items u ∧ ms_lanes (tS9 u m) = ms_lanes u ∧ ms_sizes (tS9 u m) = ms_sizes u ∧ ms_traced (tS9 u m) = ms_traced u ∧ ms_trace (tS9 u m) = ms_trace u := ⟨rfl, rfl, rfl, rfl, rfl, rfl, rfl⟩
theorem relTape_0 (bs : IA) {S : MS} (h : ms_length S = 0) : RelTape 0 bs S := ⟨0, by omega, rfl, h, fun k hk => absurd hk (Nat.not_lt_zero k)⟩
theorem relRow_same {rw_ : RW} {S S' : MS} (h : RelRow rw_ S) (a : ms_items S' = ms_items S) (b : ms_lanes S' = ms_lanes S) (c : ms_sizes S' = ms_sizes S) : RelRow rw_ S' := by
  unfold RelRow at h ⊢
  rw [a, b, c]
  exact h
theorem relAsk_same {as : AS} {S S' : MS} (h : RelAsk as S) (a : ms_traced S' = ms_traced S) (b : ms_trace S' = ms_trace S) : RelAsk as S' := by
  unfold RelAsk at h ⊢
  rw [a, b]
  exact h
theorem relIm_same {i0 i1 : BD} {S S' : MS} (h : RelIm i0 i1 S) (a : ms_imaged S' = ms_imaged S) (b : ms_images S' = ms_images S) : RelIm i0 i1 S' := by
  obtain ⟨m0, m1, im, I0, I1⟩ := h
  exact ⟨m0, m1, a.trans im, I0.out (fun c hc => by rw [b]), I1.out (fun c hc => by rw [b])⟩
theorem sim_table {tf : TF} {rw_ : RW} {tp : TP} {bs : IA} {L i0 i1 : BD} {ac : AC} {as : AS} {S : MS} (h : Rel tf rw_ tp bs L i0 i1 ac as S) (D : BD) :
    ∃ v tf' tp' D' L' ac' S', M_X7_table tf tp bs D L ac = some (v, tf', tp', D', L', ac') ∧ M_X8_table S = some (v, S') ∧ Rel tf' rw_ tp' bs L' i0 i1 ac' as S' := by
  have h0 := h
  obtain ⟨hT, hR, ⟨n, hn, p1, p2, p3⟩, hA, hB⟩ := h
  obtain ⟨t, ht⟩ : ∃ t : Nat → Nat, ∀ k, k < n → t k < 256 ∧ bs k = nI (t k) := by
    refine ⟨fun k => (bs k).toNatClampNeg, fun k hk => ?_⟩
    obtain ⟨-, z, hz, e⟩ := p3 k hk
    show (bs k).toNatClampNeg < 256 ∧ bs k = nI (bs k).toNatClampNeg
    rw [e, cl (show z < 2 ^ 31 by omega)]
    exact ⟨hz, rfl⟩
  have hTT : TapeT t n bs S := ⟨hn, p2, fun k hk => ⟨(ht k hk).2, (p3 k hk).1.symm.trans (ht k hk).2, (ht k hk).1⟩⟩
  obtain ⟨c, rd', D', f, S1, a1, b1, k1, h1⟩ := read_two hTT D
  obtain ⟨⟨⟨q1, q2, q3, q4, q5, q6, q7⟩, ⟨r1, r2, r3, r4, r5, r6, r7⟩, ⟨d1, d2⟩, kn⟩, w1, w2⟩ := k1
  unfold M_X7_table M_X8_table M_X6_clear
  rw [p1, a1, b1]
  simp only [ob]
  rcases h1 with ⟨e1, e2, pts, hm, m, fm, kd, ps, hm0, hP, hM, ok, E, T⟩ | ⟨e1, F⟩
  · have hm8 : m ≤ 8 := ok.2.2.2.2.1
    have hpt := ok.2.1
    obtain ⟨L', g1, g2, g3⟩ := sp_copyFrom E hm8 L
    have hl3 := t_loop3 S1 hm8 hM.1 (ms_firms S1) (ms_kinds S1) (ms_now S1)
    obtain ⟨x1, x2, x3, x4, x5, x6, x7, x8, x9⟩ := tS9_a S1 m
    obtain ⟨y1, y2, y3⟩ := tS9_b S1 m
    obtain ⟨z1, z2, z3, z4, z5, z6, z7⟩ := tS9_c S1 m
    have hRel : Rel tf rw_ 0 bs L' i0 i1 (ac_s_kept ac 0) as (tS9 S1 m) := by
      obtain ⟨pts0, hm0', n0, fm0, kd0, ps0, thr0, trn0, cub0, ow0, hcase, E0, EM0, A0, hoo, I0⟩ := hB
      refine ⟨⟨hT.1.trans (z2.trans q2).symm, hT.2.trans (z1.trans q1).symm⟩, relRow_same hR (z3.trans q3) (z4.trans q4) (z5.trans q5), relTape_0 bs x6, relAsk_same hA (z6.trans w1) (z7.trans w2), relB_of (pts := pts) (hm := hm) (n := m) (fm := fm) (kd := kd) (ps := ps) (thr := 0) (trn := 0) (cub := 1) (ow := -1000000) ⟨hm0, ok, ⟨by omega, by omega, ⟨0, by omega, rfl⟩, Or.inl rfl⟩, g2, T.same g3, ⟨x1.trans hP.1, x2.trans hP.2, x3.trans hM.1, fun i hi => ⟨?_, ?_, ?_⟩⟩, ⟨?_, ?_, ?_, ?_⟩, x4, x7.trans (r7.trans hoo)⟩ ?_ (relIm_same I0 (x8.trans d1) (x9.trans d2))⟩
      · rw [y1, asR0_in (by omega)]; exact (hM.2 i hi).1
      · rw [y2, asR0_in (by omega)]; exact (hM.2 i hi).2.1
      · rw [y3, upd_ne (by omega), upd_ne (by omega), upd_ne (by omega), upd_ne (by omega), asR0_in (by omega), if_pos hi, (hM.2 i hi).2.2.1]
        have hle := (hM.2 i hi).2.2.2
        have hpi := (ok.2.2.2.2.2 i hi).2.2.2
        rw [hP.1, leI (by omega) (by omega)] at hle
        rw [trc_pt (by omega)]
      · rw [y3, upd_at]; rfl
      · rw [y3, upd_ne (by omega), upd_ne (by omega), upd_ne (by omega), upd_at]; rfl
      · rw [y3, upd_ne (by omega), upd_ne (by omega), upd_at]; rfl
      · rw [y3, upd_ne (by omega), upd_at]
      · obtain ⟨K, N, j1, j2, j3, j4, j5, j6⟩ := A0
        exact ⟨0, N, by omega, j2, rfl, j4, x5, fun j hj => absurd hj (Nat.not_lt_zero j)⟩
    have hmen : bd_men L' = ms_readMen S1 := g2.2.2.1.trans hM.1.symm
    simp only [e1, e2, show ¬ (1 : Int32) = 0 by decide, if_false, if_true, g1, ob, hmen]
    exact ⟨_, _, _, _, _, _, _, rfl, (bind_of hl3).trans rfl, hRel⟩
  · have hne := F.ne
    obtain ⟨w, p, f1, f2, f3, f4, f5, f6⟩ := F
    rw [f3] at hne
    simp only [e1, f3, f4, f5, f6, if_true, hne, if_false]
    obtain ⟨T9, eT9, z1, z2, z3, z4, z5, z6, z7, z8, z9, y1, y2, y3, y4, y5, y6, y7, y8, y9, yn⟩ : ∃ T, T = ms_s_fault (ms_s_length S1 0) (nI w) ∧ ms_status T = ms_status S1 ∧ ms_fault T = nI w ∧ ms_items T = ms_items S1 ∧ ms_lanes T = ms_lanes S1 ∧ ms_sizes T = ms_sizes S1 ∧ ms_length T = 0 ∧ ms_traced T = ms_traced S1 ∧ ms_trace T = ms_trace S1 ∧ ms_points T = ms_points S1 ∧ ms_home T = ms_home S1 ∧ ms_men T = ms_men S1 ∧ ms_firms T = ms_firms S1 ∧ ms_kinds T = ms_kinds S1 ∧ ms_hasTable T = ms_hasTable S1 ∧ ms_otherOne T = ms_otherOne S1 ∧ ms_imaged T = ms_imaged S1 ∧ ms_images T = ms_images S1 ∧ True ∧ Kn S1 T := ⟨_, rfl, rfl, rfl, rfl, rfl, rfl, rfl, rfl, rfl, rfl, rfl, rfl, rfl, rfl, rfl, rfl, rfl, rfl, trivial, rfl, rfl, rfl⟩
    rw [← eT9]
    refine ⟨_, _, _, _, _, _, _, rfl, rfl, ⟨z2.symm, hT.2.trans (z1.trans q1).symm⟩, relRow_same hR (z3.trans q3) (z4.trans q4) (z5.trans q5), relTape_0 bs z6, relAsk_same hA (z7.trans w1) (z8.trans w2), ?_⟩
    obtain ⟨pts0, hm0', n0, fm0, kd0, ps0, thr0, trn0, cub0, ow0, hcase, E0, EM0, A0, hoo, I0⟩ := hB
    have knn := kn.trans yn
    refine ⟨pts0, hm0', n0, fm0, kd0, ps0, thr0, trn0, cub0, ow0, ?_, E0, ?_, A0.kn knn.2.1 knn.2.2, (y6.trans r7).trans hoo, relIm_same I0 (y7.trans d1) (y8.trans d2)⟩
    · rw [knn.1, y5.trans r6, y7.trans d1]
      exact hcase
    · obtain ⟨e1, e2, e3, e4⟩ := EM0
      exact ⟨(z9.trans r1).trans e1, (y1.trans r2).trans e2, (y2.trans r3).trans e3, fun i hi => by rw [y3, y4, r4, r5, knn.1]; exact e4 i hi⟩
