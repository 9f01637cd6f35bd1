/-! ===== a board copied; the other firm gone; race ===== -/
theorem cpy0 {f g : Nat → Int32} {n j : Nat} (h : j < n) : va_cpy f g 0 0 n j = f j := by
  rw [pk_cpy_in (by omega) (by omega), Nat.zero_add, Nat.sub_zero]
theorem lp_two {σ1 σ2 β1 β2 : Type} {F1 : (σ1 → Option β1) → σ1 → Option β1} {F2 : (σ2 → Option β2) → σ2 → Option β2} (R : Nat → σ1 → σ2 → Prop) (Q : β1 → β2 → Prop) (n : Nat)
    (hs : ∀ k s1 s2, k < n → R k s1 s2 → (∃ t1 t2, R (k + 1) t1 t2 ∧ (∀ rec, F1 rec s1 = rec t1) ∧ ∀ rec, F2 rec s2 = rec t2) ∨ ∃ b1 b2, Q b1 b2 ∧ (∀ rec, F1 rec s1 = some b1) ∧ ∀ rec, F2 rec s2 = some b2)
    (hx : ∀ s1 s2, R n s1 s2 → ∃ b1 b2, Q b1 b2 ∧ (∀ rec, F1 rec s1 = some b1) ∧ ∀ rec, F2 rec s2 = some b2) {a1 : σ1} {a2 : σ2} (h0 : R 0 a1 a2) : ∀ {N : Nat}, n < N → ∃ b1 b2, lp F1 N a1 = some b1 ∧ lp F2 N a2 = some b2 ∧ Q b1 b2 := by
  have key : ∀ (m k N : Nat) (s1 : σ1) (s2 : σ2), k + m = n → m < N → R k s1 s2 → ∃ b1 b2, lp F1 N s1 = some b1 ∧ lp F2 N s2 = some b2 ∧ Q b1 b2 := by
    intro m
    induction m with
    | zero =>
      intro k N s1 s2 hk hN hP
      cases N with
      | zero => omega
      | succ N =>
        have e : k = n := by omega
        subst e
        obtain ⟨b1, b2, hb, h1, h2⟩ := hx s1 s2 hP
        exact ⟨b1, b2, h1 _, h2 _, hb⟩
    | succ m ih =>
      intro k N s1 s2 hk hN hP
      cases N with
      | zero => omega
      | succ N =>
        rcases hs k s1 s2 (by omega) hP with ⟨t1, t2, hP', h1, h2⟩ | ⟨b1, b2, hb, h1, h2⟩
        · obtain ⟨b1, b2, g1, g2, hQ⟩ := ih (k + 1) N t1 t2 (by omega) (by omega) hP'
          exact ⟨b1, b2, (h1 _).trans g1, (h2 _).trans g2, hQ⟩
        · exact ⟨b1, b2, h1 _, h2 _, hb⟩
  intro N hN
  exact key n 0 N a1 a2 (by omega) hN h0
section ALONE
variable {pts hm n : Nat} {fm kd ps : Nat → Nat} {L : BD} {S : MS} {D thr trn cub : Nat} {ow : Int32}
theorem sp_copyFrom (E : EC pts hm n fm kd ps L) (hn : n ≤ 8) (M : BD) : ∃ L', M_X2_copyFrom L M = some L' ∧ EC pts hm n fm kd ps L' ∧ sameT L L' := by
  obtain ⟨e1, e2, e3, e4, e5, e6⟩ := E
  refine ⟨_, rfl, ⟨e1, e2, e3, fun i hi => ?_, fun f a hf ha => ?_, fun f hf => ?_⟩, rfl, rfl, rfl, rfl⟩
  · obtain ⟨a, b, c⟩ := e4 i hi
    refine ⟨?_, ?_, ?_⟩
    · exact (cpy0 (n := 8) (by omega)).trans a
    · exact (cpy0 (n := 8) (by omega)).trans b
    · exact (cpy0 (n := 8) (by omega)).trans c
  · exact (cpy0 (n := 28) (by omega)).trans (e5 f a hf ha)
  · exact ⟨(cpy0 (n := 2) (by omega)).trans (e6 f hf).1, (cpy0 (n := 2) (by omega)).trans (e6 f hf).2⟩
/-- where all stand once the other firm is off -/
def alA (pts : Nat) (fm ps : Nat → Nat) (f : Nat) : Nat → Nat := fun i => if fm i = f then ps i else pts + 1
theorem sp_leaveAlone {S0 : FS} (E : EC pts hm n fm kd ps L) (ok : OKb pts hm n fm kd ps) (M : BD) {f : Nat} (hf : f < 2) : ∃ L', M_X3_leaveAlone S0 L M (nI f) = some L' ∧ EC pts hm n fm kd (mixA ps (alA pts fm ps f) n) L' := by
  have hn : n ≤ 8 := ok.2.2.2.2.1
  obtain ⟨L1, h1, h2, h3⟩ := sp_copyFrom E hn M
  unfold M_X3_leaveAlone
  rw [h1]
  simp only [ob]
  have hal : ∀ i, i < n → alA pts fm ps f i ≤ pts + 1 := fun i hi => by
    have := (ok.2.2.2.2.2 i hi).2.2.2
    unfold alA
    split <;> omega
  refine lp_inv (fun k s => s.1 = nI k ∧ EC pts hm n fm kd (mixA ps (alA pts fm ps f) k) s.2) _ n ?_ ?_ ⟨rfl, h2.same (by funext j; exact (if_neg (by omega)).symm)⟩ (by omega)
  · rintro k ⟨s1, s2⟩ hk ⟨rfl, hE⟩
    have q1 : ¬ nI n ≤ nI k := nI_ge hk (by omega)
    have hE3 : bd_men s2 = nI n := hE.2.2.1
    have o1 := (ok.2.2.2.2.2 k hk).1
    obtain ⟨f1, f2, f3⟩ := hE.2.2.2.1 k hk
    by_cases c : fm k = f
    · refine ⟨(nI (k + 1), s2), ⟨rfl, hE.same ?_⟩, fun rec => ?_⟩
      · rw [← mix_s (ps := ps) (qs := alA pts fm ps f) (k := k)]
        funext j
        unfold setp mixA alA
        by_cases cj : j = k
        · rw [if_pos cj, cj, if_neg (by omega), if_pos c]
        · rw [if_neg cj]
      · simp only [hE3, q1, if_false]
        rw [inb_nI (show k < 8 by omega) (by omega), cl (show k < 2 ^ 31 by omega), f1]
        simp only [if_true, eqI (show fm k < 2 ^ 31 by omega) (show f < 2 ^ 31 by omega), c, nI_p1]
    · obtain ⟨L', p1, p2, p3⟩ := sp_put hE (ok.mix hal) hk (Nat.le_refl (pts + 1))
      have ea : alA pts fm ps f k = pts + 1 := if_neg c
      refine ⟨(nI (k + 1), L'), ⟨rfl, p2.same (by rw [← ea]; exact mix_s)⟩, fun rec => ?_⟩
      simp only [hE3, q1, if_false]
      rw [inb_nI (show k < 8 by omega) (by omega), cl (show k < 2 ^ 31 by omega), f1, sp_off hE]
      simp only [ob]
      rw [p1]
      simp only [if_true, eqI (show fm k < 2 ^ 31 by omega) (show f < 2 ^ 31 by omega), c, nI_p1, ob, if_false]
  · rintro ⟨s1, s2⟩ ⟨rfl, hE⟩
    have q1 : nI n ≤ nI n := nI_le (Nat.le_refl n) (by omega)
    have hE3 : bd_men s2 = nI n := hE.2.2.1
    refine ⟨s2, hE, fun rec => ?_⟩
    simp only [hE3, q1, if_true]
theorem OKb.al (ok : OKb pts hm n fm kd ps) {f : Nat} : OKb pts hm n fm kd (mixA ps (alA pts fm ps f) n) := ok.mix (fun i hi => by
  have := (ok.2.2.2.2.2 i hi).2.2.2
  unfold alA
  split <;> omega)
def alR (n : Nat) (fm : Nat → Nat) (f : Nat) (R : Nat → Int32) (k : Nat) : Nat → Int32 := fun x => if x < k ∧ fm x ≠ f then 99 else R x
theorem kp_alone (EM : EMb pts hm n fm kd ps S) (ok : OKb pts hm n fm kd ps) {f : Nat} (hf : f < 2) : ∃ S', M_X8_alone S (nI f) = some S' ∧ ER pts n (mixA ps (alA pts fm ps f) n) 0 S' ∧ Kp S S' ∧ Kn S S' := by
  have hn : n ≤ 8 := ok.2.2.2.2.1
  have hpt : pts ≤ 12 := ok.2.1
  obtain ⟨S1, a1, a2, a3, a4⟩ := kp_aside S (D := 0) (by omega)
  have a1 : M_X8_aside S (0 : Int32) = _ := a1
  have EM1 := EM.kp a2 a3.1
  have hE : ER pts n ps 0 S1 := er_rows EM hn a4
  unfold M_X8_alone
  rw [a1]
  simp only [ob]
  refine ⟨ms_s_rows S1 (alR n fm f (ms_rows S1) n), ?_, fun i hi => ?_, a2.trans (kp_rows _ _), a3.trans (kn_rows _ _)⟩
  · refine lp_at (fun k => (nI k, alR n fm f (ms_rows S1) k)) n _ ?_ ?_ ?_ (by omega)
    · refine congrArg (Prod.mk _) ?_
      funext x
      exact (if_neg (by omega)).symm
    · intro k rec hk
      obtain ⟨f1, f2, f3⟩ := EM1.2.2.2 k hk
      have o1 := (ok.2.2.2.2.2 k hk).1
      have h1 : ¬ nI n ≤ nI k := nI_ge hk (by omega)
      simp only [EM1.2.2.1, h1, if_false]
      rw [inb_nI (show k < 8 by omega) (by omega), inb_nI (show k < 48 by omega) (by omega), cl (show k < 2 ^ 31 by omega), f1]
      simp only [if_true, eqI (show fm k < 2 ^ 31 by omega) (show f < 2 ^ 31 by omega), nI_p1]
      by_cases c : fm k = f
      · rw [if_pos c]
        refine congrArg rec (congrArg (Prod.mk _) ?_)
        funext x
        refine upd_f (fun e => ?_) (fun e => ?_)
        · unfold alR
          rw [e, if_neg (by omega), if_neg (fun z => z.2 c)]
        · unfold alR
          by_cases c2 : x < k ∧ fm x ≠ f
          · rw [if_pos c2, if_pos ⟨by omega, c2.2⟩]
          · rw [if_neg c2, if_neg (fun z => c2 ⟨by omega, z.2⟩)]
      · rw [if_neg c]
        refine congrArg rec (congrArg (Prod.mk _) ?_)
        funext x
        refine upd_f (fun e => ?_) (fun e => ?_)
        · unfold alR
          rw [e, if_pos ⟨by omega, c⟩]
        · unfold alR
          by_cases c2 : x < k ∧ fm x ≠ f
          · rw [if_pos c2, if_pos ⟨by omega, c2.2⟩]
          · rw [if_neg c2, if_neg (fun z => c2 ⟨by omega, z.2⟩)]
    · intro rec
      have h1 : nI n ≤ nI n := nI_le (Nat.le_refl n) (by omega)
      simp only [EM1.2.2.1, h1, if_true]
  · show alR n fm f (ms_rows S1) n (12 * 0 + i) = _
    have hE2 := hE i hi
    rw [Nat.mul_zero, Nat.zero_add] at hE2 ⊢
    unfold alR mixA alA
    rw [if_pos hi]
    by_cases c : fm i = f
    · rw [if_neg (fun z => z.2 c), if_pos c]; exact hE2
    · rw [if_pos ⟨hi, c⟩, if_neg c, (trc_99 (Nat.le_refl _) hpt).2 rfl]; rfl
theorem kp_goAlone (hS : ES pts hm n fm kd S) (hE : ER pts n ps D S) (hD : D < 4) (ok : OKb pts hm n fm kd ps) {f d : Nat} (hf : f < 2) (hd1 : 1 ≤ d) (hd : d ≤ 6) :
    ∃ S', M_X8_goAlone S (nI D) (nI f) (nI d) = some S' ∧ ER pts n (turA pts hm n fm kd ps f d) D S' ∧ (∀ k, (k < 12 * D ∨ 12 * D + 8 ≤ k) → ms_rows S' k = ms_rows S k) ∧ Kp S S' ∧ Kn S S' := by
  have hn : n ≤ 8 := ok.2.2.2.2.1
  unfold M_X8_goAlone turA
  rw [s8_ruled hS hE hD ok hf hd1 hd]
  simp only [ob]
  rcases rulA_is (pts := pts) (hm := hm) (n := n) (fm := fm) (kd := kd) (ps := ps) (k := n) (f := f) (d := d) with c4 | ⟨c4, c5, c6⟩
  · rw [if_pos ((mnb_no (by omega)).2 (by omega)), if_neg (by omega)]
    exact ⟨S, rfl, hE, fun k hk => rfl, Kp.refl S, Kn.refl S⟩
  · obtain ⟨S', g1, g2, g3, g4, g5⟩ := kp_goMan hS hE hD ok c4 hd1 hd
    rw [if_neg (fun z => absurd ((mnb_no (by omega)).1 z) (by omega)), if_pos (by omega), mnb_t (show rulA pts hm n fm kd ps f d n < 1000 by omega), g1]
    exact ⟨S', rfl, g2, g3, g4, g5⟩
/-- by rule, of a firm: the class's board -/
theorem sp_goAlone (E : EC pts hm n fm kd ps L) (ok : OKb pts hm n fm kd ps) {f d : Nat} (hf : f < 2) (hd1 : 1 ≤ d) (hd : d ≤ 6) :
    M_X2_chosenByRule L (nI f) (nI d) = some (mnb 1000 (rulA pts hm n fm kd ps f d n)) ∧ ((mnb 1000 (rulA pts hm n fm kd ps f d n) = -1000000 ∧ turA pts hm n fm kd ps f d = ps) ∨ (¬ mnb 1000 (rulA pts hm n fm kd ps f d n) = -1000000 ∧ rulA pts hm n fm kd ps f d n < n ∧ mnb 1000 (rulA pts hm n fm kd ps f d n) = nI (rulA pts hm n fm kd ps f d n) ∧ ∃ h L', M_X2_go L (nI (rulA pts hm n fm kd ps f d n)) (nI d) = some (h, L') ∧ EC pts hm n fm kd (turA pts hm n fm kd ps f d) L' ∧ sameT L L')) := by
  have hn : n ≤ 8 := ok.2.2.2.2.1
  refine ⟨sp_chosenByRule E ok hf hd1 hd, ?_⟩
  unfold turA
  rcases rulA_is (pts := pts) (hm := hm) (n := n) (fm := fm) (kd := kd) (ps := ps) (k := n) (f := f) (d := d) with c4 | ⟨c4, c5, c6⟩
  · exact Or.inl ⟨(mnb_no (by omega)).2 (by omega), if_neg (by omega)⟩
  · obtain ⟨u, hu, E1, t1⟩ := sp_go E ok c4 hd1 hd (canA_few c6)
    refine Or.inr ⟨fun z => absurd ((mnb_no (by omega)).1 z) (by omega), c4, mnb_t (by omega), ?_⟩
    rw [if_pos (by omega)]
    exact ⟨_, _, hu, E1, t1⟩
theorem s8_isDone (hS : ES pts hm n fm kd S) (hE : ER pts n ps D S) (hD : D < 4) (ok : OKb pts hm n fm kd ps) {f : Nat} (hf : f < 2) (hc : 0 < cntF n fm f) : M_X8_isDone S (nI D) (nI f) = some (b01 (wonA pts n fm ps f = true)) := by
  have hn : n ≤ 8 := ok.2.2.2.2.1
  have hpt : pts ≤ 12 := ok.2.1
  have hz := pipS_zero ok (f := f) n (Nat.le_refl n)
  have hl := pipS_le ok (f := f) n (Nat.le_refl n)
  have hl2 : n * (pts + 1) ≤ 8 * 13 := Nat.mul_le_mul hn (by omega)
  have hw := wonA_t (pts := pts) (n := n) (fm := fm) (ps := ps) (f := f)
  unfold M_X8_isDone
  rw [s8_pipsOfAll hS hE hD ok hf]
  simp only [ob, show ((0 : Int32)) = nI 0 from rfl, eqI (show pipS pts n fm ps f < 2 ^ 31 by omega) (show 0 < 2 ^ 31 by omega)]
  by_cases c : pipS pts n fm ps f = 0
  · rw [if_pos c, b01_t (hw.2 ⟨hz.1 c, hc⟩)]
  · rw [if_neg c, b01_f (fun z => c (hz.2 (hw.1 z).1))]; rfl
end ALONE
theorem sim_race {tf : TF} {rw_ : RW} {tp : TP} {bs : IA} {L i0 i1 : BD} {ac : AC} {as : AS} {S : MS} (h : Rel tf rw_ tp bs L i0 i1 ac as S) (fs : FS) (M : BD) (x : Int32) :
    ∃ v M' S', M_X7_race tf L fs M x = some (v, M') ∧ M_X8_race S x = some (v, S') ∧ Rel tf rw_ tp bs L i0 i1 ac as S' := by
  unfold M_X7_race M_X8_race
  rcases h.tabs with ⟨e1, e2, e3, e4⟩ | ⟨pts, hm, n, fm, kd, ps, thr, trn, cub, ow, B, A, I⟩
  · rw [no_tab e1, e3]
    exact ⟨_, _, _, rfl, rfl, h⟩
  have hn := B.n8
  have hno := B.no (tf := tf)
  have hhas := B.has
  obtain ⟨c1, ok, okt, E, T, EM, TM, c6, hoo⟩ := B
  rw [hno, if_neg hhas, sp_isFirm7, sp_isFirm8]
  simp only [ob, if_true, b01_no]
  by_cases hf : 0 ≤ x ∧ x ≤ 1
  · obtain ⟨f, hf2, rfl⟩ := firm_of hf
    have nf : ¬ ¬ (0 ≤ nI f ∧ nI f ≤ 1) := fun z => z hf
    have hS := es_of EM hoo hn
    simp only [nf, if_false]
    rw [sp_hasMen E ok hf2, s8_hasMen hS ok hf2]
    simp only [ob, b01_no]
    by_cases hc : 0 < cntF n fm f
    · obtain ⟨L1, p1, p2⟩ := sp_leaveAlone (S0 := fs) E ok M hf2
      obtain ⟨S1, q1, q2, q3, q4⟩ := kp_alone EM ok hf2
      have hnc : ¬ ¬ 0 < cntF n fm f := fun z => z hc
      unfold M_X3_turnsAlone
      rw [p1, q1]
      simp only [ob, hnc, if_false]
      obtain ⟨b1, b2, r1, r2, r3, r4, r5⟩ := lp_two (F1 := fun rec2 (st2 : Int32 × BD) => (if (60 : Int32) < st2.1 then (some ((-1000000 : Int32), st2.2)) else ((M_X2_hasWon st2.2 (nI f)).bind (fun u4 => (if u4 = 0 then ((M_X2_chosenByRule st2.2 (nI f) (6 : Int32)).bind (fun u6 => (if u6 = (-1000000 : Int32) then (rec2 ((st2.1 + (1 : Int32)), st2.2)) else ((M_X2_go st2.2 u6 (6 : Int32)).bind (fun u8 => (rec2 ((st2.1 + (1 : Int32)), u8.2))))))) else (some (st2.1, st2.2))))))) (F2 := fun rec7 (st7 : Int32 × MS) => (if (61 : Int32) ≤ st7.1 then (some ((-1000000 : Int32), st7.2)) else ((M_X8_isDone st7.2 (0 : Int32) (nI f)).bind (fun u9 => (if u9 = 0 then ((M_X8_goAlone st7.2 (0 : Int32) (nI f) (6 : Int32)).bind (fun u11 => (rec7 ((st7.1 + (1 : Int32)), u11)))) else (some (st7.1, st7.2)))))))
        (fun k s1 s2 => s1.1 = nI k ∧ s2.1 = nI k ∧ ∃ q, OKb pts hm n fm kd q ∧ EC pts hm n fm kd q s1.2 ∧ ER pts n q 0 s2.2 ∧ Kp S s2.2 ∧ Kn S s2.2) (fun b1 b2 => b1.1 = b2.1 ∧ Kp S b2.2 ∧ Kn S b2.2) 61 (a1 := ((0 : Int32), L1)) (a2 := ((0 : Int32), S1))
        (by
            rintro k ⟨s1, s2⟩ ⟨t1, t2⟩ hk ⟨rfl, rfl, q, okq, Eq, ERq, kpq, knq⟩
            have l1 : ¬ (60 : Int32) < nI k := fun z => absurd ((ltI (show 60 < 2 ^ 31 by omega) (show k < 2 ^ 31 by omega)).1 z) (by omega)
            have l2 : ¬ (61 : Int32) ≤ nI k := fun z => absurd ((leI (show 61 < 2 ^ 31 by omega) (show k < 2 ^ 31 by omega)).1 z) (by omega)
            have hSq := hS.kp kpq
            have hw := sp_hasWon Eq okq hf2
            have hd : M_X8_isDone t2 (0 : Int32) (nI f) = _ := s8_isDone hSq ERq (show 0 < 4 by omega) okq hf2 hc
            by_cases cw : wonA pts n fm q f = true
            · refine Or.inr ⟨(nI k, s2), (nI k, t2), ⟨rfl, kpq, knq⟩, fun rec => ?_, fun rec => ?_⟩
              · simp only [l1, if_false, hw, ob, b01_t cw, show ¬ (1 : Int32) = 0 by decide]
              · simp only [l2, if_false, hd, ob, b01_t cw, show ¬ (1 : Int32) = 0 by decide]
            · refine Or.inl ?_
              obtain ⟨S', g1, g2, g3, g4, g5⟩ := kp_goAlone hSq ERq (show 0 < 4 by omega) okq hf2 (show 1 ≤ 6 by omega) (show 6 ≤ 6 by omega)
              have g1 : M_X8_goAlone t2 (0 : Int32) (nI f) (6 : Int32) = _ := g1
              obtain ⟨u1, u2⟩ := sp_goAlone Eq okq hf2 (show 1 ≤ 6 by omega) (show 6 ≤ 6 by omega)
              have u1 : M_X2_chosenByRule s2 (nI f) (6 : Int32) = _ := u1
              rcases u2 with ⟨v1, v2⟩ | ⟨v1, v2, v3, hh, L', v4, v5, v6⟩
              · refine ⟨(nI (k + 1), s2), (nI (k + 1), S'), ⟨rfl, rfl, _, okq.tur, Eq.same v2.symm, g2, kpq.trans g4, knq.trans g5⟩, fun rec => ?_, fun rec => ?_⟩
                · simp only [l1, if_false, hw, ob, b01_f cw, u1, v1, if_true, nI_p1]
                · simp only [l2, if_false, hd, ob, b01_f cw, g1, if_true, nI_p1]
              · have v4 : M_X2_go s2 (nI (rulA pts hm n fm kd q f 6 n)) (6 : Int32) = _ := v4
                refine ⟨(nI (k + 1), L'), (nI (k + 1), S'), ⟨rfl, rfl, _, okq.tur, v5, g2, kpq.trans g4, knq.trans g5⟩, fun rec => ?_, fun rec => ?_⟩
                · simp only [l1, if_false, hw, ob, b01_f cw, u1, v1, if_true, nI_p1]
                  rw [v3, v4]
                  rfl
                · simp only [l2, if_false, hd, ob, b01_f cw, g1, if_true, nI_p1])
        (by
            rintro ⟨s1, s2⟩ ⟨t1, t2⟩ ⟨rfl, rfl, q, okq, Eq, ERq, kpq, knq⟩
            exact ⟨(-1000000, s2), (-1000000, t2), ⟨rfl, kpq, knq⟩, fun rec => rfl, fun rec => rfl⟩)
        ⟨rfl, rfl, _, ok.al, p2, q2, q3, q4⟩ (N := 1000000) (by omega)
      refine ⟨b1.1, b1.2, b2.2, (bind_of r1).trans rfl, r2.trans ?_, h.kp r4 r5⟩
      rw [r3]
    · simp only [hc, not_false_eq_true, if_true]
      exact ⟨_, _, _, rfl, rfl, h⟩
  · simp only [hf, not_false_eq_true, if_true]
    exact ⟨_, _, _, rfl, rfl, h⟩
