/-! ===== enter, count ===== -/
section MSK
variable {pts hm n : Nat} {fm kd ps : Nat → Nat} {L : BD} {S : MS}
theorem msk_or (f d : Nat) : ∀ k, mskA pts hm n fm kd ps f d k = orS (fun i => if fm i = f ∧ canA pts hm n fm kd ps i d = true then btI i else 0) k
  | 0 => rfl
  | k + 1 => by
    rw [orS_s, ← msk_or f d k]
    show (if fm k = f ∧ canA pts hm n fm kd ps k d = true then _ else _) = _
    by_cases c : fm k = f ∧ canA pts hm n fm kd ps k d = true
    · rw [if_pos c, if_pos c]; rfl
    · rw [if_neg c, if_neg c, or_z]
theorem btI_ne : ∀ k, k < 8 → btI k ≠ 0 := by
  intro k hk
  match k, hk with
  | 0, _ => decide
  | 1, _ => decide
  | 2, _ => decide
  | 3, _ => decide
  | 4, _ => decide
  | 5, _ => decide
  | 6, _ => decide
  | 7, _ => decide
theorem orS_zero {f : Nat → Int32} : ∀ {n : Nat}, orS f n = 0 ↔ ∀ k, k < n → f k = 0
  | 0 => ⟨fun _ k hk => absurd hk (Nat.not_lt_zero k), fun _ => rfl⟩
  | n + 1 => by
    rw [orS_s, Int32.or_eq_zero_iff, orS_zero]
    constructor
    · rintro ⟨a, b⟩ k hk
      by_cases e : k = n
      · rw [e]; exact b
      · exact a k (by omega)
    · intro h
      exact ⟨fun k hk => h k (by omega), h n (by omega)⟩
theorem msk_zero {f d : Nat} (hn : n ≤ 8) : mskA pts hm n fm kd ps f d n = 0 ↔ ¬ ∃ k, k < n ∧ fm k = f ∧ canA pts hm n fm kd ps k d = true := by
  rw [msk_or, orS_zero]
  constructor
  · rintro h ⟨k, a, b⟩
    have h2 := h k a
    rw [if_pos b] at h2
    exact btI_ne k (by omega) h2
  · intro h k hk
    exact if_neg (fun z => h ⟨k, hk, z⟩)
theorem canA_bar {f i d : Nat} (hf : fm i = f) (h : canA pts hm n fm kd ps i d = true) (hb : cntA n fm ps f pts ≠ 0) : ps i = pts := by
  unfold canA at h
  rw [Bool.and_eq_true, Bool.and_eq_true, Bool.or_eq_true, decide_eq_true_eq, decide_eq_true_eq, decide_eq_true_eq, hf] at h
  rcases h.1.2 with c | c
  · exact c
  · exact absurd c hb
def entG (pts hm n : Nat) (fm kd ps : Nat → Nat) (f d k : Nat) : Int32 := if fm k = f ∧ ps k = pts ∧ canA pts hm n fm kd ps k (d + 1) = true then btI (d + 1) else 0
theorem ent_msk {f d : Nat} (hn : n ≤ 8) (hb : cntA n fm ps f pts ≠ 0) : orS (fun k => entG pts hm n fm kd ps f d k) n = if mskA pts hm n fm kd ps f (d + 1) n = 0 then 0 else btI (d + 1) := by
  have h1 : orS (fun k => entG pts hm n fm kd ps f d k) n = orS (fun k => if fm k = f ∧ canA pts hm n fm kd ps k (d + 1) = true then btI (d + 1) else 0) n := orS_cong (fun k hk => by
    unfold entG
    by_cases c : fm k = f ∧ canA pts hm n fm kd ps k (d + 1) = true
    · rw [if_pos c, if_pos ⟨c.1, canA_bar c.1 c.2 hb, c.2⟩]
    · rw [if_neg c, if_neg (fun z => c ⟨z.1, z.2.2⟩)])
  rw [h1, orS_if]
  by_cases c : mskA pts hm n fm kd ps f (d + 1) n = 0
  · rw [if_pos c, if_neg ((msk_zero hn).1 c)]
  · rw [if_neg c]
    have h2 := fun z => c ((msk_zero hn).2 z)
    rw [if_pos (Classical.not_not.1 h2)]
theorem sp_throwsThatEnter (E : EC pts hm n fm kd ps L) (ok : OKb pts hm n fm kd ps) {f : Nat} (hf : f < 2) (hb : cntA n fm ps f pts ≠ 0) : M_X2_throwsThatEnter L (nI f) = some (orS (fun d => orS (fun k => entG pts hm n fm kd ps f d k) n) 6) := by
  have hn : n ≤ 8 := ok.2.2.2.2.1
  unfold M_X2_throwsThatEnter
  refine (bind_of (b := 0 ||| orS (fun d => orS (fun k => entG pts hm n fm kd ps f d k) n) 6) ?_).trans (by rw [z_or])
  refine lp_or1 _ 6 0 (by omega) ?_ ?_
  · intro d w rec2 hd
    simp only [show ((6 : Int32)) = nI 6 from rfl, thr_idx hd, if_false, sp_menWhoCan E ok hf (show 1 ≤ d + 1 by omega) (show d + 1 ≤ 6 by omega), ob, nI_p1, ent_msk hn hb]
    by_cases c : mskA pts hm n fm kd ps f (d + 1) n = 0
    · rw [if_pos c, if_pos c, or_z]
    · rw [if_neg c, if_neg c]; rfl
  · intro w rec2
    rfl
end MSK
theorem sim_enter {tf : TF} {rw_ : RW} {tp : TP} {bs : IA} {L i0 i1 : BD} {ac : AC} {as : AS} {S : MS} (h : Rel tf rw_ tp bs L i0 i1 ac as S) (x : Int32) :
    ∃ v S', M_X7_enter tf L x = some v ∧ M_X8_enter S x = some (v, S') ∧ Rel tf rw_ tp bs L i0 i1 ac as S' := by
  unfold M_X7_enter M_X8_enter
  rcases h.2.2.2.2.tab with ⟨e1, e2, e3⟩ | ⟨pts, hm, n, fm, kd, ps, thr, trn, cub, ow, B⟩
  · rw [no_tab e1, e3]
    exact ⟨_, _, rfl, rfl, h⟩
  · have hn := B.n8
    have hno := B.no (tf := tf)
    have hhas := B.has
    obtain ⟨c1, ok, okt, E, T, EM, TM, c6, hoo⟩ := B
    have hpt : pts ≤ 12 := ok.2.1
    rw [hno, if_neg hhas, sp_isFirm7, sp_isFirm8]
    simp only [ob, if_true, b01_no]
    by_cases hf : 0 ≤ x ∧ x ≤ 1
    · obtain ⟨f, hf2, rfl⟩ := firm_of hf
      have nf : ¬ ¬ (0 ≤ nI f ∧ nI f ≤ 1) := fun z => z hf
      simp only [nf, if_false]
      have hS' := (es_of EM hoo hn).rows (R := asR 0 (ms_rows S) (ms_now S) 12)
      have hE' := er_aside (D := 0) EM hn
      have EM' := EM.rows (R := asR 0 (ms_rows S) (ms_now S) 12)
      have hb := trc_bar (pts := pts) (p := pts) (by omega) hpt
      have hma : M_X8_manyAt _ (0 : Int32) (nI f) (nI (trc pts pts)) (-1000000 : Int32) = _ := s8_manyAt hS' hE' (show 0 < 4 by omega) ok hf2 (a := pts) (by omega) (x := -1000000) (m := n) (fun i hi => ⟨fun z => absurd z (nI_ne_no (by omega)), fun z => by omega⟩)
      rw [hb.2 rfl, cntX_no] at hma
      have hc := cntA_le n fm ps f pts
      rw [sp_bar E, show M_X8_aside S (0 : Int32) = _ from s8_aside S (show 0 < 4 by omega)]
      simp only [ob, EM'.1]
      rw [sp_crowd E hf2 (show pts < 14 by omega), hma]
      simp only [ob, show ((0 : Int32)) = nI 0 from rfl, eqI (show cntA n fm ps f pts < 2 ^ 31 by omega) (show 0 < 2 ^ 31 by omega)]
      by_cases c0 : cntA n fm ps f pts = 0
      · rw [if_pos c0, if_pos c0]
        exact ⟨_, _, rfl, rfl, h.rows _⟩
      · rw [if_neg c0, if_neg c0, sp_throwsThatEnter E ok hf2 c0]
        refine ⟨_, _, rfl, (bind_of (b := 0 ||| orS (fun d => orS (fun k => entG pts hm n fm kd ps f d k) n) 6) ?_).trans (by rw [z_or]), h.rows _⟩
        refine lp_or1 _ 6 0 (by omega) ?_ ?_
        · intro d v rec hd
          simp only [show ((7 : Int32)) = nI 7 from rfl, thr_idx7 hd, if_false]
          refine (bind_of (b := v ||| orS (fun k => entG pts hm n fm kd ps f d k) n) ?_).trans (by rw [nI_p1])
          refine lp_or0 _ n v (by omega) ?_ ?_
          · intro k v2 rec2 hk
            obtain ⟨f1, f2, f3⟩ := EM'.2.2.2 k hk
            obtain ⟨o1, o2, o3, o4⟩ := ok.2.2.2.2.2 k hk
            have h1 : ¬ nI n ≤ nI k := nI_ge hk (by omega)
            have tt := trc_le o4 hpt
            simp only [EM'.2.2.1, h1, if_false]
            rw [inb_nI (show k < 8 by omega) (by omega), inb_nI (show k < 12 by omega) (by omega), cl (show k < 2 ^ 31 by omega), f1, f3, s8_can hS' hE' (show 0 < 4 by omega) ok hk (show 1 ≤ d + 1 by omega) (show d + 1 ≤ 6 by omega)]
            simp only [ob, if_true, eqI (show fm k < 2 ^ 31 by omega) (show f < 2 ^ 31 by omega), eqI (show trc pts (ps k) < 2 ^ 31 by omega) (show pts < 2 ^ 31 by omega), trc_bar o4 hpt, show nI 0 = (0 : Int32) from rfl, b01_no, or_z, nI_p1]
            unfold entG
            by_cases c1 : fm k = f
            · rw [if_pos c1]
              by_cases c2 : ps k = pts
              · rw [if_pos c2]
                by_cases c4 : canA pts hm n fm kd ps k (d + 1) = true
                · rw [if_neg (fun z => z c4), if_pos ⟨c1, c2, c4⟩]; rfl
                · rw [if_pos c4, if_neg (fun z => c4 z.2.2), or_z]
              · rw [if_neg c2, if_neg (fun z => c2 z.2.1), or_z]
            · rw [if_neg c1, if_neg (fun z => c1 z.1), or_z]
          · intro v2 rec2
            have h1 : nI n ≤ nI n := nI_le (Nat.le_refl n) (by omega)
            simp only [EM'.2.2.1, h1, if_true]
        · intro v rec
          rfl
    · simp only [hf, not_false_eq_true, if_true]
      exact ⟨_, _, rfl, rfl, h⟩
/-- rows that are there -/
def cntR (S : MS) : Nat → Nat
  | 0 => 0
  | k + 1 => cntR S k + (if 0 ≤ ms_sizes S k then 1 else 0)
theorem sim_rowsThere {rw_ : RW} {S : MS} (h : RelRow rw_ S) : M_X5_present rw_ = some (nI (cntR S 8)) ∧ lp (σ := Int32 × Int32) (β := Int32) (fun rec2 st2 => (if (8 : Int32) ≤ st2.2 then (some st2.1) else (if inb st2.2 8 = true then (if 0 ≤ ((ms_sizes S) (st2.2).toNatClampNeg) then (rec2 ((st2.1 + (1 : Int32)), (st2.2 + (1 : Int32)))) else (rec2 ((st2.1 + (0 : Int32)), (st2.2 + (1 : Int32))))) else none))) 1000000 ((0 : Int32), (0 : Int32)) = some (nI (cntR S 8)) := by
  have hk8 : ∀ k, k < 8 → ¬ nI 8 ≤ nI k := fun k hk => nI_ge hk (by omega)
  constructor
  · unfold M_X5_present
    refine (bind_of (b := nI (cntR S 8)) ?_).trans rfl
    refine lp_at (fun k => (nI (cntR S k), nI k)) 8 _ rfl ?_ ?_ (by omega)
    · intro k rec hk
      simp only [show ((8 : Int32)) = nI 8 from rfl, hk8 k hk, if_false]
      rw [sp_isMissing rw_ hk]
      simp only [ob, b01_no, nI_p1]
      have e : cntR S (k + 1) = cntR S k + (if 0 ≤ ms_sizes S k then 1 else 0) := rfl
      rcases h.2 k hk with ⟨a, b⟩ | ⟨l', n', a, b, c, d, e', f⟩
      · rw [if_neg (fun z => z a), e, b, if_neg (show ¬ (0 : Int32) ≤ -1 by decide)]; rfl
      · rw [if_pos (ne_m1 c (by omega)), e, f, if_pos (nI_pos' (by omega))]
    · intro rec
      rfl
  · refine lp_at (fun k => (nI (cntR S k), nI k)) 8 _ rfl ?_ ?_ (by omega)
    · intro k rec hk
      have e : cntR S (k + 1) = cntR S k + (if 0 ≤ ms_sizes S k then 1 else 0) := rfl
      simp only [show ((8 : Int32)) = nI 8 from rfl, hk8 k hk, if_false]
      rw [inb_nI hk (by omega), cl (show k < 2 ^ 31 by omega)]
      simp only [if_true, Int32.add_zero, nI_p1]
      by_cases c : 0 ≤ ms_sizes S k
      · rw [if_pos c, e, if_pos c]
      · rw [if_neg c, e, if_neg c]; rfl
    · intro rec
      rfl
/-- men of both firms -/
theorem cnt_both {n : Nat} {fm ps : Nat → Nat} {a : Nat} : ∀ k, k ≤ n → (∀ i, i < n → fm i < 2) → fb_ct (fun i => ps i == a) k = cntA k fm ps 0 a + cntA k fm ps 1 a
  | 0, _, _ => rfl
  | k + 1, h, o => by
    have ih := cnt_both (ps := ps) (a := a) k (by omega) o
    have h2 := o k (by omega)
    have e1 : fb_ct (fun i => ps i == a) (k + 1) = fb_ct (fun i => ps i == a) k + (if (ps k == a) = true then 1 else 0) := rfl
    have e2 : ∀ f, cntA (k + 1) fm ps f a = cntA k fm ps f a + (if (fm k == f && ps k == a) = true then 1 else 0) := fun f => rfl
    rw [e1, e2, e2, ih]
    rcases (show fm k = 0 ∨ fm k = 1 by omega) with c | c <;> rw [c] <;> cases (ps k == a) <;> simp <;> omega
theorem s8_manyNow {pts hm n : Nat} {fm kd ps : Nat → Nat} {S : MS} (EM : EMb pts hm n fm kd ps S) (ok : OKb pts hm n fm kd ps) {a : Nat} (ha : a ≤ pts + 1) : M_X8_manyNow S (nI (trc pts a)) = some (nI (cntA n fm ps 0 a) + nI (cntA n fm ps 1 a)) := by
  have hn : n ≤ 8 := ok.2.2.2.2.1
  have hpt : pts ≤ 12 := ok.2.1
  rw [nI_add, ← cnt_both n (Nat.le_refl n) (fun i hi => (ok.2.2.2.2.2 i hi).1)]
  unfold M_X8_manyNow
  refine (bind_of (b := nI (fb_ct (fun i => ps i == a) n)) ?_).trans rfl
  refine lp_at (fun k => (nI (fb_ct (fun i => ps i == a) k), nI k)) n _ rfl ?_ ?_ (by omega)
  · intro k rec hk
    obtain ⟨f1, f2, f3⟩ := EM.2.2.2 k hk
    obtain ⟨o1, o2, o3, o4⟩ := ok.2.2.2.2.2 k hk
    have h1 : ¬ nI n ≤ nI k := nI_ge hk (by omega)
    have tt := trc_le o4 hpt
    have ta := trc_le ha hpt
    have e1 : fb_ct (fun i => ps i == a) (k + 1) = fb_ct (fun i => ps i == a) k + (if (ps k == a) = true then 1 else 0) := rfl
    simp only [EM.2.2.1, h1, if_false]
    rw [inb_nI (show k < 12 by omega) (by omega), cl (show k < 2 ^ 31 by omega), f3]
    simp only [if_true, eqI (show trc pts (ps k) < 2 ^ 31 by omega) (show trc pts a < 2 ^ 31 by omega), trc_inj o4 ha hpt, nI_p1, Int32.add_zero]
    by_cases c : ps k = a
    · rw [if_pos c, e1, if_pos (by simp [c])]
    · rw [if_neg c, e1, if_neg (by simp [c])]; rfl
  · intro rec
    have h1 : nI n ≤ nI n := nI_le (Nat.le_refl n) (by omega)
    simp only [EM.2.2.1, h1, if_true]
theorem sim_count {tf : TF} {rw_ : RW} {tp : TP} {bs : IA} {L i0 i1 : BD} {ac : AC} {as : AS} {S : MS} (h : Rel tf rw_ tp bs L i0 i1 ac as S) (x : Int32) :
    ∃ v, M_X7_count tf tp ac L rw_ x = some v ∧ M_X8_count S x = some v := by
  obtain ⟨hT, hR, hP, hA, hB⟩ := h
  obtain ⟨nt, ht, p1, p2, p3⟩ := hP
  obtain ⟨r1, r2⟩ := sim_rowsThere hR
  obtain ⟨pts, hm, n, fm, kd, ps, thr, trn, cub, ow, hcase, E, EM, hAct, hoo, hImg⟩ := hB
  obtain ⟨K, N, k1, k2, k3, k4, k5, k6⟩ := hAct
  unfold M_X7_count M_X8_count
  rw [r1, r2, E.2.2.1, EM.2.2.1, E.1, EM.1, k3, k5, p1, p2]
  by_cases d0 : x = 0
  · rw [if_pos d0, if_pos d0]; exact ⟨_, rfl, rfl⟩
  rw [if_neg d0, if_neg d0]
  by_cases d1 : x = 1
  · rw [if_pos d1, if_pos d1]; exact ⟨_, rfl, rfl⟩
  rw [if_neg d1, if_neg d1]
  by_cases d2 : x = 2
  · rw [if_pos d2, if_pos d2]
    rcases hcase with ⟨c1, c2, c3, c4, c5, c6, c7⟩ | ⟨c1, ok, okt, T, TM, c6⟩
    · rw [c4, show ms_now S ((11 : Int32)).toNatClampNeg = 0 from c5]; exact ⟨_, rfl, rfl⟩
    · rw [T.1, show ms_now S ((11 : Int32)).toNatClampNeg = nI trn from TM.1]; exact ⟨_, rfl, rfl⟩
  rw [if_neg d2, if_neg d2]
  have two : ∀ a, a ≤ pts + 1 → M_X8_manyNow S (nI (trc pts a)) = some (nI (cntA n fm ps 0 a) + nI (cntA n fm ps 1 a)) := by
    intro a ha
    rcases hcase with ⟨c1, c2, c3, c4, c5, c6, c7⟩ | ⟨c1, ok, okt, T, TM, c6⟩
    · subst c1
      unfold M_X8_manyNow
      rw [EM.2.2.1]
      rfl
    · exact s8_manyNow EM ok ha
  have hpt : pts ≤ 12 := by
    rcases hcase with c | c
    · omega
    · exact c.2.1.2.1
  have t99 := two (pts + 1) (by omega)
  have tbar := two pts (by omega)
  rw [(trc_99 (Nat.le_refl _) hpt).2 rfl] at t99
  rw [(trc_bar (by omega) hpt).2 rfl] at tbar
  by_cases d3 : x = 3
  · rw [if_pos d3, if_pos d3, show ((99 : Int32)) = nI 99 from rfl, t99, sp_off E, show ((0 : Int32)) = nI 0 from rfl, show ((1 : Int32)) = nI 1 from rfl]
    simp only [ob]
    rw [sp_crowd E (show 0 < 2 by omega) (show pts + 1 < 14 by omega), sp_crowd E (show 1 < 2 by omega) (show pts + 1 < 14 by omega)]
    exact ⟨_, rfl, rfl⟩
  rw [if_neg d3, if_neg d3]
  by_cases d4 : x = 4
  · rw [if_pos d4, if_pos d4, tbar, sp_bar E, show ((0 : Int32)) = nI 0 from rfl, show ((1 : Int32)) = nI 1 from rfl]
    simp only [ob]
    rw [sp_crowd E (show 0 < 2 by omega) (show pts < 14 by omega), sp_crowd E (show 1 < 2 by omega) (show pts < 14 by omega)]
    exact ⟨_, rfl, rfl⟩
  rw [if_neg d4, if_neg d4]
  by_cases d5 : x = 5
  · rw [if_pos d5]; exact ⟨_, rfl, rfl⟩
  rw [if_neg d5]
  by_cases d6 : x = 6
  · rw [if_pos d6]; exact ⟨_, rfl, rfl⟩
  rw [if_neg d6]
  by_cases d7 : x = 7
  · rw [if_pos d7]; exact ⟨_, rfl, rfl⟩
  rw [if_neg d7]
  exact ⟨_, rfl, rfl⟩
