/-! ===== safe, on, kind, as ===== -/
section SAFE
variable {pts hm n : Nat} {fm kd ps : Nat → Nat} {L : BD} {S : MS} {thr trn cub : Nat} {ow : Int32}
def safG (pts n : Nat) (fm ps : Nat → Nat) (f : Nat) (k : Nat) : Int32 := if fm k = f ∧ ps k < pts ∧ 2 ≤ cntA n fm ps f (ps k) then btI k else 0
theorem sp_menInCompany (E : EC pts hm n fm kd ps L) (ok : OKb pts hm n fm kd ps) {f : Nat} (hf : f < 2) : M_X2_menInCompany L (nI f) = some (orS (safG pts n fm ps f) n) := by
  have hn : n ≤ 8 := ok.2.2.2.2.1
  have hpt : pts ≤ 12 := ok.2.1
  unfold M_X2_menInCompany
  refine (bind_of (b := 0 ||| orS (safG pts n fm ps f) n) ?_).trans (by rw [z_or])
  refine lp_or0 _ n 0 (by omega) ?_ ?_
  · intro k v rec hk
    obtain ⟨f1, f2, f3⟩ := E.2.2.2.1 k hk
    obtain ⟨o1, o2, o3, o4⟩ := ok.2.2.2.2.2 k hk
    have h1 : ¬ nI n ≤ nI k := nI_ge hk (by omega)
    have hc := cntA_le n fm ps f (ps k)
    simp only [E.2.2.1, h1, if_false]
    rw [inb_nI (show k < 8 by omega) (by omega), cl (show k < 2 ^ 31 by omega), f1, f3, E.1, sp_crowd E hf (show ps k < 14 by omega)]
    simp only [ob, if_true, eqI (show fm k < 2 ^ 31 by omega) (show f < 2 ^ 31 by omega), leI (show pts < 2 ^ 31 by omega) (show ps k < 2 ^ 31 by omega), show ((2 : Int32)) = nI 2 from rfl, ltI (show cntA n fm ps f (ps k) < 2 ^ 31 by omega) (show 2 < 2 ^ 31 by omega), nI_p1]
    unfold safG
    by_cases c1 : fm k = f
    · rw [if_pos c1]
      by_cases c2 : pts ≤ ps k
      · rw [if_pos c2, if_neg (fun z => Nat.not_lt.2 c2 z.2.1), or_z]
      · rw [if_neg c2]
        by_cases c3 : cntA n fm ps f (ps k) < 2
        · rw [if_pos c3, if_neg (fun z => Nat.not_le.2 c3 z.2.2), or_z]
        · rw [if_neg c3, if_pos ⟨c1, by omega, by omega⟩]; rfl
    · rw [if_neg c1, if_neg (fun z => c1 z.1), or_z]
  · intro v rec
    have h1 : nI n ≤ nI n := nI_le (Nat.le_refl n) (by omega)
    simp only [E.2.2.1, h1, if_true]
end SAFE
theorem sim_safe {tf : TF} {rw_ : RW} {tp : TP} {bs : IA} {L i0 i1 : BD} {ac : AC} {as : AS} {S : MS} (h : Rel tf rw_ tp bs L i0 i1 ac as S) (x : Int32) :
    ∃ v S', M_X7_safe tf L x = some v ∧ M_X8_safe S x = some (v, S') ∧ Rel tf rw_ tp bs L i0 i1 ac as S' := by
  unfold M_X7_safe M_X8_safe
  rcases h.2.2.2.2.tab with ⟨e1, e2, e3⟩ | ⟨pts, hm, n, fm, kd, ps, thr, trn, cub, ow, B⟩
  · rw [no_tab e1, e3]
    exact ⟨_, _, rfl, rfl, h⟩
  · have hn := B.n8
    have hno := B.no (tf := tf)
    have hhas := B.has
    obtain ⟨c1, ok, okt, E, T, EM, TM, c6, hoo⟩ := B
    have hpt : pts ≤ 12 := ok.2.1
    have EM' := EM.rows (R := asR 0 (ms_rows S) (ms_now S) 12)
    rw [hno, if_neg hhas, sp_isFirm7, sp_isFirm8]
    simp only [ob, if_true, b01_no]
    by_cases hf : 0 ≤ x ∧ x ≤ 1
    · obtain ⟨f, hf2, rfl⟩ := firm_of hf
      have nf : ¬ ¬ (0 ≤ nI f ∧ nI f ≤ 1) := fun z => z hf
      simp only [nf, if_false]
      rw [sp_menInCompany E ok hf2, show M_X8_aside S (0 : Int32) = _ from s8_aside S (show 0 < 4 by omega)]
      simp only [ob]
      have hS' := (es_of EM hoo hn).rows (R := asR 0 (ms_rows S) (ms_now S) 12)
      have hE' := er_aside (D := 0) EM hn
      refine ⟨_, _, rfl, (bind_of (b := 0 ||| orS (safG pts n fm ps f) n) ?_).trans (by rw [z_or]), h.rows _⟩
      refine lp_or0 _ n 0 (by omega) ?_ ?_
      · intro k v rec hk
        obtain ⟨f1, f2, f3⟩ := EM'.2.2.2 k hk
        obtain ⟨o1, o2, o3, o4⟩ := ok.2.2.2.2.2 k hk
        have h1 : ¬ nI n ≤ nI k := nI_ge hk (by omega)
        have t1 := trc_le o4 hpt
        have hma := fun a ha => s8_manyAt hS' hE' (show 0 < 4 by omega) ok hf2 (a := a) ha (x := nI k) (m := k) (fun i hi => eqI (show i < 2 ^ 31 by omega) (show k < 2 ^ 31 by omega))
        have hma : ∀ a, a ≤ pts + 1 → M_X8_manyAt _ (0 : Int32) (nI f) (nI (trc pts a)) (nI k) = _ := hma
        have hcx : cntX n fm ps f (ps k) k ≤ n := fb_ct_le _ _
        simp only [EM'.2.2.1, h1, if_false]
        rw [inb_nI (show k < 8 by omega) (by omega), inb_nI (show k < 12 by omega) (by omega), cl (show k < 2 ^ 31 by omega), f1, f3, EM'.1, hma _ o4]
        simp only [ob, if_true, eqI (show fm k < 2 ^ 31 by omega) (show f < 2 ^ 31 by omega), leI (show pts < 2 ^ 31 by omega) (show trc pts (ps k) < 2 ^ 31 by omega), trc_ge o4 hpt, show ((0 : Int32)) = nI 0 from rfl, leI (show cntX n fm ps f (ps k) k < 2 ^ 31 by omega) (show 0 < 2 ^ 31 by omega), nI_p1]
        unfold safG
        by_cases c1 : fm k = f
        · rw [if_pos c1]
          have hx := cntX_pos (fm := fm) (ps := ps) hk c1 rfl
          by_cases c2 : pts ≤ ps k
          · rw [if_pos c2, if_neg (fun z => Nat.not_lt.2 c2 z.2.1)]; rfl
          · rw [if_neg c2]
            by_cases c3 : cntX n fm ps f (ps k) k ≤ 0
            · rw [if_pos c3, if_neg (fun z => Nat.not_le.2 (hx.2 z.2.2) c3)]; rfl
            · rw [if_neg c3, if_pos ⟨c1, by omega, by omega⟩]; rfl
        · rw [if_neg c1, if_neg (fun z => c1 z.1)]; rfl
      · intro v rec
        have h1 : nI n ≤ nI n := nI_le (Nat.le_refl n) (by omega)
        simp only [EM'.2.2.1, h1, if_true]
    · simp only [hf, not_false_eq_true, if_true]
      exact ⟨_, _, rfl, rfl, h⟩
section ON
variable {pts hm n : Nat} {fm kd ps : Nat → Nat} {L : BD} {S : MS} {thr trn cub : Nat} {ow : Int32}
def onG (fm ps : Nat → Nat) (f a : Nat) (k : Nat) : Int32 := if fm k = f ∧ ps k = a then btI k else 0
theorem sp_menAt (E : EC pts hm n fm kd ps L) (ok : OKb pts hm n fm kd ps) {f a : Nat} (hf : f < 2) (ha : a ≤ pts + 1) : M_X2_menAt L (nI f) (nI a) = some (orS (onG fm ps f a) n) := by
  have hn : n ≤ 8 := ok.2.2.2.2.1
  have hpt : pts ≤ 12 := ok.2.1
  unfold M_X2_menAt
  refine (bind_of (b := 0 ||| orS (onG fm ps f a) n) ?_).trans (by rw [z_or])
  refine lp_or0 _ n 0 (by omega) ?_ ?_
  · intro k v rec hk
    obtain ⟨f1, f2, f3⟩ := E.2.2.2.1 k hk
    obtain ⟨o1, o2, o3, o4⟩ := ok.2.2.2.2.2 k hk
    have h1 : ¬ nI n ≤ nI k := nI_ge hk (by omega)
    simp only [E.2.2.1, h1, if_false]
    rw [inb_nI (show k < 8 by omega) (by omega), cl (show k < 2 ^ 31 by omega), f1, f3]
    simp only [if_true, eqI (show fm k < 2 ^ 31 by omega) (show f < 2 ^ 31 by omega), eqI (show ps k < 2 ^ 31 by omega) (show a < 2 ^ 31 by omega), nI_p1]
    unfold onG
    by_cases c1 : fm k = f
    · rw [if_pos c1]
      by_cases c2 : ps k = a
      · rw [if_pos c2, if_pos ⟨c1, c2⟩]; rfl
      · rw [if_neg c2, if_neg (fun z => c2 z.2), or_z]
    · rw [if_neg c1, if_neg (fun z => c1 z.1), or_z]
  · intro v rec
    have h1 : nI n ≤ nI n := nI_le (Nat.le_refl n) (by omega)
    simp only [E.2.2.1, h1, if_true]
end ON
theorem pl_of {pts : Nat} {y : Int32} (hp : pts ≤ 12) (h : 0 ≤ y ∧ y ≤ nI pts) : ∃ a, a ≤ pts ∧ y = nI a := by
  rw [le0] at h
  obtain ⟨k, hk, rfl⟩ := nI_of (x := y) (by rw [lt0]; omega)
  have h2 := (leI (show k < 2 ^ 31 by omega) (show pts < 2 ^ 31 by omega)).1 h.2
  exact ⟨k, h2, rfl⟩
theorem sim_on {tf : TF} {rw_ : RW} {tp : TP} {bs : IA} {L i0 i1 : BD} {ac : AC} {as : AS} {S : MS} (h : Rel tf rw_ tp bs L i0 i1 ac as S) (x y : Int32) :
    ∃ v, M_X7_on tf L x y = some v ∧ M_X8_on S x y = some v := by
  unfold M_X7_on M_X8_on
  rcases h.2.2.2.2.tab with ⟨e1, e2, e3⟩ | ⟨pts, hm, n, fm, kd, ps, thr, trn, cub, ow, B⟩
  · rw [no_tab e1, e3]
    exact ⟨_, rfl, rfl⟩
  · have hn := B.n8
    have hno := B.no (tf := tf)
    have hhas := B.has
    obtain ⟨c1, ok, okt, E, T, EM, TM, c6, hoo⟩ := B
    have hpt : pts ≤ 12 := ok.2.1
    rw [hno, if_neg hhas, sp_isFirm7, sp_isFirm8, sp_off E, EM.1, show (0 : Int64) = (0 : Int32).toInt64 from rfl, sp_in, nI_p1]
    simp only [ob, if_true, b01_no]
    by_cases hf : 0 ≤ x ∧ x ≤ 1
    · obtain ⟨f, hf2, rfl⟩ := firm_of hf
      have nf : ¬ ¬ (0 ≤ nI f ∧ nI f ≤ 1) := fun z => z hf
      simp only [nf, if_false]
      rw [sp_within]
      simp only [ob, b01_no]
      by_cases hy : 0 ≤ y ∧ y ≤ nI (pts + 1)
      · have ny : ¬ ¬ (0 ≤ y ∧ y ≤ nI (pts + 1)) := fun z => z hy
        simp only [ny, if_false]
        obtain ⟨a, ha, rfl⟩ : ∃ a, a ≤ pts + 1 ∧ y = nI a := by
          rw [le0] at hy
          obtain ⟨k, hk, rfl⟩ := nI_of (x := y) (by rw [lt0]; omega)
          exact ⟨k, (leI (show k < 2 ^ 31 by omega) (show pts + 1 < 2 ^ 31 by omega)).1 hy.2, rfl⟩
        rw [sp_menAt E ok hf2 ha]
        refine ⟨_, rfl, (bind_of (b := 0 ||| orS (onG fm ps f a) n) ?_).trans (by rw [z_or])⟩
        refine lp_or0 _ n 0 (by omega) ?_ ?_
        · intro k v rec hk
          obtain ⟨f1, f2, f3⟩ := EM.2.2.2 k hk
          obtain ⟨o1, o2, o3, o4⟩ := ok.2.2.2.2.2 k hk
          have h1 : ¬ nI n ≤ nI k := nI_ge hk (by omega)
          have t1 := trc_le o4 hpt
          have t9 := trc_99 o4 hpt
          simp only [EM.2.2.1, h1, if_false]
          unfold jn
          rw [inb_nI (show k < 8 by omega) (by omega), inb_nI (show k < 12 by omega) (by omega), cl (show k < 2 ^ 31 by omega), f1, f3]
          simp only [if_true, eqI (show fm k < 2 ^ 31 by omega) (show f < 2 ^ 31 by omega), leI (show a < 2 ^ 31 by omega) (show pts < 2 ^ 31 by omega), show ((99 : Int32)) = nI 99 from rfl, eqI (show trc pts (ps k) < 2 ^ 31 by omega) (show a < 2 ^ 31 by omega), eqI (show trc pts (ps k) < 2 ^ 31 by omega) (show 99 < 2 ^ 31 by omega), t9, nI_p1, show ¬ (1 : Int32) = 0 by decide, if_false]
          unfold onG
          have key : (if a ≤ pts then trc pts (ps k) = a else ps k = pts + 1) ↔ ps k = a := by
            by_cases c : a ≤ pts
            · rw [if_pos c]
              unfold trc
              split <;> omega
            · rw [if_neg c]; omega
          by_cases c1 : fm k = f
          · by_cases c2 : ps k = a
            · rw [if_pos (show fm k = f ∧ ps k = a from ⟨c1, c2⟩)]
              simp only [c1, if_true]
              by_cases c : a ≤ pts
              · rw [if_pos c] at key ⊢
                rw [if_pos (key.2 c2)]; rfl
              · rw [if_neg c] at key ⊢
                rw [if_pos (key.2 c2)]; rfl
            · rw [if_neg (show ¬ (fm k = f ∧ ps k = a) from fun z => c2 z.2)]
              simp only [c1, if_true]
              by_cases c : a ≤ pts
              · rw [if_pos c] at key ⊢
                rw [if_neg (fun z => c2 (key.1 z))]
              · rw [if_neg c] at key ⊢
                rw [if_neg (fun z => c2 (key.1 z))]
          · rw [if_neg (show ¬ (fm k = f ∧ ps k = a) from fun z => c1 z.1)]
            simp only [c1, if_false, ite_self]
        · intro v rec
          have h1 : nI n ≤ nI n := nI_le (Nat.le_refl n) (by omega)
          simp only [EM.2.2.1, h1, if_true]
      · simp only [hy, not_false_eq_true, if_true]
        exact ⟨_, rfl, rfl⟩
    · simp only [hf, not_false_eq_true, if_true]
      exact ⟨_, rfl, rfl⟩
theorem sim_kind {tf : TF} {rw_ : RW} {tp : TP} {bs : IA} {L i0 i1 : BD} {ac : AC} {as : AS} {S : MS} (h : Rel tf rw_ tp bs L i0 i1 ac as S) (x : Int32) :
    ∃ v, M_X7_kind tf L x = some v ∧ M_X8_kind S x = some v := by
  unfold M_X7_kind M_X8_kind
  rcases h.2.2.2.2.tab with ⟨e1, e2, e3⟩ | ⟨pts, hm, n, fm, kd, ps, thr, trn, cub, ow, B⟩
  · rw [sp_isMan7 (n := 0) e1, sp_isMan8 (n := 0) e2, b01_f man_no]
    exact ⟨_, rfl, rfl⟩
  · have hn := B.n8
    obtain ⟨c1, ok, okt, E, T, EM, TM, c6, hoo⟩ := B
    rw [sp_isMan7 E.2.2.1, sp_isMan8 EM.2.2.1]
    simp only [ob, b01_no]
    by_cases hm1 : 0 ≤ x ∧ x ≤ nI n - 1
    · obtain ⟨i, hi, rfl⟩ := man_of hn hm1
      have nm : ¬ ¬ (0 ≤ nI i ∧ nI i ≤ nI n - 1) := fun z => z hm1
      simp only [nm, if_false]
      rw [inb_nI (show i < 8 by omega) (by omega), cl (show i < 2 ^ 31 by omega), (E.2.2.2.1 i hi).2.1, (EM.2.2.2 i hi).2.1]
      exact ⟨_, rfl, rfl⟩
    · simp only [hm1, not_false_eq_true, if_true]
      exact ⟨_, rfl, rfl⟩
/-- which kinds one is -/
def iskB (k q : Nat) : Bool := q == 0 || q == k || (q == 1 && decide (k < 4)) || (q == 4 && k == 5)
theorem isk_all : ∀ k, k < 6 → ∀ q, q < 6 → 1 ≤ k → M_X7_isKind (nI k) (nI q) = some (if iskB k q = true then 1 else 0) := by
  intro k hk q hq h1
  match k, hk, h1 with
  | 1, _, _ => match q, hq with
    | 0, _ => rfl
    | 1, _ => rfl
    | 2, _ => rfl
    | 3, _ => rfl
    | 4, _ => rfl
    | 5, _ => rfl
  | 2, _, _ => match q, hq with
    | 0, _ => rfl
    | 1, _ => rfl
    | 2, _ => rfl
    | 3, _ => rfl
    | 4, _ => rfl
    | 5, _ => rfl
  | 3, _, _ => match q, hq with
    | 0, _ => rfl
    | 1, _ => rfl
    | 2, _ => rfl
    | 3, _ => rfl
    | 4, _ => rfl
    | 5, _ => rfl
  | 4, _, _ => match q, hq with
    | 0, _ => rfl
    | 1, _ => rfl
    | 2, _ => rfl
    | 3, _ => rfl
    | 4, _ => rfl
    | 5, _ => rfl
  | 5, _, _ => match q, hq with
    | 0, _ => rfl
    | 1, _ => rfl
    | 2, _ => rfl
    | 3, _ => rfl
    | 4, _ => rfl
    | 5, _ => rfl
theorem in05 {y : Int32} (h : 0 ≤ y ∧ y ≤ 5) : ∃ q, q < 6 ∧ y = nI q := by
  obtain ⟨q, hq, e⟩ := pl_of (pts := 5) (by omega) h
  exact ⟨q, by omega, e⟩
theorem sim_as {tf : TF} {rw_ : RW} {tp : TP} {bs : IA} {L i0 i1 : BD} {ac : AC} {as : AS} {S : MS} (h : Rel tf rw_ tp bs L i0 i1 ac as S) (x y : Int32) :
    ∃ v tf' S', M_X7_as tf L x y = some (v, tf') ∧ M_X8_as S x y = some (v, S') ∧ Rel tf' rw_ tp bs L i0 i1 ac as S' := by
  unfold M_X7_as M_X8_as
  rcases h.2.2.2.2.tab with ⟨e1, e2, e3⟩ | ⟨pts, hm, n, fm, kd, ps, thr, trn, cub, ow, B⟩
  · rw [sp_isMan7 (n := 0) e1, sp_isMan8 (n := 0) e2, b01_f man_no]
    exact ⟨_, _, _, rfl, rfl, h⟩
  · have hn := B.n8
    obtain ⟨c1, ok, okt, E, T, EM, TM, c6, hoo⟩ := B
    rw [sp_isMan7 E.2.2.1, sp_isMan8 EM.2.2.1, sp_within, show (0 : Int64) = (0 : Int32).toInt64 from rfl, show (5 : Int64) = (5 : Int32).toInt64 from rfl, sp_in]
    simp only [ob, b01_no]
    by_cases hm1 : 0 ≤ x ∧ x ≤ nI n - 1
    · obtain ⟨i, hi, rfl⟩ := man_of hn hm1
      have nm : ¬ ¬ (0 ≤ nI i ∧ nI i ≤ nI n - 1) := fun z => z hm1
      obtain ⟨o1, o2, o3, o4⟩ := ok.2.2.2.2.2 i hi
      simp only [nm, if_false]
      by_cases hy : 0 ≤ y ∧ y ≤ 5
      · obtain ⟨q, hq, rfl⟩ := in05 hy
        have ny : ¬ ¬ (0 ≤ nI q ∧ nI q ≤ 5) := fun z => z hy
        simp only [ny, if_false]
        rw [inb_nI (show i < 8 by omega) (by omega), cl (show i < 2 ^ 31 by omega), (E.2.2.2.1 i hi).2.1, (EM.2.2.2 i hi).2.1, isk_all (kd i) (by omega) q hq (by omega)]
        unfold jn M_X7_found M_X7_unfound M_X8_found M_X8_well
        simp only [ob, if_true, show ((0 : Int32)) = nI 0 from rfl, show ((1 : Int32)) = nI 1 from rfl, show ((4 : Int32)) = nI 4 from rfl, show ((5 : Int32)) = nI 5 from rfl, eqI (show q < 2 ^ 31 by omega) (show 0 < 2 ^ 31 by omega), eqI (show q < 2 ^ 31 by omega) (show 1 < 2 ^ 31 by omega), eqI (show q < 2 ^ 31 by omega) (show 4 < 2 ^ 31 by omega), eqI (show q < 2 ^ 31 by omega) (show kd i < 2 ^ 31 by omega), eqI (show kd i < 2 ^ 31 by omega) (show 5 < 2 ^ 31 by omega), ltI (show kd i < 2 ^ 31 by omega) (show 4 < 2 ^ 31 by omega), eqI (show 1 < 2 ^ 31 by omega) (show 0 < 2 ^ 31 by omega), show ¬ (1 = 0) by omega, if_false]
        generalize kd i = k at *
        have hk : k = 1 ∨ k = 2 ∨ k = 3 ∨ k = 4 ∨ k = 5 := by omega
        have hq2 : q = 0 ∨ q = 1 ∨ q = 2 ∨ q = 3 ∨ q = 4 ∨ q = 5 := by omega
        have hT := h.1
        rcases hk with rfl | rfl | rfl | rfl | rfl <;> rcases hq2 with rfl | rfl | rfl | rfl | rfl | rfl <;> first | exact ⟨_, _, _, rfl, rfl, ⟨hT.1, rfl⟩, h.2⟩
      · simp only [hy, not_false_eq_true, if_true]
        exact ⟨_, _, _, rfl, rfl, h⟩
    · simp only [hm1, not_false_eq_true, if_true]
      exact ⟨_, _, _, rfl, rfl, h⟩
