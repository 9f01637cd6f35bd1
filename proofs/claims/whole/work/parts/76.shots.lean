/-! ===== shots, enter, count ===== -/
theorem thr_idx {k : Nat} (h : k < 6) : ¬ nI 6 < nI (k + 1) := fun z => absurd ((ltI (show 6 < 2 ^ 31 by omega) (show k + 1 < 2 ^ 31 by omega)).1 z) (by omega)
theorem thr_idx7 {k : Nat} (h : k < 6) : ¬ nI 7 ≤ nI (k + 1) := fun z => absurd ((leI (show 7 < 2 ^ 31 by omega) (show k + 1 < 2 ^ 31 by omega)).1 z) (by omega)
section SHOTS
variable {pts hm n : Nat} {fm kd ps : Nat → Nat} {L : BD} {S : MS}
def shP (pts hm n : Nat) (fm kd ps : Nat → Nat) (t k d : Nat) : Prop := fm k ≠ fm t ∧ aimA pts (fm k) (kd k) (ps k) d = ps t ∧ cntA n fm ps (fm t) (ps t) = 1 ∧ canA pts hm n fm kd ps k d = true
theorem sp_hits (E : EC pts hm n fm kd ps L) (ok : OKb pts hm n fm kd ps) {k d t : Nat} (hk : k < n) (ht : t < n) (hd1 : 1 ≤ d) (hd : d ≤ 6) (i : Decidable (shP pts hm n fm kd ps t k d)) : M_X2_hits L (nI k) (nI d) (nI t) = some (@b01 (shP pts hm n fm kd ps t k d) i) := by
  have hn : n ≤ 8 := ok.2.2.2.2.1
  have hpt : pts ≤ 12 := ok.2.1
  obtain ⟨f1, f2, f3⟩ := E.2.2.2.1 k hk
  obtain ⟨g1, g2, g3⟩ := E.2.2.2.1 t ht
  obtain ⟨o1, o2, o3, o4⟩ := ok.2.2.2.2.2 k hk
  obtain ⟨p1, p2, p3, p4⟩ := ok.2.2.2.2.2 t ht
  have hto := aimA_le (pts := pts) (f := fm k) (k := kd k) (d := d) o4
  have hc := cntA_le n fm ps (fm t) (ps t)
  unfold M_X2_hits
  rw [inb_nI (show k < 8 by omega) (by omega), inb_nI (show t < 8 by omega) (by omega), cl (show k < 2 ^ 31 by omega), cl (show t < 2 ^ 31 by omega), f1, g1, g3, sp_aim E ok hk hd1 hd, sp_crowd E p1 (show ps t < 14 by omega), sp_canGo E ok hk hd1 hd]
  simp only [ob, if_true, eqI (show fm k < 2 ^ 31 by omega) (show fm t < 2 ^ 31 by omega), eqI (show aimA pts (fm k) (kd k) (ps k) d < 2 ^ 31 by omega) (show ps t < 2 ^ 31 by omega), show ((1 : Int32)) = nI 1 from rfl, eqI (show cntA n fm ps (fm t) (ps t) < 2 ^ 31 by omega) (show 1 < 2 ^ 31 by omega), b01_no]
  by_cases c1 : fm k = fm t
  · rw [if_pos c1, b01_f (fun z => z.1 c1)]
  · rw [if_neg c1]
    by_cases c2 : aimA pts (fm k) (kd k) (ps k) d = ps t
    · rw [if_pos c2]
      by_cases c3 : cntA n fm ps (fm t) (ps t) = 1
      · rw [if_pos c3]
        by_cases c4 : canA pts hm n fm kd ps k d = true
        · rw [if_neg (fun z => z c4), b01_t ⟨c1, c2, c3, c4⟩]; rfl
        · rw [if_pos c4, b01_f (fun z => c4 z.2.2.2)]
      · rw [if_neg c3, b01_f (fun z => c3 z.2.2.1)]
    · rw [if_neg c2, b01_f (fun z => c2 z.2.1)]
def shG (pts hm n : Nat) (fm kd ps : Nat → Nat) (t k d : Nat) : Int32 := if fm k ≠ fm t ∧ aimA pts (fm k) (kd k) (ps k) (d + 1) = ps t ∧ cntA n fm ps (fm t) (ps t) = 1 ∧ canA pts hm n fm kd ps k (d + 1) = true then btI (d + 1) else 0
theorem sp_hitsStep (E : EC pts hm n fm kd ps L) (ok : OKb pts hm n fm kd ps) {k d t : Nat} (hk : k < n) (ht : t < n) (hd : d < 6) : ∃ c : Int32, M_X2_hits L (nI k) (nI (d + 1)) (nI t) = some c ∧ ((c = 0 ∧ shG pts hm n fm kd ps t k d = 0) ∨ (c = 1 ∧ shG pts hm n fm kd ps t k d = btI (d + 1))) := by
  unfold shG
  by_cases c : fm k ≠ fm t ∧ aimA pts (fm k) (kd k) (ps k) (d + 1) = ps t ∧ cntA n fm ps (fm t) (ps t) = 1 ∧ canA pts hm n fm kd ps k (d + 1) = true
  · have h := sp_hits E ok hk ht (show 1 ≤ d + 1 by omega) (show d + 1 ≤ 6 by omega) (isTrue c)
    exact ⟨_, h, Or.inr ⟨rfl, if_pos c⟩⟩
  · have h := sp_hits E ok hk ht (show 1 ≤ d + 1 by omega) (show d + 1 ≤ 6 by omega) (isFalse c)
    exact ⟨_, h, Or.inl ⟨rfl, if_neg c⟩⟩
theorem sp_throwsThatHit (E : EC pts hm n fm kd ps L) (ok : OKb pts hm n fm kd ps) {t : Nat} (ht : t < n) : M_X2_throwsThatHit L (nI t) = some (orS (fun k => orS (fun d => shG pts hm n fm kd ps t k d) 6) n) := by
  have hn : n ≤ 8 := ok.2.2.2.2.1
  unfold M_X2_throwsThatHit
  refine (bind_of (b := 0 ||| orS (fun k => orS (fun d => shG pts hm n fm kd ps t k d) 6) n) ?_).trans (by rw [z_or])
  refine lp_or0 _ n 0 (by omega) ?_ ?_
  · intro k v rec hk
    have h1 : ¬ nI n ≤ nI k := nI_ge hk (by omega)
    simp only [E.2.2.1, h1, if_false]
    refine (bind_of (b := v ||| orS (fun d => shG pts hm n fm kd ps t k d) 6) ?_).trans (by rw [nI_p1])
    refine lp_or1 _ 6 v (by omega) ?_ ?_
    · intro d w rec2 hd
      obtain ⟨c, hc, hcc⟩ := sp_hitsStep E ok hk ht hd
      simp only [show ((6 : Int32)) = nI 6 from rfl, thr_idx hd, if_false, hc, ob, nI_p1]
      rcases hcc with ⟨rfl, e⟩ | ⟨rfl, e⟩
      · rw [if_pos rfl, e, or_z]
      · rw [if_neg (show ¬ (1 : Int32) = 0 by decide), e]; rfl
    · intro w rec2
      rfl
  · intro v rec
    have h1 : nI n ≤ nI n := nI_le (Nat.le_refl n) (by omega)
    simp only [E.2.2.1, h1, if_true]
end SHOTS
theorem sim_shots {tf : TF} {rw_ : RW} {tp : TP} {bs : IA} {L i0 i1 : BD} {ac : AC} {as : AS} {S : MS} (h : Rel tf rw_ tp bs L i0 i1 ac as S) (x : Int32) :
    ∃ v S', M_X7_shots tf L x = some v ∧ M_X8_shots S x = some (v, S') ∧ Rel tf rw_ tp bs L i0 i1 ac as S' := by
  unfold M_X7_shots M_X8_shots
  rcases h.2.2.2.2.tab with ⟨e1, e2, e3⟩ | ⟨pts, hm, n, fm, kd, ps, thr, trn, cub, ow, B⟩
  · rw [sp_isMan7 (n := 0) e1, sp_isMan8 (n := 0) e2, b01_f man_no]
    exact ⟨_, _, rfl, rfl, h⟩
  · have hn := B.n8
    obtain ⟨c1, ok, okt, E, T, EM, TM, c6, hoo⟩ := B
    have hpt : pts ≤ 12 := ok.2.1
    rw [sp_isMan7 E.2.2.1, sp_isMan8 EM.2.2.1]
    simp only [ob, b01_no]
    by_cases hm1 : 0 ≤ x ∧ x ≤ nI n - 1
    · obtain ⟨t, ht, rfl⟩ := man_of hn hm1
      have nm : ¬ ¬ (0 ≤ nI t ∧ nI t ≤ nI n - 1) := fun z => z hm1
      obtain ⟨g1, g2, g3⟩ := EM.2.2.2 t ht
      obtain ⟨p1, p2, p3, p4⟩ := ok.2.2.2.2.2 t ht
      have t1 := trc_le p4 hpt
      have t2 := trc_ge p4 hpt
      simp only [nm, if_false]
      rw [inb_nI (show t < 8 by omega) (by omega), inb_nI (show t < 12 by omega) (by omega), cl (show t < 2 ^ 31 by omega), (E.2.2.2.1 t ht).2.2, g3, E.1, EM.1]
      simp only [if_true, ltI (show ps t < 2 ^ 31 by omega) (show pts < 2 ^ 31 by omega), ltI (show trc pts (ps t) < 2 ^ 31 by omega) (show pts < 2 ^ 31 by omega)]
      by_cases hp : ps t < pts
      · have hp2 : trc pts (ps t) < pts := by omega
        rw [if_pos hp, if_pos hp2, sp_throwsThatHit E ok ht, show M_X8_aside S (0 : Int32) = _ from s8_aside S (show 0 < 4 by omega)]
        have hS' := (es_of EM hoo hn).rows (R := asR 0 (ms_rows S) (ms_now S) 12)
        have hE' := er_aside (D := 0) EM hn
        have EM' := EM.rows (R := asR 0 (ms_rows S) (ms_now S) 12)
        have hma : M_X8_manyAt _ (0 : Int32) (nI (fm t)) (nI (trc pts (ps t))) (nI t) = _ := s8_manyAt hS' hE' (show 0 < 4 by omega) ok p1 p4 (x := nI t) (m := t) (fun i hi => eqI (show i < 2 ^ 31 by omega) (show t < 2 ^ 31 by omega))
        have hcx : cntX n fm ps (fm t) (ps t) t ≤ n := fb_ct_le _ _
        have hxe := cntX_eq (fm := fm) (ps := ps) (f := fm t) (a := ps t) ht
        rw [if_pos ⟨rfl, rfl⟩] at hxe
        simp only [ob]
        rw [show ms_firms (ms_s_rows S (asR 0 (ms_rows S) (ms_now S) 12)) t = _ from g1, show ms_now (ms_s_rows S (asR 0 (ms_rows S) (ms_now S) 12)) t = _ from g3, hma]
        unfold jn
        simp only [ob, show ((0 : Int32)) = nI 0 from rfl, eqI (show cntX n fm ps (fm t) (ps t) t < 2 ^ 31 by omega) (show 0 < 2 ^ 31 by omega)]
        have key : ∀ w : Int32, (w = nI 1 ∧ cntA n fm ps (fm t) (ps t) = 1) ∨ (w = nI 0 ∧ ¬ cntA n fm ps (fm t) (ps t) = 1) → lp (σ := Int32 × Int32) (β := Int32) (fun rec9 st9 => (if (7 : Int32) ≤ st9.2 then (some st9.1) else ((lp (σ := Int32 × Int32) (β := Int32) (fun rec11 st11 => (if (ms_men (ms_s_rows S (asR 0 (ms_rows S) (ms_now S) 12))) ≤ st11.2 then (some st11.1) else (if w = nI 0 then (rec11 ((st11.1 ||| nI 0), (st11.2 + (1 : Int32)))) else (if inb st11.2 8 = true then (if ((ms_firms (ms_s_rows S (asR 0 (ms_rows S) (ms_now S) 12))) (st11.2).toNatClampNeg) = nI (fm t) then (rec11 ((st11.1 ||| nI 0), (st11.2 + (1 : Int32)))) else ((M_X8_can (ms_s_rows S (asR 0 (ms_rows S) (ms_now S) 12)) (nI 0) st11.2 st9.2).bind (fun u19 => (if u19 = nI 0 then (rec11 ((st11.1 ||| nI 0), (st11.2 + (1 : Int32)))) else ((M_X8_target (ms_s_rows S (asR 0 (ms_rows S) (ms_now S) 12)) (nI 0) st11.2 st9.2).bind (fun u21 => (if u21 = nI (trc pts (ps t)) then (rec11 ((st11.1 ||| ((1 : Int32) <<< (st9.2 &&& 31))), (st11.2 + (1 : Int32)))) else (rec11 ((st11.1 ||| nI 0), (st11.2 + (1 : Int32))))))))))) else none)))) 1000000 (st9.1, nI 0)).bind (fun b11 => (rec9 (b11, (st9.2 + (1 : Int32)))))))) 1000000 (nI 0, (1 : Int32)) = some (nI 0 ||| orS (fun d => orS (fun k => shG pts hm n fm kd ps t k d) n) 6) := by
          intro w hw
          refine lp_or1 _ 6 0 (by omega) ?_ ?_
          · intro d v rec hd
            simp only [show ((7 : Int32)) = nI 7 from rfl, thr_idx7 hd, if_false]
            refine (bind_of (b := v ||| orS (fun k => shG pts hm n fm kd ps t k d) n) ?_).trans (by rw [nI_p1])
            refine lp_or0 _ n v (by omega) ?_ ?_
            · intro k v2 rec2 hk
              obtain ⟨f1, f2, f3⟩ := EM'.2.2.2 k hk
              obtain ⟨o1, o2, o3, o4⟩ := ok.2.2.2.2.2 k hk
              have h1 : ¬ nI n ≤ nI k := nI_ge hk (by omega)
              have hto := aimA_le (pts := pts) (f := fm k) (k := kd k) (d := d + 1) o4
              have tt := trc_le hto hpt
              simp only [EM'.2.2.1, h1, if_false]
              rw [inb_nI (show k < 8 by omega) (by omega), cl (show k < 2 ^ 31 by omega), f1, s8_can hS' hE' (show 0 < 4 by omega) ok hk (show 1 ≤ d + 1 by omega) (show d + 1 ≤ 6 by omega), s8_target hS' hE' (show 0 < 4 by omega) ok hk (show 1 ≤ d + 1 by omega) (show d + 1 ≤ 6 by omega)]
              simp only [ob, if_true, eqI (show fm k < 2 ^ 31 by omega) (show fm t < 2 ^ 31 by omega), eqI (show trc pts (aimA pts (fm k) (kd k) (ps k) (d + 1)) < 2 ^ 31 by omega) (show trc pts (ps t) < 2 ^ 31 by omega), trc_inj hto p4 hpt, show nI 0 = (0 : Int32) from rfl, b01_no, or_z, nI_p1]
              unfold shG
              rcases hw with ⟨rfl, hw⟩ | ⟨rfl, hw⟩
              · rw [if_neg (show ¬ nI 1 = (0 : Int32) by decide)]
                by_cases c1 : fm k = fm t
                · rw [if_pos c1, if_neg (fun z => z.1 c1), or_z]
                · rw [if_neg c1]
                  by_cases c4 : canA pts hm n fm kd ps k (d + 1) = true
                  · rw [if_neg (fun z => z c4)]
                    by_cases c2 : aimA pts (fm k) (kd k) (ps k) (d + 1) = ps t
                    · rw [if_pos c2, if_pos ⟨c1, c2, hw, c4⟩]; rfl
                    · rw [if_neg c2, if_neg (fun z => c2 z.2.1), or_z]
                  · rw [if_pos c4, if_neg (fun z => c4 z.2.2.2), or_z]
              · rw [if_pos (show nI 0 = (0 : Int32) from rfl), if_neg (fun z => hw z.2.2.1), or_z]
            · intro v2 rec2
              have h1 : nI n ≤ nI n := nI_le (Nat.le_refl n) (by omega)
              simp only [EM'.2.2.1, h1, if_true]
          · intro v rec
            rfl
        rw [orS_swap (fun d k => shG pts hm n fm kd ps t k d) n 6] at key
        by_cases c0 : cntX n fm ps (fm t) (ps t) t = 0
        · rw [if_pos c0]
          exact ⟨_, _, rfl, (bind_of (key (nI 1) (Or.inl ⟨rfl, by omega⟩))).trans (by rw [show nI 0 = (0 : Int32) from rfl, z_or]), h.rows _⟩
        · rw [if_neg c0]
          exact ⟨_, _, rfl, (bind_of (key (nI 0) (Or.inr ⟨rfl, by omega⟩))).trans (by rw [show nI 0 = (0 : Int32) from rfl, z_or]), h.rows _⟩
      · have hp2 : ¬ trc pts (ps t) < pts := by omega
        rw [if_neg hp, if_neg hp2]
        exact ⟨_, _, rfl, rfl, h⟩
    · simp only [hm1, not_false_eq_true, if_true]
      exact ⟨_, _, rfl, rfl, h⟩
