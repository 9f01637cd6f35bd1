/-! ===== the reference: all home, can ===== -/
section MODELC
variable {pts hm n : Nat} {fm kd ps : Nat → Nat} {S : MS} {D : Nat}
theorem b01_of {b : Bool} {c : Prop} [Decidable c] (h : b = true ↔ c) : b01 (b = true) = b01 c := by
  by_cases hc : c
  · rw [b01_t hc, b01_t (h.mpr hc)]
  · rw [b01_f hc, b01_f (fun z => hc (h.mp z))]
theorem s8_isAllHome (hS : ES pts hm n fm kd S) (hE : ER pts n ps D S) (hD : D < 4) (ok : OKb pts hm n fm kd ps) {f : Nat} (hf : f < 2) : M_X8_isAllHome S (nI D) (nI f) = some (b01 (outS pts hm n fm ps f = 0)) := by
  have ok0 := ok
  have hS0 := hS
  obtain ⟨o1, o2, o3, o4, o5, o6⟩ := ok
  obtain ⟨e1, e2, e3, e4⟩ := hS
  unfold M_X8_isAllHome
  have hlp : lp (σ := Int32 × Int32) (β := Int32) (fun rec1 st1 => (if (ms_men S) ≤ st1.2 then (some st1.1) else (if st1.1 = 0 then (rec1 ((0 : Int32), (st1.2 + (1 : Int32)))) else (if inb st1.2 8 = true then (if ((ms_firms S) (st1.2).toNatClampNeg) = nI f then ((M_X8_pipsOf S (nI D) st1.2).bind (fun u7 => (if (ms_home S) < u7 then (rec1 ((0 : Int32), (st1.2 + (1 : Int32)))) else (rec1 ((1 : Int32), (st1.2 + (1 : Int32))))))) else (rec1 ((1 : Int32), (st1.2 + (1 : Int32))))) else none)))) 1000000 ((1 : Int32), (0 : Int32)) = some (b01 (outS pts hm n fm ps f = 0)) := by
    refine lp_at (fun k => (b01 (outS pts hm k fm ps f = 0), nI k)) n _ rfl ?_ ?_ (by omega)
    · intro k rec hk
      obtain ⟨f1, f2⟩ := e4 k hk
      obtain ⟨g1, g2, g3, g4⟩ := o6 k hk
      have h1 : ¬ nI n ≤ nI k := nI_ge hk (by omega)
      have hp := pipA_le (f := fm k) g4
      have hstep : outS pts hm (k + 1) fm ps f = outS pts hm k fm ps f + (if (fm k == f && decide (hm < pipA pts f (ps k))) then 1 else 0) := rfl
      simp only [e3, h1, if_false, nI_1, b01_0]
      by_cases c0 : outS pts hm k fm ps f = 0
      · rw [if_neg (fun z => z c0), inb_nI (show k < 8 by omega) (by omega), cl (by omega), f1, s8_pipsOf hS0 hE hD ok0 hk, e2]
        simp only [ob, if_true, eqI (show fm k < 2 ^ 31 by omega) (show f < 2 ^ 31 by omega), ltI (show hm < 2 ^ 31 by omega) (show pipA pts (fm k) (ps k) < 2 ^ 31 by omega)]
        by_cases c1 : fm k = f
        · rw [if_pos c1]
          subst c1
          by_cases c2 : hm < pipA pts (fm k) (ps k)
          · rw [if_pos c2, b01_f (show ¬ outS pts hm (k + 1) fm ps (fm k) = 0 by rw [hstep, c0]; simp [c2])]
          · rw [if_neg c2, b01_t (show outS pts hm (k + 1) fm ps (fm k) = 0 by rw [hstep, c0]; simp [c2])]
        · rw [if_neg c1, b01_t (show outS pts hm (k + 1) fm ps f = 0 by rw [hstep, c0]; simp [c1])]
      · rw [if_pos c0, b01_f (show ¬ outS pts hm (k + 1) fm ps f = 0 by rw [hstep]; omega)]
    · intro rec
      have h1 : nI n ≤ nI n := nI_le (Nat.le_refl n) (by omega)
      simp only [e3, h1, if_true]
  rw [hlp]
  exact g01
theorem s8_can (hS : ES pts hm n fm kd S) (hE : ER pts n ps D S) (hD : D < 4) (ok : OKb pts hm n fm kd ps) {i d : Nat} (hi : i < n) (hd1 : 1 ≤ d) (hd : d ≤ 6) : M_X8_can S (nI D) (nI i) (nI d) = some (b01 (canA pts hm n fm kd ps i d = true)) := by
  have ok0 := ok
  have hS0 := hS
  obtain ⟨o1, o2, o3, o4, o5, o6⟩ := ok
  obtain ⟨e1, e2, e3, e4⟩ := hS
  obtain ⟨f1, f2⟩ := e4 i hi
  obtain ⟨g1, g2, g3, g4⟩ := o6 i hi
  have t1 := trc_le g4 o2
  have a1 := aimA_le (f := fm i) (k := kd i) (d := d) g4
  have hx : ∀ j, j < n → (nI j = nI i ↔ j = i) := fun j hj => eqI (by omega) (by omega)
  have c0 := cntX_eq (fm := fm) (ps := ps) (f := fm i) (a := pts) hi
  have c1 := cntX_eq (fm := fm) (ps := ps) (f := fm i) (a := ps i) hi
  rw [if_pos ⟨rfl, rfl⟩] at c1
  have b0 := cntA_le n fm ps (fm i) pts
  have b1 := cntA_le n fm ps (fm i) (ps i)
  have b2 := cntA_le n fm ps (1 - fm i) (aimA pts (fm i) (kd i) (ps i) d)
  have b3 := cntA_le n fm ps (fm i) (aimA pts (fm i) (kd i) (ps i) d)
  have b4 : outS pts hm n fm ps (fm i) ≤ n := fb_ct_le _ _
  have c2 := cntX_eq (fm := fm) (ps := ps) (f := 1 - fm i) (a := aimA pts (fm i) (kd i) (ps i) d) hi
  rw [if_neg (by omega)] at c2
  unfold M_X8_can canA dareA jn
  rw [s8_at hE hD ok0 hi, inb_nI (show i < 8 by omega) (by omega), cl (by omega), f1, e1, s8_target hS0 hE hD ok0 hi hd1 hd, one_sub g1]
  simp only [ob, if_true]
  rw [s8_isAllHome hS0 hE hD ok0 g1, s8_kindNow hS0 o5 hi, s8_manyAt hS0 hE hD ok0 (show 1 - fm i < 2 by omega) a1 hx, s8_manyAt hS0 hE hD ok0 g1 g4 hx, s8_manyAt hS0 hE hD ok0 g1 a1 hx, show nI pts = nI (trc pts pts) by rw [trc_pt (by omega)], s8_manyAt hS0 hE hD ok0 g1 (show pts ≤ pts + 1 by omega) hx]
  have t2 := trc_le a1 o2
  have t3 := trc_le (show pts ≤ pts + 1 by omega) o2
  simp only [ob, show ((99 : Int32)) = nI 99 from rfl, eqI (show trc pts (ps i) < 2 ^ 31 by omega) (show 99 < 2 ^ 31 by omega), trc_99 g4 o2, eqI (show trc pts (ps i) < 2 ^ 31 by omega) (show trc pts pts < 2 ^ 31 by omega), trc_inj g4 (show pts ≤ pts + 1 by omega) o2, eqI (show trc pts (aimA pts (fm i) (kd i) (ps i) d) < 2 ^ 31 by omega) (show 99 < 2 ^ 31 by omega), trc_99 a1 o2, g01]
  have k1 : cntX n fm ps (1 - fm i) (aimA pts (fm i) (kd i) (ps i) d) i < 2 ^ 31 := by omega
  have k2 : cntX n fm ps (fm i) (ps i) i < 2 ^ 31 := by omega
  have k4 : cntX n fm ps (fm i) pts i < 2 ^ 31 := by
    have := cntX_eq (fm := fm) (ps := ps) (f := fm i) (a := pts) hi
    omega
  have k3 : cntX n fm ps (fm i) (aimA pts (fm i) (kd i) (ps i) d) i < 2 ^ 31 := by
    have := cntX_eq (fm := fm) (ps := ps) (f := fm i) (a := aimA pts (fm i) (kd i) (ps i) d) hi
    omega
  simp only [show ((1 : Int32)) = nI 1 from rfl, show ((0 : Int32)) = nI 0 from rfl, show ((4 : Int32)) = nI 4 from rfl, show ((5 : Int32)) = nI 5 from rfl, leI k1 (show 1 < 2 ^ 31 by omega), ltI (show kd i < 2 ^ 31 by omega) (show 4 < 2 ^ 31 by omega), ltI (show 0 < 2 ^ 31 by omega) k2, leI k3 (show 0 < 2 ^ 31 by omega), eqI (show kd i < 2 ^ 31 by omega) (show 5 < 2 ^ 31 by omega), eqI k1 (show 1 < 2 ^ 31 by omega), leI k4 (show 0 < 2 ^ 31 by omega), eqI (show 1 < 2 ^ 31 by omega) (show 0 < 2 ^ 31 by omega)]
  by_cases z1 : ps i = pts + 1
  · rw [if_pos z1, b01_f (by simp [z1])]
    rfl
  · rw [if_neg z1]
    by_cases z2 : aimA pts (fm i) (kd i) (ps i) d = pts + 1
    · simp only [z2, if_true, Bool.and_eq_true, Bool.or_eq_true, decide_eq_true_eq]
      unfold b01
      by_cases y1 : ps i = pts
      · rw [if_pos y1]
        repeat' split
        all_goals first | rfl | (exfalso; omega)
      · rw [if_neg y1]
        rw [if_neg (by omega)] at c0
        repeat' split
        all_goals first | rfl | (exfalso; omega)
    · obtain ⟨q1, q2⟩ := aimA_pt g4 hd1 z2
      have c3 := cntX_eq (fm := fm) (ps := ps) (f := fm i) (a := aimA pts (fm i) (kd i) (ps i) d) hi
      rw [if_neg (by omega)] at c3
      simp only [z2, if_false, Bool.and_eq_true, Bool.or_eq_true, decide_eq_true_eq]
      unfold b01
      generalize aimA pts (fm i) (kd i) (ps i) d = to at *
      by_cases y1 : ps i = pts
      · rw [if_pos y1]
        repeat' split
        all_goals first | rfl | (exfalso; omega)
      · rw [if_neg y1]
        rw [if_neg (by omega)] at c0
        repeat' split
        all_goals first | rfl | (exfalso; omega)
end MODELC
