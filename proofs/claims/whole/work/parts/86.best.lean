/-! ===== best: what it comes to, and the class's way ===== -/
def leadA (pts n : Nat) (fm q : Nat → Nat) (f : Nat) : Int32 := nI (pipS pts n fm q (1 - f)) - nI (pipS pts n fm q f)
/-- the first of the greatest worth, of those who can: who, and what -/
def bstF (w : Nat → Int32) (p : Nat → Bool) : Nat → Int32 × Int32
  | 0 => (-1000000, 0)
  | k + 1 => if p k = true then (if (bstF w p k).1 = -1000000 ∨ ¬ w k ≤ (bstF w p k).2 then (nI k, w k) else bstF w p k) else bstF w p k
def sumT (g : Nat → Int32) : Nat → Int32
  | 0 => 0
  | k + 1 => sumT g k + g k
def goD (pts n : Nat) (fm kd q : Nat → Nat) (d k : Nat) : Nat → Nat := goA pts n fm q k (aimA pts (fm k) (kd k) (q k) d)
def grB (pts hm n : Nat) (fm kd : Nat → Nat) (W : (Nat → Nat) → Nat → Int32) (q : Nat → Nat) (f d : Nat) : Nat → Int32 × Int32 := bstF (fun k => W (goD pts n fm kd q d k) f) (fun k => fm k == f && canA pts hm n fm kd q k d)
def grW (pts hm n : Nat) (fm kd : Nat → Nat) (W : (Nat → Nat) → Nat → Int32) (q : Nat → Nat) (f d : Nat) : Int32 := if (grB pts hm n fm kd W q f d n).1 = -1000000 then W q f else (grB pts hm n fm kd W q f d n).2
def wrA (pts hm n : Nat) (fm kd : Nat → Nat) : Nat → (Nat → Nat) → Nat → Int32
  | 0 => fun q f => leadA pts n fm q f
  | e + 1 => fun q f => - sumT (fun d => grW pts hm n fm kd (wrA pts hm n fm kd e) q (1 - f) (d + 1)) 6
def gWB (WT : FS → BD → Int32 → Int32 → Option (Int32 × FS × BD)) (S0 : FS) (S1 : BD) (i1 : Int32) (i2 : Int32) (i3 : Int32) : Option (Int32 × FS × BD) :=
  (if inb i1 8 = true then ((M_X2_go S1 i1 i2).bind (fun u2 => ((WT S0 u2.2 (((bd_firms u2.2) (i1).toNatClampNeg)) i3).bind (fun u3 => ((M_X2_put u3.2.2 i1 (((bd_places S1) (i1).toNatClampNeg))).bind (fun u4 => (if u2.1 = (-1000000 : Int32) then (some (u3.1, u3.2.1, u4)) else ((M_X2_put u4 u2.1 (((bd_places u2.2) (i1).toNatClampNeg))).bind (fun u6 => (some (u3.1, u3.2.1, u6))))))))))) else none)
def gGL (WT : FS → BD → Int32 → Int32 → Option (Int32 × FS × BD)) (i1 i2 i3 : Int32) : (Int32 × Int32 × Int32 × Int32 × BD → Option (Int32 × Int32 × Int32 × BD)) → Int32 × Int32 × Int32 × Int32 × BD → Option (Int32 × Int32 × Int32 × BD) := (fun rec1 st1 => (if (bd_men st1.2.2.2.2) ≤ st1.2.2.1 then (some (st1.1, st1.2.1, st1.2.2.2.1, st1.2.2.2.2)) else (if inb st1.2.2.1 8 = true then (if ((bd_firms st1.2.2.2.2) (st1.2.2.1).toNatClampNeg) = i1 then ((M_X2_canGo st1.2.2.2.2 st1.2.2.1 i2).bind (fun u7 => (if u7 = 0 then (rec1 (st1.1, st1.2.1, (st1.2.2.1 + (1 : Int32)), st1.2.2.2.1, st1.2.2.2.2)) else ((gWB WT st1.2.2.2.1 st1.2.2.2.2 st1.2.2.1 i2 i3).bind (fun u9 => (jn (σ := Unit) (fun v10 => (rec1 (st1.2.2.1, u9.1, (st1.2.2.1 + (1 : Int32)), u9.2.1, u9.2.2))) (fun J10 => (if st1.1 = (-1000000 : Int32) then (J10 ()) else (if u9.1 ≤ st1.2.1 then (rec1 (st1.1, st1.2.1, (st1.2.2.1 + (1 : Int32)), u9.2.1, u9.2.2)) else (J10 ())))))))))) else (rec1 (st1.1, st1.2.1, (st1.2.2.1 + (1 : Int32)), st1.2.2.2.1, st1.2.2.2.2))) else none)))
def gGW (WT : FS → BD → Int32 → Int32 → Option (Int32 × FS × BD)) (S0 : FS) (S1 : BD) (i1 : Int32) (i2 : Int32) (i3 : Int32) : Option (Int32 × FS × BD) :=
  ((lp (σ := Int32 × Int32 × Int32 × Int32 × BD) (β := Int32 × Int32 × Int32 × BD) (gGL WT i1 i2 i3) 1000000 ((-1000000 : Int32), (0 : Int32), (0 : Int32), S0, S1)).bind (fun b1 => (if b1.1 = (-1000000 : Int32) then ((WT b1.2.2.1 b1.2.2.2 i1 i3).bind (fun u3 => (some (u3.1, b1.1, u3.2.2)))) else (some (b1.2.1, b1.1, b1.2.2.2)))))
def gSL (GW : FS → BD → Int32 → Int32 → Int32 → Option (Int32 × FS × BD)) (i1 i2 : Int32) : (Int32 × Int32 × Int32 × BD → Option (Int32 × Int32 × BD)) → Int32 × Int32 × Int32 × BD → Option (Int32 × Int32 × BD) := (fun rec2 st2 => (if (6 : Int32) < st2.2.1 then (some (st2.1, st2.2.2.1, st2.2.2.2)) else ((GW st2.2.2.1 st2.2.2.2 (((1 : Int32) - i1)) st2.2.1 ((i2 - (1 : Int32)))).bind (fun u4 => (rec2 ((st2.1 + u4.1), (st2.2.1 + (1 : Int32)), u4.2.1, u4.2.2))))))
def gWT (GW : FS → BD → Int32 → Int32 → Int32 → Option (Int32 × FS × BD)) (S0 : FS) (S1 : BD) (i1 : Int32) (i2 : Int32) : Option (Int32 × FS × BD) :=
  (if 0 < i2 then ((lp (σ := Int32 × Int32 × Int32 × BD) (β := Int32 × Int32 × BD) (gSL GW i1 i2) 1000000 ((0 : Int32), (1 : Int32), S0, S1)).bind (fun b2 => (some ((-b2.1), b2.2.1, b2.2.2)))) else ((M_X2_lead S1 i1).bind (fun u5 => (some (u5, S0, S1)))))
theorem gw_0 : M_X3_greatestWorth_0 = gGW M_X3_worthTo_0 := rfl
theorem gw_1 : M_X3_greatestWorth_1 = gGW M_X3_worthTo_1 := rfl
theorem gw_2 : M_X3_greatestWorth_2 = gGW M_X3_worthTo_2 := rfl
theorem wt_1 : M_X3_worthTo_1 = gWT M_X3_greatestWorth_0 := rfl
theorem wt_2 : M_X3_worthTo_2 = gWT M_X3_greatestWorth_1 := rfl
section BEST
variable {pts hm n : Nat} {fm kd : Nat → Nat}
theorem bst_who {w : Nat → Int32} {p : Nat → Bool} : ∀ {k : Nat}, (bstF w p k).1 = -1000000 ∨ ∃ i, i < k ∧ (bstF w p k).1 = nI i
  | 0 => Or.inl rfl
  | k + 1 => by
    have ih := bst_who (w := w) (p := p) (k := k)
    have ih2 : (bstF w p k).1 = -1000000 ∨ ∃ i, i < k + 1 ∧ (bstF w p k).1 = nI i := by
      rcases ih with h | ⟨i, a, b⟩
      · exact Or.inl h
      · exact Or.inr ⟨i, by omega, b⟩
    show (if p k = true then (if (bstF w p k).1 = -1000000 ∨ ¬ w k ≤ (bstF w p k).2 then (nI k, w k) else bstF w p k) else bstF w p k).1 = _ ∨ ∃ i, i < k + 1 ∧ (if p k = true then (if (bstF w p k).1 = -1000000 ∨ ¬ w k ≤ (bstF w p k).2 then (nI k, w k) else bstF w p k) else bstF w p k).1 = nI i
    by_cases c : p k = true
    · rw [if_pos c]
      by_cases c2 : (bstF w p k).1 = -1000000 ∨ ¬ w k ≤ (bstF w p k).2
      · rw [if_pos c2]; exact Or.inr ⟨k, by omega, rfl⟩
      · rw [if_neg c2]; exact ih2
    · rw [if_neg c]; exact ih2
theorem lone_at {q : Nat → Nat} {f a : Nat} (h : loneA pts n fm q f a < n) : fm (loneA pts n fm q f a) = f ∧ q (loneA pts n fm q f a) = a := by
  unfold loneA at h ⊢
  by_cases c : a < pts ∧ cntA n fm q f a = 1
  · rw [if_pos c] at h ⊢
    exact atB_t.1 (firA_yes h)
  · rw [if_neg c] at h
    omega
/-- one goes, and all is put back -/
theorem go_back {q : Nat → Nat} (ok : OKb pts hm n fm kd q) {i to : Nat} (hi : i < n) (hc : to < pts → cntA n fm q (1 - fm i) to < 2) :
    (loneA pts n fm q (1 - fm i) to < n → setp (setp (goA pts n fm q i to) i (q i)) (loneA pts n fm q (1 - fm i) to) to = q) ∧ (¬ loneA pts n fm q (1 - fm i) to < n → setp (goA pts n fm q i to) i (q i) = q) := by
  have e := go_eq ok hi hc
  have o1 := (ok.2.2.2.2.2 i hi).1
  constructor
  · intro h
    obtain ⟨a, b⟩ := lone_at h
    rw [if_pos h] at e
    rw [← e]
    generalize loneA pts n fm q (1 - fm i) to = x at *
    have hx : x ≠ i := fun z => by rw [z] at a; omega
    funext j
    unfold setp
    by_cases c1 : j = x
    · rw [if_pos c1, c1, b]
    · rw [if_neg c1]
      by_cases c2 : j = i
      · rw [if_pos c2, c2]
      · rw [if_neg c2, if_neg c1, if_neg c2]
  · intro h
    rw [if_neg h] at e
    rw [← e, setp_set]
    funext j
    unfold setp
    by_cases c2 : j = i
    · rw [if_pos c2, c2]
    · rw [if_neg c2]
/-- what a depth of worth is known to give, on the class's board -/
def WTs (pts hm n : Nat) (fm kd : Nat → Nat) (WT : FS → BD → Int32 → Int32 → Option (Int32 × FS × BD)) (e : Nat) : Prop :=
  ∀ (fs : FS) (L : BD) (q : Nat → Nat) (f : Nat), OKb pts hm n fm kd q → EC pts hm n fm kd q L → f < 2 → ∃ fs' L', WT fs L (nI f) (nI e) = some (wrA pts hm n fm kd e q f, fs', L') ∧ EC pts hm n fm kd q L'
def GWs (pts hm n : Nat) (fm kd : Nat → Nat) (GW : FS → BD → Int32 → Int32 → Int32 → Option (Int32 × FS × BD)) (e : Nat) : Prop :=
  ∀ (fs : FS) (L : BD) (q : Nat → Nat) (f d : Nat), OKb pts hm n fm kd q → EC pts hm n fm kd q L → f < 2 → 1 ≤ d → d ≤ 6 → ∃ L', GW fs L (nI f) (nI d) (nI e) = some (grW pts hm n fm kd (wrA pts hm n fm kd e) q f d, (grB pts hm n fm kd (wrA pts hm n fm kd e) q f d n).1, L') ∧ EC pts hm n fm kd q L'
theorem wb_of {WT : FS → BD → Int32 → Int32 → Option (Int32 × FS × BD)} {e : Nat} (h : WTs pts hm n fm kd WT e) (fs : FS) (L : BD) (q : Nat → Nat) (i d : Nat) (ok : OKb pts hm n fm kd q) (E : EC pts hm n fm kd q L) (hi : i < n) (hd1 : 1 ≤ d) (hd : d ≤ 6) (hcan : canA pts hm n fm kd q i d = true) : ∃ fs' L', gWB WT fs L (nI i) (nI d) (nI e) = some (wrA pts hm n fm kd e (goD pts n fm kd q d i) (fm i), fs', L') ∧ EC pts hm n fm kd q L' := by
  have hn := ok.2.2.2.2.1
  obtain ⟨o1, o2, o3, o4⟩ := ok.2.2.2.2.2 i hi
  have hto := aimA_le (pts := pts) (f := fm i) (k := kd i) (d := d) o4
  have hb := go_back ok hi (canA_few hcan)
  obtain ⟨L1, h1, h2, h3⟩ := sp_go E ok hi hd1 hd (canA_few hcan)
  have okg := ok.go (i := i) hto
  obtain ⟨fs', L2, g1, g2⟩ := h fs L1 _ (fm i) okg h2 o1
  obtain ⟨L3, p1, p2, p3⟩ := sp_put g2 okg hi o4
  have e1 : bd_firms L1 i = nI (fm i) := (h2.2.2.2.1 i hi).1
  have e2 : bd_places L1 i = nI (aimA pts (fm i) (kd i) (q i) d) := by
    rw [(h2.2.2.2.1 i hi).2.2]
    exact congrArg nI (if_pos rfl)
  unfold gWB
  rw [inb_nI (show i < 8 by omega) (by omega), cl (show i < 2 ^ 31 by omega), h1]
  simp only [if_true, ob]
  rw [e1, g1]
  simp only [ob]
  rw [(E.2.2.2.1 i hi).2.2, p1]
  simp only [ob]
  by_cases c : loneA pts n fm q (1 - fm i) (aimA pts (fm i) (kd i) (q i) d) < n
  · rw [if_neg (fun z => absurd ((mnb_no (by omega)).1 z) (by omega)), mnb_t c, e2]
    obtain ⟨L4, r1, r2, r3⟩ := sp_put p2 (okg.set o4) c hto
    rw [r1]
    exact ⟨_, _, rfl, r2.same (hb.1 c)⟩
  · rw [if_pos ((mnb_no (by omega)).2 (by omega))]
    exact ⟨_, _, rfl, p2.same (hb.2 c)⟩
theorem gw_of {WT : FS → BD → Int32 → Int32 → Option (Int32 × FS × BD)} {e : Nat} (h : WTs pts hm n fm kd WT e) : GWs pts hm n fm kd (gGW WT) e := by
  intro fs L q f d ok E hf hd1 hd
  have hn := ok.2.2.2.2.1
  have key := lp_inv (F := gGL WT (nI f) (nI d) (nI e)) (s0 := ((-1000000 : Int32), (0 : Int32), (0 : Int32), fs, L)) (N := 1000000)
    (fun k (s : Int32 × Int32 × Int32 × Int32 × BD) => s.1 = (grB pts hm n fm kd (wrA pts hm n fm kd e) q f d k).1 ∧ s.2.1 = (grB pts hm n fm kd (wrA pts hm n fm kd e) q f d k).2 ∧ s.2.2.1 = nI k ∧ EC pts hm n fm kd q s.2.2.2.2)
    (fun (b : Int32 × Int32 × Int32 × BD) => b.1 = (grB pts hm n fm kd (wrA pts hm n fm kd e) q f d n).1 ∧ b.2.1 = (grB pts hm n fm kd (wrA pts hm n fm kd e) q f d n).2 ∧ EC pts hm n fm kd q b.2.2.2) n
    (by
      rintro k ⟨s1, s2, s3, s4, s5⟩ hk ⟨g1, g2, g3, hE⟩
      have g1 : s1 = _ := g1
      have g2 : s2 = _ := g2
      have g3 : s3 = nI k := g3
      have hE : EC pts hm n fm kd q s5 := hE
      subst g3
      have l1 : ¬ nI n ≤ nI k := nI_ge hk (by omega)
      have o1 := (ok.2.2.2.2.2 k hk).1
      have hi8 : inb (nI k) 8 = true := inb_nI (show k < 8 by omega) (by omega)
      have e1 : bd_firms s5 (nI k).toNatClampNeg = nI (fm k) := by rw [cl (show k < 2 ^ 31 by omega)]; exact (hE.2.2.2.1 k hk).1
      have e3 : bd_men s5 = nI n := hE.2.2.1
      have hcg := sp_canGo hE ok hk hd1 hd
      have est : grB pts hm n fm kd (wrA pts hm n fm kd e) q f d (k + 1) = if (fm k == f && canA pts hm n fm kd q k d) = true then (if (grB pts hm n fm kd (wrA pts hm n fm kd e) q f d k).1 = -1000000 ∨ ¬ wrA pts hm n fm kd e (goD pts n fm kd q d k) f ≤ (grB pts hm n fm kd (wrA pts hm n fm kd e) q f d k).2 then (nI k, wrA pts hm n fm kd e (goD pts n fm kd q d k) f) else grB pts hm n fm kd (wrA pts hm n fm kd e) q f d k) else grB pts hm n fm kd (wrA pts hm n fm kd e) q f d k := rfl
      by_cases cf : fm k = f
      · by_cases cc : canA pts hm n fm kd q k d = true
        · obtain ⟨fs', L', w1, w2⟩ := wb_of h s4 s5 q k d ok hE hk hd1 hd cc
          rw [cf] at w1
          rw [if_pos (show (fm k == f && canA pts hm n fm kd q k d) = true by simp [cf, cc])] at est
          rw [← g1, ← g2] at est
          by_cases c3 : s1 = -1000000 ∨ ¬ wrA pts hm n fm kd e (goD pts n fm kd q d k) f ≤ s2
          · rw [if_pos c3] at est
            refine ⟨(nI k, wrA pts hm n fm kd e (goD pts n fm kd q d k) f, nI (k + 1), fs', L'), ⟨by rw [est], by rw [est], rfl, w2⟩, fun rec => ?_⟩
            simp only [gGL, jn, e3, l1, if_false, hi8, if_true, e1, cf, hcg, ob, b01_t cc, show ¬ (1 : Int32) = 0 by decide, w1, nI_p1]
            by_cases c4 : s1 = -1000000
            · rw [if_pos c4]
            · rw [if_neg c4, if_neg (fun z => (c3.resolve_left c4) z)]
          · rw [if_neg c3] at est
            refine ⟨(s1, s2, nI (k + 1), fs', L'), ⟨by rw [est, g1], by rw [est, g2], rfl, w2⟩, fun rec => ?_⟩
            have c4 : ¬ s1 = -1000000 := fun z => c3 (Or.inl z)
            have c5 : wrA pts hm n fm kd e (goD pts n fm kd q d k) f ≤ s2 := Classical.not_not.1 (fun z => c3 (Or.inr z))
            simp only [gGL, jn, e3, l1, if_false, hi8, if_true, e1, cf, hcg, ob, b01_t cc, show ¬ (1 : Int32) = 0 by decide, w1, c4, c5, nI_p1]
        · rw [if_neg (show ¬ (fm k == f && canA pts hm n fm kd q k d) = true by simp [cf, cc])] at est
          refine ⟨(s1, s2, nI (k + 1), s4, s5), ⟨by rw [est]; exact g1, by rw [est]; exact g2, rfl, hE⟩, fun rec => ?_⟩
          simp only [gGL, e3, l1, if_false, hi8, if_true, e1, cf, hcg, ob, b01_f cc, nI_p1]
      · have cf2 : ¬ nI (fm k) = nI f := fun z => cf ((eqI (by omega) (by omega)).1 z)
        rw [if_neg (show ¬ (fm k == f && canA pts hm n fm kd q k d) = true by simp [cf])] at est
        refine ⟨(s1, s2, nI (k + 1), s4, s5), ⟨by rw [est]; exact g1, by rw [est]; exact g2, rfl, hE⟩, fun rec => ?_⟩
        simp only [gGL, e3, l1, if_false, hi8, if_true, e1, cf2, nI_p1])
    (by
      rintro ⟨s1, s2, s3, s4, s5⟩ ⟨g1, g2, g3, hE⟩
      have g3 : s3 = nI n := g3
      subst g3
      have l1 : nI n ≤ nI n := nI_le (Nat.le_refl n) (by omega)
      have e3 : bd_men s5 = nI n := hE.2.2.1
      exact ⟨(s1, s2, s4, s5), ⟨g1, g2, hE⟩, fun rec => by simp only [gGL, e3, l1, if_true]⟩)
    ⟨rfl, rfl, rfl, E⟩ (by omega)
  obtain ⟨⟨b1, b2, b3, b4⟩, k1, k2, k3, k4⟩ := key
  have k2 : b1 = _ := k2
  have k3 : b2 = _ := k3
  have k4 : EC pts hm n fm kd q b4 := k4
  unfold gGW grW
  rw [k1]
  simp only [ob]
  rw [k2, k3]
  by_cases c : (grB pts hm n fm kd (wrA pts hm n fm kd e) q f d n).1 = -1000000
  · obtain ⟨fs', L', w1, w2⟩ := h b3 b4 q f ok k4 hf
    rw [if_pos c, if_pos c, w1]
    exact ⟨_, rfl, w2⟩
  · rw [if_neg c, if_neg c]
    exact ⟨_, rfl, k4⟩
theorem wt_of {GW : FS → BD → Int32 → Int32 → Int32 → Option (Int32 × FS × BD)} {e : Nat} (he : e < 10) (h : GWs pts hm n fm kd GW e) : WTs pts hm n fm kd (gWT GW) (e + 1) := by
  intro fs L q f ok E hf
  have key := lp_inv (F := gSL GW (nI f) (nI (e + 1))) (s0 := ((0 : Int32), (1 : Int32), fs, L)) (N := 1000000)
    (fun k (s : Int32 × Int32 × Int32 × BD) => s.1 = sumT (fun d => grW pts hm n fm kd (wrA pts hm n fm kd e) q (1 - f) (d + 1)) k ∧ s.2.1 = nI (k + 1) ∧ EC pts hm n fm kd q s.2.2.2)
    (fun (b : Int32 × Int32 × BD) => b.1 = sumT (fun d => grW pts hm n fm kd (wrA pts hm n fm kd e) q (1 - f) (d + 1)) 6 ∧ EC pts hm n fm kd q b.2.2) 6
    (by
      rintro k ⟨s1, s2, s3, s4⟩ hk ⟨g1, g2, hE⟩
      have g1 : s1 = _ := g1
      have g2 : s2 = nI (k + 1) := g2
      have hE : EC pts hm n fm kd q s4 := hE
      subst g2
      obtain ⟨L', w1, w2⟩ := h s3 s4 q (1 - f) (k + 1) ok hE (by omega) (by omega) (by omega)
      refine ⟨(s1 + grW pts hm n fm kd (wrA pts hm n fm kd e) q (1 - f) (k + 1), nI (k + 1 + 1), (grB pts hm n fm kd (wrA pts hm n fm kd e) q (1 - f) (k + 1) n).1, L'), ⟨congrArg (fun z : Int32 => z + grW pts hm n fm kd (wrA pts hm n fm kd e) q (1 - f) (k + 1)) g1, rfl, w2⟩, fun rec => ?_⟩
      have e1 : nI (e + 1) - 1 = nI e := subI (a := e + 1) (b := 1) (by omega)
      simp only [gSL, show ((6 : Int32)) = nI 6 from rfl, thr_idx hk, if_false, one_sub hf, e1, w1, ob, nI_p1])
    (by
      rintro ⟨s1, s2, s3, s4⟩ ⟨g1, g2, hE⟩
      have g2 : s2 = nI (6 + 1) := g2
      subst g2
      exact ⟨(s1, s3, s4), ⟨g1, hE⟩, fun rec => by simp only [gSL, show (6 : Int32) < nI (6 + 1) by decide, if_true]⟩)
    ⟨rfl, rfl, E⟩ (by omega)
  obtain ⟨⟨b1, b2, b3⟩, k1, k2, k3⟩ := key
  have k2 : b1 = _ := k2
  have k3 : EC pts hm n fm kd q b3 := k3
  have l1 : (0 : Int32) < nI (e + 1) := (ltI (a := 0) (by omega) (by omega)).2 (by omega)
  unfold gWT
  rw [if_pos l1, k1]
  exact ⟨_, _, congrArg some (Prod.ext (congrArg (fun z : Int32 => -z) k2) rfl), k3⟩
theorem wt_z (GW : FS → BD → Int32 → Int32 → Int32 → Option (Int32 × FS × BD)) : WTs pts hm n fm kd (gWT GW) 0 := by
  intro fs L q f ok E hf
  unfold gWT
  rw [if_neg (show ¬ (0 : Int32) < nI 0 by decide), sp_lead E hf]
  exact ⟨_, _, rfl, E⟩
theorem wt_z0 : WTs pts hm n fm kd M_X3_worthTo_0 0 := by
  intro fs L q f ok E hf
  unfold M_X3_worthTo_0
  rw [if_neg (show ¬ (0 : Int32) < nI 0 by decide), sp_lead E hf]
  exact ⟨_, _, rfl, E⟩
theorem gw_all : ∀ e, e ≤ 2 → GWs pts hm n fm kd M_X3_greatestWorth_2 e := by
  have a0 : GWs pts hm n fm kd M_X3_greatestWorth_0 0 := by rw [gw_0]; exact gw_of wt_z0
  have b0 : WTs pts hm n fm kd M_X3_worthTo_1 0 := by rw [wt_1]; exact wt_z _
  have b1 : WTs pts hm n fm kd M_X3_worthTo_1 1 := by rw [wt_1]; exact wt_of (by omega) a0
  have c0 : GWs pts hm n fm kd M_X3_greatestWorth_1 0 := by rw [gw_1]; exact gw_of b0
  have c1 : GWs pts hm n fm kd M_X3_greatestWorth_1 1 := by rw [gw_1]; exact gw_of b1
  have d0 : WTs pts hm n fm kd M_X3_worthTo_2 0 := by rw [wt_2]; exact wt_z _
  have d1 : WTs pts hm n fm kd M_X3_worthTo_2 1 := by rw [wt_2]; exact wt_of (by omega) c0
  have d2 : WTs pts hm n fm kd M_X3_worthTo_2 2 := by rw [wt_2]; exact wt_of (by omega) c1
  intro e he
  rw [gw_2]
  rcases (show e = 0 ∨ e = 1 ∨ e = 2 by omega) with rfl | rfl | rfl
  · exact gw_of d0
  · exact gw_of d1
  · exact gw_of d2
end BEST
