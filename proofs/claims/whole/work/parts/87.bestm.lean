/-! ===== best: the reference's way ===== -/
def bL0 (i1 i2 i3 : Int32) : (Int32 × Int32 × MS → Option (Int32 × MS)) → Int32 × Int32 × MS → Option (Int32 × MS) := (fun rec2 st2 => (if (ms_men st2.2.2) ≤ st2.2.1 then (some (st2.1, st2.2.2)) else (if inb st2.2.1 8 = true then (if ((ms_firms st2.2.2) (st2.2.1).toNatClampNeg) = i2 then ((M_X8_can st2.2.2 i1 st2.2.1 i3).bind (fun u8 => (if u8 = 0 then (rec2 (st2.1, (st2.2.1 + (1 : Int32)), st2.2.2)) else ((M_X8_deeper st2.2.2 i1).bind (fun u10 => ((M_X8_goMan u10 ((i1 + (1 : Int32))) st2.2.1 i3).bind (fun u11 => ((M_X8_lead u11 ((i1 + (1 : Int32))) i2).bind (fun u12 => (jn (σ := Int32) (fun v13 => (jn (σ := Int32) (fun v14 => (if v13 = 0 then (rec2 (st2.1, (st2.2.1 + (1 : Int32)), (ms_s_bests u11 (upd (ms_bests u11) (i1).toNatClampNeg v14)))) else (rec2 (u12, (st2.2.1 + (1 : Int32)), (ms_s_bests u11 (upd (ms_bests u11) (i1).toNatClampNeg v14)))))) (fun J14 => (if v13 = 0 then (J14 ((ms_bests u11) (i1).toNatClampNeg)) else (J14 st2.2.1))))) (fun J13 => (jn (σ := Unit) (fun v17 => (J13 (1 : Int32))) (fun J17 => (if ((ms_bests u11) (i1).toNatClampNeg) = (-1000000 : Int32) then (J17 ()) else (if u12 ≤ st2.1 then (J13 (0 : Int32)) else (J17 ())))))))))))))))) else (rec2 (st2.1, (st2.2.1 + (1 : Int32)), st2.2.2))) else none)))
def bL1 (i1 i2 i3 : Int32) : (Int32 × Int32 × MS → Option (Int32 × MS)) → Int32 × Int32 × MS → Option (Int32 × MS) := (fun rec2 st2 => (if (ms_men st2.2.2) ≤ st2.2.1 then (some (st2.1, st2.2.2)) else (if inb st2.2.1 8 = true then (if ((ms_firms st2.2.2) (st2.2.1).toNatClampNeg) = i2 then ((M_X8_can st2.2.2 i1 st2.2.1 i3).bind (fun u9 => (if u9 = 0 then (rec2 (st2.1, (st2.2.1 + (1 : Int32)), st2.2.2)) else ((M_X8_deeper st2.2.2 i1).bind (fun u11 => ((M_X8_goMan u11 ((i1 + (1 : Int32))) st2.2.1 i3).bind (fun u12 => ((M_X8_all0 u12 ((i1 + (1 : Int32))) (((1 : Int32) - i2))).bind (fun u13 => (jn (σ := Int32) (fun v14 => (jn (σ := Int32) (fun v15 => (if v14 = 0 then (rec2 (st2.1, (st2.2.1 + (1 : Int32)), (ms_s_bests u13.2 (upd (ms_bests u13.2) (i1).toNatClampNeg v15)))) else (rec2 ((-u13.1), (st2.2.1 + (1 : Int32)), (ms_s_bests u13.2 (upd (ms_bests u13.2) (i1).toNatClampNeg v15)))))) (fun J15 => (if v14 = 0 then (J15 ((ms_bests u13.2) (i1).toNatClampNeg)) else (J15 st2.2.1))))) (fun J14 => (jn (σ := Unit) (fun v18 => (J14 (1 : Int32))) (fun J18 => (if ((ms_bests u13.2) (i1).toNatClampNeg) = (-1000000 : Int32) then (J18 ()) else (if (-u13.1) ≤ st2.1 then (J14 (0 : Int32)) else (J18 ())))))))))))))))) else (rec2 (st2.1, (st2.2.1 + (1 : Int32)), st2.2.2))) else none)))
def bL2 (i1 i2 : Int32) : (Int32 × Int32 × MS → Option (Int32 × MS)) → Int32 × Int32 × MS → Option (Int32 × MS) := (fun rec1 st1 => (if (ms_men st1.2.2) ≤ st1.2.1 then (some (st1.1, st1.2.2)) else (if inb st1.2.1 8 = true then (if ((ms_firms st1.2.2) (st1.2.1).toNatClampNeg) = i1 then ((M_X8_can st1.2.2 (0 : Int32) st1.2.1 i2).bind (fun u8 => (if u8 = 0 then (rec1 (st1.1, (st1.2.1 + (1 : Int32)), st1.2.2)) else ((M_X8_deeper st1.2.2 (0 : Int32)).bind (fun u10 => ((M_X8_goMan u10 (1 : Int32) st1.2.1 i2).bind (fun u11 => ((M_X8_all1 u11 (1 : Int32) (((1 : Int32) - i1))).bind (fun u12 => (jn (σ := Int32) (fun v13 => (jn (σ := Int32) (fun v14 => (if v13 = 0 then (rec1 (st1.1, (st1.2.1 + (1 : Int32)), (ms_s_bests u12.2 (upd (ms_bests u12.2) ((0 : Int32)).toNatClampNeg v14)))) else (rec1 ((-u12.1), (st1.2.1 + (1 : Int32)), (ms_s_bests u12.2 (upd (ms_bests u12.2) ((0 : Int32)).toNatClampNeg v14)))))) (fun J14 => (if v13 = 0 then (J14 ((ms_bests u12.2) ((0 : Int32)).toNatClampNeg)) else (J14 st1.2.1))))) (fun J13 => (jn (σ := Unit) (fun v17 => (J13 (1 : Int32))) (fun J17 => (if ((ms_bests u12.2) ((0 : Int32)).toNatClampNeg) = (-1000000 : Int32) then (J17 ()) else (if (-u12.1) ≤ st1.1 then (J13 (0 : Int32)) else (J17 ())))))))))))))))) else (rec1 (st1.1, (st1.2.1 + (1 : Int32)), st1.2.2))) else none)))
def aL (B : MS → Int32 → Int32 → Int32 → Option (Int32 × MS)) (i1 i2 : Int32) : (Int32 × Int32 × MS → Option (Int32 × MS)) → Int32 × Int32 × MS → Option (Int32 × MS) := (fun rec1 st1 => (if (7 : Int32) ≤ st1.2.1 then (some (st1.1, st1.2.2)) else ((B st1.2.2 i1 i2 st1.2.1).bind (fun u3 => (rec1 ((st1.1 + u3.1), (st1.2.1 + (1 : Int32)), u3.2))))))
def aG (B : MS → Int32 → Int32 → Int32 → Option (Int32 × MS)) (S0 : MS) (i1 i2 : Int32) : Option (Int32 × MS) := ((lp (σ := Int32 × Int32 × MS) (β := Int32 × MS) (aL B i1 i2) 1000000 ((0 : Int32), (1 : Int32), S0)).bind (fun b1 => (some (b1.1, b1.2))))
theorem all_0 : M_X8_all0 = aG M_X8_best0 := rfl
theorem all_1 : M_X8_all1 = aG M_X8_best1 := rfl
def Fr (D : Nat) (S S' : MS) : Prop := (∀ k, k < 12 * (D + 1) → ms_rows S' k = ms_rows S k) ∧ (∀ c, c < D → ms_bests S' c = ms_bests S c) ∧ Kp S S' ∧ Kn S S'
theorem Fr.refl (D : Nat) (S : MS) : Fr D S S := ⟨fun _ _ => rfl, fun _ _ => rfl, Kp.refl S, Kn.refl S⟩
theorem Fr.trans {D : Nat} {A B C : MS} (a : Fr D A B) (b : Fr D B C) : Fr D A C := ⟨fun k hk => (b.1 k hk).trans (a.1 k hk), fun c hc => (b.2.1 c hc).trans (a.2.1 c hc), a.2.2.1.trans b.2.2.1, a.2.2.2.trans b.2.2.2⟩
theorem Fr.up {D : Nat} {A B : MS} (a : Fr (D + 1) A B) : Fr D A B ∧ ms_bests B D = ms_bests A D := ⟨⟨fun k hk => a.1 k (by omega), fun c hc => a.2.1 c (by omega), a.2.2⟩, a.2.1 D (by omega)⟩
theorem Fr.set (D : Nat) (S : MS) (v : Int32) : Fr D S (ms_s_bests S (upd (ms_bests S) D v)) := ⟨fun _ _ => rfl, fun c hc => upd_ne (by omega), kp_bests S _, kn_bests S _⟩
theorem ex_bind {α : Type} {x : Option α} {b : α} {v : Int32} {K : α → Option (Int32 × MS)} {P : MS → Prop} (h : x = some b) (q : ∃ s, K b = some (v, s) ∧ P s) : ∃ s, x.bind K = some (v, s) ∧ P s := by
  subst h
  exact q
section BESTM
variable {pts hm n : Nat} {fm kd : Nat → Nat}
theorem Fr.er {D : Nat} {A B : MS} {q : Nat → Nat} (a : Fr D A B) (hn : n ≤ 8) (h : ER pts n q D A) : ER pts n q D B := fun i hi => (a.1 _ (by omega)).trans (h i hi)
/-- deeper, and one goes there -/
theorem kb_down {S : MS} {q : Nat → Nat} {D : Nat} (hS : ES pts hm n fm kd S) (hE : ER pts n q D S) (hD : D < 3) (ok : OKb pts hm n fm kd q) : ∃ S3, M_X8_deeper S (nI D) = some S3 ∧ ER pts n q (D + 1) S3 ∧ Fr D S S3 ∧ ms_bests S3 = ms_bests S := by
  have hn := ok.2.2.2.2.1
  refine ⟨_, s8_deeper S hD, fun i hi => ?_, ⟨fun k hk => (by
    show asR (D + 1) (ms_rows S) (fun x => ms_rows S (12 * D + x)) 12 k = ms_rows S k
    exact asR_out (Or.inl hk)), fun c hc => rfl, kp_rows S _, kn_rows S _⟩, rfl⟩
  show asR (D + 1) (ms_rows S) (fun x => ms_rows S (12 * D + x)) 12 (12 * (D + 1) + i) = _
  rw [asR_in (show i < 12 by omega)]
  exact hE i hi
theorem kb_go {S : MS} {q : Nat → Nat} {D : Nat} (hS : ES pts hm n fm kd S) (hE : ER pts n q (D + 1) S) (hD : D < 3) (ok : OKb pts hm n fm kd q) {i d : Nat} (hi : i < n) (hd1 : 1 ≤ d) (hd : d ≤ 6) : ∃ S4, M_X8_goMan S (nI (D + 1)) (nI i) (nI d) = some S4 ∧ ER pts n (goD pts n fm kd q d i) (D + 1) S4 ∧ Fr D S S4 ∧ ms_bests S4 = ms_bests S := by
  obtain ⟨R, a, b, c⟩ := s8_goMan hS hE (show D + 1 < 4 by omega) ok hi hd1 hd
  exact ⟨_, a, b, ⟨fun k hk => c k (Or.inl hk), fun _ _ => rfl, kp_rows S _, kn_rows S _⟩, rfl⟩
def Bs (pts hm n : Nat) (fm kd : Nat → Nat) (M : MS → Int32 → Int32 → Int32 → Option (Int32 × MS)) (e D : Nat) : Prop :=
  ∀ (S : MS) (q : Nat → Nat) (f d : Nat), OKb pts hm n fm kd q → ES pts hm n fm kd S → ER pts n q D S → f < 2 → 1 ≤ d → d ≤ 6 → ∃ S', M S (nI D) (nI f) (nI d) = some (grW pts hm n fm kd (wrA pts hm n fm kd e) q f d, S') ∧ ms_bests S' D = (grB pts hm n fm kd (wrA pts hm n fm kd e) q f d n).1 ∧ Fr D S S'
def As (pts hm n : Nat) (fm kd : Nat → Nat) (M : MS → Int32 → Int32 → Option (Int32 × MS)) (e D : Nat) : Prop :=
  ∀ (S : MS) (q : Nat → Nat) (f : Nat), OKb pts hm n fm kd q → ES pts hm n fm kd S → ER pts n q D S → f < 2 → ∃ S', M S (nI D) (nI f) = some (sumT (fun d => grW pts hm n fm kd (wrA pts hm n fm kd e) q f (d + 1)) 6, S') ∧ Fr D S S'
theorem as_of {B : MS → Int32 → Int32 → Int32 → Option (Int32 × MS)} {e D : Nat} (h : Bs pts hm n fm kd B e D) : As pts hm n fm kd (aG B) e D := by
  intro S q f ok hS hE hf
  have hn := ok.2.2.2.2.1
  have key := lp_inv (F := aL B (nI D) (nI f)) (s0 := ((0 : Int32), (1 : Int32), S)) (N := 1000000)
    (fun k (s : Int32 × Int32 × MS) => s.1 = sumT (fun d => grW pts hm n fm kd (wrA pts hm n fm kd e) q f (d + 1)) k ∧ s.2.1 = nI (k + 1) ∧ Fr D S s.2.2)
    (fun (b : Int32 × MS) => b.1 = sumT (fun d => grW pts hm n fm kd (wrA pts hm n fm kd e) q f (d + 1)) 6 ∧ Fr D S b.2) 6
    (by
      rintro k ⟨s1, s2, s3⟩ hk ⟨g1, g2, g3⟩
      have g2 : s2 = nI (k + 1) := g2
      have g3 : Fr D S s3 := g3
      subst g2
      obtain ⟨S', w1, w2, w3⟩ := h s3 q f (k + 1) ok (hS.kp g3.2.2.1) (g3.er hn hE) hf (by omega) (by omega)
      refine ⟨(s1 + grW pts hm n fm kd (wrA pts hm n fm kd e) q f (k + 1), nI (k + 1 + 1), S'), ⟨congrArg (fun z : Int32 => z + grW pts hm n fm kd (wrA pts hm n fm kd e) q f (k + 1)) g1, rfl, g3.trans w3⟩, fun rec => ?_⟩
      simp only [aL, show ((7 : Int32)) = nI 7 from rfl, thr_idx7 hk, if_false, w1, ob, nI_p1])
    (by
      rintro ⟨s1, s2, s3⟩ ⟨g1, g2, g3⟩
      have g2 : s2 = nI (6 + 1) := g2
      subst g2
      exact ⟨(s1, s3), ⟨g1, g3⟩, fun rec => by simp only [aL, show (7 : Int32) ≤ nI (6 + 1) by decide, if_true]⟩)
    ⟨rfl, rfl, Fr.refl D S⟩ (by omega)
  obtain ⟨⟨b1, b2⟩, k1, k2, k3⟩ := key
  have k2 : b1 = _ := k2
  unfold aG
  rw [k1]
  exact ⟨b2, congrArg some (Prod.ext k2 rfl), k3⟩
theorem bs_0 {D : Nat} (hD : D < 3) : Bs pts hm n fm kd M_X8_best0 0 D := by
  intro S q f d ok hS hE hf hd1 hd
  have hn := ok.2.2.2.2.1
  have key := lp_inv (F := bL0 (nI D) (nI f) (nI d)) (s0 := ((0 : Int32), (0 : Int32), (ms_s_bests S (upd (ms_bests S) D (-1000000 : Int32))))) (N := 1000000)
    (fun k (s : Int32 × Int32 × MS) => s.1 = (grB pts hm n fm kd (wrA pts hm n fm kd 0) q f d k).2 ∧ s.2.1 = nI k ∧ ms_bests s.2.2 D = (grB pts hm n fm kd (wrA pts hm n fm kd 0) q f d k).1 ∧ Fr D S s.2.2)
    (fun (b : Int32 × MS) => b.1 = (grB pts hm n fm kd (wrA pts hm n fm kd 0) q f d n).2 ∧ ms_bests b.2 D = (grB pts hm n fm kd (wrA pts hm n fm kd 0) q f d n).1 ∧ Fr D S b.2) n
    (by
      rintro k ⟨s1, s2, s3⟩ hk ⟨g1, g2, g3, g4⟩
      have g1 : s1 = _ := g1
      have g2 : s2 = nI k := g2
      have g3 : ms_bests s3 D = _ := g3
      have g4 : Fr D S s3 := g4
      subst g2
      have l1 : ¬ nI n ≤ nI k := nI_ge hk (by omega)
      obtain ⟨o1, o2, o3, o4⟩ := ok.2.2.2.2.2 k hk
      have hi8 : inb (nI k) 8 = true := inb_nI (show k < 8 by omega) (by omega)
      have hS3 := hS.kp g4.2.2.1
      have hE3 := g4.er hn hE
      have e1 : ms_firms s3 (nI k).toNatClampNeg = nI (fm k) := by rw [cl (show k < 2 ^ 31 by omega)]; exact (hS3.2.2.2 k hk).1
      have e3 : ms_men s3 = nI n := hS3.2.2.1
      have eD : (nI D).toNatClampNeg = D := cl (by omega)
      have hcg := s8_can hS3 hE3 (show D < 4 by omega) ok hk hd1 hd
      have est : (grB pts hm n fm kd (wrA pts hm n fm kd 0) q f d (k + 1)) = if (fm k == f && canA pts hm n fm kd q k d) = true then (if (grB pts hm n fm kd (wrA pts hm n fm kd 0) q f d k).1 = -1000000 ∨ ¬ (wrA pts hm n fm kd 0) (goD pts n fm kd q d k) f ≤ (grB pts hm n fm kd (wrA pts hm n fm kd 0) q f d k).2 then (nI k, (wrA pts hm n fm kd 0) (goD pts n fm kd q d k) f) else (grB pts hm n fm kd (wrA pts hm n fm kd 0) q f d k)) else (grB pts hm n fm kd (wrA pts hm n fm kd 0) q f d k) := rfl
      by_cases cf : fm k = f
      · by_cases cc : canA pts hm n fm kd q k d = true
        · obtain ⟨S3, d1, d2, d3, d4⟩ := kb_down hS3 hE3 (show D < 3 by omega) ok
          obtain ⟨S4, r1, r2, r3, r4⟩ := kb_go (hS3.kp d3.2.2.1) d2 (show D < 3 by omega) ok hk hd1 hd
          have hS4 := (hS3.kp d3.2.2.1).kp r3.2.2.1
          have okg := ok.go (i := k) (aimA_le (pts := pts) (f := fm k) (k := kd k) (d := d) o4)
          have okg : OKb pts hm n fm kd (goD pts n fm kd q d k) := okg
          have w1 : M_X8_lead S4 (nI (D + 1)) (nI f) = some (wrA pts hm n fm kd 0 (goD pts n fm kd q d k) f) := s8_lead (hS4) r2 (show D + 1 < 4 by omega) okg hf
          have frS5 : Fr D S S4 := (g4.trans d3).trans r3
          have eb : ms_bests S4 D = ms_bests s3 D := by rw [r4, d4]
          rw [if_pos (show (fm k == f && canA pts hm n fm kd q k d) = true by simp [cf, cc])] at est
          rw [← g1, ← g3] at est
          by_cases c3 : ms_bests s3 D = -1000000 ∨ ¬ wrA pts hm n fm kd 0 (goD pts n fm kd q d k) f ≤ s1
          · rw [if_pos c3] at est
            refine ⟨(wrA pts hm n fm kd 0 (goD pts n fm kd q d k) f, nI (k + 1), ms_s_bests S4 (upd (ms_bests S4) D (nI k))), ⟨by rw [est], rfl, (by rw [est]; show upd (ms_bests S4) D (nI k) D = nI k; exact upd_at), frS5.trans (Fr.set D S4 (nI k))⟩, fun rec => ?_⟩
            simp only [bL0, jn, e3, l1, if_false, hi8, if_true, e1, cf, hcg, ob, b01_t cc, show ¬ (1 : Int32) = 0 by decide, d1, nI_p1, r1, w1, eD, eb]
            by_cases c4 : ms_bests s3 D = -1000000
            · rw [if_pos c4]
            · rw [if_neg c4, if_neg (fun z => (c3.resolve_left c4) z)]
          · rw [if_neg c3] at est
            have c4 : ¬ ms_bests s3 D = -1000000 := fun z => c3 (Or.inl z)
            have c5 : wrA pts hm n fm kd 0 (goD pts n fm kd q d k) f ≤ s1 := Classical.not_not.1 (fun z => c3 (Or.inr z))
            refine ⟨(s1, nI (k + 1), ms_s_bests S4 (upd (ms_bests S4) D (ms_bests s3 D))), ⟨by rw [est]; exact g1, rfl, (by rw [est]; show upd (ms_bests S4) D (ms_bests s3 D) D = _; exact upd_at.trans g3), frS5.trans (Fr.set D S4 _)⟩, fun rec => ?_⟩
            simp only [bL0, jn, e3, l1, if_false, hi8, if_true, e1, cf, hcg, ob, b01_t cc, show ¬ (1 : Int32) = 0 by decide, d1, nI_p1, r1, w1, eD, eb, c4, c5]
        · rw [if_neg (show ¬ (fm k == f && canA pts hm n fm kd q k d) = true by simp [cf, cc])] at est
          refine ⟨(s1, nI (k + 1), s3), ⟨by rw [est]; exact g1, rfl, by rw [est]; exact g3, g4⟩, fun rec => ?_⟩
          simp only [bL0, e3, l1, if_false, hi8, if_true, e1, cf, hcg, ob, b01_f cc, nI_p1]
      · have cf2 : ¬ nI (fm k) = nI f := fun z => cf ((eqI (by omega) (by omega)).1 z)
        rw [if_neg (show ¬ (fm k == f && canA pts hm n fm kd q k d) = true by simp [cf])] at est
        refine ⟨(s1, nI (k + 1), s3), ⟨by rw [est]; exact g1, rfl, by rw [est]; exact g3, g4⟩, fun rec => ?_⟩
        simp only [bL0, e3, l1, if_false, hi8, if_true, e1, cf2, nI_p1])
    (by
      rintro ⟨s1, s2, s3⟩ ⟨g1, g2, g3, g4⟩
      have g2 : s2 = nI n := g2
      have g4 : Fr D S s3 := g4
      subst g2
      have l1 : nI n ≤ nI n := nI_le (Nat.le_refl n) (by omega)
      have e3 : ms_men s3 = nI n := (hS.kp g4.2.2.1).2.2.1
      exact ⟨(s1, s3), ⟨g1, g3, g4⟩, fun rec => by simp only [bL0, e3, l1, if_true]⟩)
    ⟨rfl, rfl, (by show upd (ms_bests S) D (-1000000) D = _; exact upd_at), Fr.set D S _⟩ (by omega)
  obtain ⟨⟨b1, b2⟩, k1, k2, k3, k4⟩ := key
  have k2 : b1 = _ := k2
  have k3 : ms_bests b2 D = _ := k3
  have k4 : Fr D S b2 := k4
  have eD : (nI D).toNatClampNeg = D := cl (by omega)
  unfold M_X8_best0 grW
  rw [if_pos (inb_nI (show D < 3 by omega) (by omega))]
  have k1 : lp (bL0 (nI D) (nI f) (nI d)) 1000000 ((0 : Int32), (0 : Int32), (ms_s_bests S (upd (ms_bests S) (nI D).toNatClampNeg (-1000000 : Int32)))) = some (b1, b2) := by
    rw [eD]
    exact k1
  refine ex_bind k1 ?_
  simp only [eD]
  rw [k2, k3]
  by_cases c : (grB pts hm n fm kd (wrA pts hm n fm kd 0) q f d n).1 = -1000000
  · rw [if_pos c, if_pos c]
    rw [s8_lead (hS.kp k4.2.2.1) (k4.er hn hE) (show D < 4 by omega) ok hf]
    exact ⟨b2, rfl, k3, k4⟩
  · rw [if_neg c, if_neg c]
    exact ⟨b2, rfl, k3, k4⟩
theorem bs_1 {D : Nat} (hA : As pts hm n fm kd M_X8_all0 0 (D + 1)) (hD : D < 2) : Bs pts hm n fm kd M_X8_best1 1 D := by
  intro S q f d ok hS hE hf hd1 hd
  have hn := ok.2.2.2.2.1
  have key := lp_inv (F := bL1 (nI D) (nI f) (nI d)) (s0 := ((0 : Int32), (0 : Int32), (ms_s_bests S (upd (ms_bests S) D (-1000000 : Int32))))) (N := 1000000)
    (fun k (s : Int32 × Int32 × MS) => s.1 = (grB pts hm n fm kd (wrA pts hm n fm kd 1) q f d k).2 ∧ s.2.1 = nI k ∧ ms_bests s.2.2 D = (grB pts hm n fm kd (wrA pts hm n fm kd 1) q f d k).1 ∧ Fr D S s.2.2)
    (fun (b : Int32 × MS) => b.1 = (grB pts hm n fm kd (wrA pts hm n fm kd 1) q f d n).2 ∧ ms_bests b.2 D = (grB pts hm n fm kd (wrA pts hm n fm kd 1) q f d n).1 ∧ Fr D S b.2) n
    (by
      rintro k ⟨s1, s2, s3⟩ hk ⟨g1, g2, g3, g4⟩
      have g1 : s1 = _ := g1
      have g2 : s2 = nI k := g2
      have g3 : ms_bests s3 D = _ := g3
      have g4 : Fr D S s3 := g4
      subst g2
      have l1 : ¬ nI n ≤ nI k := nI_ge hk (by omega)
      obtain ⟨o1, o2, o3, o4⟩ := ok.2.2.2.2.2 k hk
      have hi8 : inb (nI k) 8 = true := inb_nI (show k < 8 by omega) (by omega)
      have hS3 := hS.kp g4.2.2.1
      have hE3 := g4.er hn hE
      have e1 : ms_firms s3 (nI k).toNatClampNeg = nI (fm k) := by rw [cl (show k < 2 ^ 31 by omega)]; exact (hS3.2.2.2 k hk).1
      have e3 : ms_men s3 = nI n := hS3.2.2.1
      have eD : (nI D).toNatClampNeg = D := cl (by omega)
      have hcg := s8_can hS3 hE3 (show D < 4 by omega) ok hk hd1 hd
      have est : (grB pts hm n fm kd (wrA pts hm n fm kd 1) q f d (k + 1)) = if (fm k == f && canA pts hm n fm kd q k d) = true then (if (grB pts hm n fm kd (wrA pts hm n fm kd 1) q f d k).1 = -1000000 ∨ ¬ (wrA pts hm n fm kd 1) (goD pts n fm kd q d k) f ≤ (grB pts hm n fm kd (wrA pts hm n fm kd 1) q f d k).2 then (nI k, (wrA pts hm n fm kd 1) (goD pts n fm kd q d k) f) else (grB pts hm n fm kd (wrA pts hm n fm kd 1) q f d k)) else (grB pts hm n fm kd (wrA pts hm n fm kd 1) q f d k) := rfl
      by_cases cf : fm k = f
      · by_cases cc : canA pts hm n fm kd q k d = true
        · obtain ⟨S3, d1, d2, d3, d4⟩ := kb_down hS3 hE3 (show D < 3 by omega) ok
          obtain ⟨S4, r1, r2, r3, r4⟩ := kb_go (hS3.kp d3.2.2.1) d2 (show D < 3 by omega) ok hk hd1 hd
          have hS4 := (hS3.kp d3.2.2.1).kp r3.2.2.1
          have okg := ok.go (i := k) (aimA_le (pts := pts) (f := fm k) (k := kd k) (d := d) o4)
          have okg : OKb pts hm n fm kd (goD pts n fm kd q d k) := okg
          obtain ⟨S5, w1, w2⟩ := hA S4 (goD pts n fm kd q d k) (1 - f) okg hS4 r2 (by omega)
          have w2u := w2.up
          have frS5 : Fr D S S5 := ((g4.trans d3).trans r3).trans w2u.1
          have eb : ms_bests S5 D = ms_bests s3 D := by rw [w2u.2, r4, d4]
          have ev : -(sumT (fun d' => grW pts hm n fm kd (wrA pts hm n fm kd 0) (goD pts n fm kd q d k) (1 - f) (d' + 1)) 6) = wrA pts hm n fm kd 1 (goD pts n fm kd q d k) f := rfl
          rw [if_pos (show (fm k == f && canA pts hm n fm kd q k d) = true by simp [cf, cc])] at est
          rw [← g1, ← g3] at est
          by_cases c3 : ms_bests s3 D = -1000000 ∨ ¬ wrA pts hm n fm kd 1 (goD pts n fm kd q d k) f ≤ s1
          · rw [if_pos c3] at est
            refine ⟨(wrA pts hm n fm kd 1 (goD pts n fm kd q d k) f, nI (k + 1), ms_s_bests S5 (upd (ms_bests S5) D (nI k))), ⟨by rw [est], rfl, (by rw [est]; show upd (ms_bests S5) D (nI k) D = nI k; exact upd_at), frS5.trans (Fr.set D S5 (nI k))⟩, fun rec => ?_⟩
            simp only [bL1, jn, e3, l1, if_false, hi8, if_true, e1, cf, hcg, ob, b01_t cc, show ¬ (1 : Int32) = 0 by decide, d1, nI_p1, r1, one_sub hf, w1, ev, eD, eb]
            by_cases c4 : ms_bests s3 D = -1000000
            · rw [if_pos c4]
            · rw [if_neg c4, if_neg (fun z => (c3.resolve_left c4) z)]
          · rw [if_neg c3] at est
            have c4 : ¬ ms_bests s3 D = -1000000 := fun z => c3 (Or.inl z)
            have c5 : wrA pts hm n fm kd 1 (goD pts n fm kd q d k) f ≤ s1 := Classical.not_not.1 (fun z => c3 (Or.inr z))
            refine ⟨(s1, nI (k + 1), ms_s_bests S5 (upd (ms_bests S5) D (ms_bests s3 D))), ⟨by rw [est]; exact g1, rfl, (by rw [est]; show upd (ms_bests S5) D (ms_bests s3 D) D = _; exact upd_at.trans g3), frS5.trans (Fr.set D S5 _)⟩, fun rec => ?_⟩
            simp only [bL1, jn, e3, l1, if_false, hi8, if_true, e1, cf, hcg, ob, b01_t cc, show ¬ (1 : Int32) = 0 by decide, d1, nI_p1, r1, one_sub hf, w1, ev, eD, eb, c4, c5]
        · rw [if_neg (show ¬ (fm k == f && canA pts hm n fm kd q k d) = true by simp [cf, cc])] at est
          refine ⟨(s1, nI (k + 1), s3), ⟨by rw [est]; exact g1, rfl, by rw [est]; exact g3, g4⟩, fun rec => ?_⟩
          simp only [bL1, e3, l1, if_false, hi8, if_true, e1, cf, hcg, ob, b01_f cc, nI_p1]
      · have cf2 : ¬ nI (fm k) = nI f := fun z => cf ((eqI (by omega) (by omega)).1 z)
        rw [if_neg (show ¬ (fm k == f && canA pts hm n fm kd q k d) = true by simp [cf])] at est
        refine ⟨(s1, nI (k + 1), s3), ⟨by rw [est]; exact g1, rfl, by rw [est]; exact g3, g4⟩, fun rec => ?_⟩
        simp only [bL1, e3, l1, if_false, hi8, if_true, e1, cf2, nI_p1])
    (by
      rintro ⟨s1, s2, s3⟩ ⟨g1, g2, g3, g4⟩
      have g2 : s2 = nI n := g2
      have g4 : Fr D S s3 := g4
      subst g2
      have l1 : nI n ≤ nI n := nI_le (Nat.le_refl n) (by omega)
      have e3 : ms_men s3 = nI n := (hS.kp g4.2.2.1).2.2.1
      exact ⟨(s1, s3), ⟨g1, g3, g4⟩, fun rec => by simp only [bL1, e3, l1, if_true]⟩)
    ⟨rfl, rfl, (by show upd (ms_bests S) D (-1000000) D = _; exact upd_at), Fr.set D S _⟩ (by omega)
  obtain ⟨⟨b1, b2⟩, k1, k2, k3, k4⟩ := key
  have k2 : b1 = _ := k2
  have k3 : ms_bests b2 D = _ := k3
  have k4 : Fr D S b2 := k4
  have eD : (nI D).toNatClampNeg = D := cl (by omega)
  unfold M_X8_best1 grW
  rw [if_pos (inb_nI (show D < 3 by omega) (by omega))]
  have k1 : lp (bL1 (nI D) (nI f) (nI d)) 1000000 ((0 : Int32), (0 : Int32), (ms_s_bests S (upd (ms_bests S) (nI D).toNatClampNeg (-1000000 : Int32)))) = some (b1, b2) := by
    rw [eD]
    exact k1
  refine ex_bind k1 ?_
  simp only [eD]
  rw [k2, k3]
  by_cases c : (grB pts hm n fm kd (wrA pts hm n fm kd 1) q f d n).1 = -1000000
  · rw [if_pos c, if_pos c]
    obtain ⟨S3, d1, d2, d3, d4⟩ := kb_down (hS.kp k4.2.2.1) (k4.er hn hE) (show D < 3 by omega) ok
    obtain ⟨S5, w1, w2⟩ := hA S3 q (1 - f) ok ((hS.kp k4.2.2.1).kp d3.2.2.1) d2 (by omega)
    have w2u := w2.up
    have d1 : M_X8_deeper b2 (nI D) = _ := d1
    have w1 : M_X8_all0 S3 (nI (D + 1)) (nI (1 - f)) = _ := w1
    rw [d1, one_sub hf]
    simp only [ob, nI_p1]
    rw [w1]
    exact ⟨S5, rfl, by rw [w2u.2, d4]; exact k3, (k4.trans d3).trans w2u.1⟩
  · rw [if_neg c, if_neg c]
    exact ⟨b2, rfl, k3, k4⟩
theorem bs_2 (hA : As pts hm n fm kd M_X8_all1 1 (0 + 1)) : Bs pts hm n fm kd (fun S _ i2 i3 => M_X8_best2 S i2 i3) 2 0 := by
  intro S q f d ok hS hE hf hd1 hd
  have hn := ok.2.2.2.2.1
  have key := lp_inv (F := bL2 (nI f) (nI d)) (s0 := ((0 : Int32), (0 : Int32), (ms_s_bests S (upd (ms_bests S) 0 (-1000000 : Int32))))) (N := 1000000)
    (fun k (s : Int32 × Int32 × MS) => s.1 = (grB pts hm n fm kd (wrA pts hm n fm kd 2) q f d k).2 ∧ s.2.1 = nI k ∧ ms_bests s.2.2 0 = (grB pts hm n fm kd (wrA pts hm n fm kd 2) q f d k).1 ∧ Fr 0 S s.2.2)
    (fun (b : Int32 × MS) => b.1 = (grB pts hm n fm kd (wrA pts hm n fm kd 2) q f d n).2 ∧ ms_bests b.2 0 = (grB pts hm n fm kd (wrA pts hm n fm kd 2) q f d n).1 ∧ Fr 0 S b.2) n
    (by
      rintro k ⟨s1, s2, s3⟩ hk ⟨g1, g2, g3, g4⟩
      have g1 : s1 = _ := g1
      have g2 : s2 = nI k := g2
      have g3 : ms_bests s3 0 = _ := g3
      have g4 : Fr 0 S s3 := g4
      subst g2
      have l1 : ¬ nI n ≤ nI k := nI_ge hk (by omega)
      obtain ⟨o1, o2, o3, o4⟩ := ok.2.2.2.2.2 k hk
      have hi8 : inb (nI k) 8 = true := inb_nI (show k < 8 by omega) (by omega)
      have hS3 := hS.kp g4.2.2.1
      have hE3 := g4.er hn hE
      have e1 : ms_firms s3 (nI k).toNatClampNeg = nI (fm k) := by rw [cl (show k < 2 ^ 31 by omega)]; exact (hS3.2.2.2 k hk).1
      have e3 : ms_men s3 = nI n := hS3.2.2.1
      have eD : (nI 0).toNatClampNeg = 0 := cl (by omega)
      have hcg := s8_can hS3 hE3 (show 0 < 4 by omega) ok hk hd1 hd
      have eD : ((0 : Int32)).toNatClampNeg = 0 := rfl
      have hcg : M_X8_can s3 (0 : Int32) (nI k) (nI d) = _ := hcg
      have est : (grB pts hm n fm kd (wrA pts hm n fm kd 2) q f d (k + 1)) = if (fm k == f && canA pts hm n fm kd q k d) = true then (if (grB pts hm n fm kd (wrA pts hm n fm kd 2) q f d k).1 = -1000000 ∨ ¬ (wrA pts hm n fm kd 2) (goD pts n fm kd q d k) f ≤ (grB pts hm n fm kd (wrA pts hm n fm kd 2) q f d k).2 then (nI k, (wrA pts hm n fm kd 2) (goD pts n fm kd q d k) f) else (grB pts hm n fm kd (wrA pts hm n fm kd 2) q f d k)) else (grB pts hm n fm kd (wrA pts hm n fm kd 2) q f d k) := rfl
      by_cases cf : fm k = f
      · by_cases cc : canA pts hm n fm kd q k d = true
        · obtain ⟨S3, d1, d2, d3, d4⟩ := kb_down hS3 hE3 (show 0 < 3 by omega) ok
          obtain ⟨S4, r1, r2, r3, r4⟩ := kb_go (hS3.kp d3.2.2.1) d2 (show 0 < 3 by omega) ok hk hd1 hd
          have hS4 := (hS3.kp d3.2.2.1).kp r3.2.2.1
          have okg := ok.go (i := k) (aimA_le (pts := pts) (f := fm k) (k := kd k) (d := d) o4)
          have okg : OKb pts hm n fm kd (goD pts n fm kd q d k) := okg
          obtain ⟨S5, w1, w2⟩ := hA S4 (goD pts n fm kd q d k) (1 - f) okg hS4 r2 (by omega)
          have w2u := w2.up
          have frS5 : Fr 0 S S5 := ((g4.trans d3).trans r3).trans w2u.1
          have eb : ms_bests S5 0 = ms_bests s3 0 := by rw [w2u.2, r4, d4]
          have ev : -(sumT (fun d' => grW pts hm n fm kd (wrA pts hm n fm kd 1) (goD pts n fm kd q d k) (1 - f) (d' + 1)) 6) = wrA pts hm n fm kd 2 (goD pts n fm kd q d k) f := rfl
          have d1 : M_X8_deeper s3 (0 : Int32) = _ := d1
          have r1 : M_X8_goMan S3 (1 : Int32) (nI k) (nI d) = _ := r1
          have w1 : M_X8_all1 S4 (1 : Int32) (nI (1 - f)) = _ := w1
          rw [if_pos (show (fm k == f && canA pts hm n fm kd q k d) = true by simp [cf, cc])] at est
          rw [← g1, ← g3] at est
          by_cases c3 : ms_bests s3 0 = -1000000 ∨ ¬ wrA pts hm n fm kd 2 (goD pts n fm kd q d k) f ≤ s1
          · rw [if_pos c3] at est
            refine ⟨(wrA pts hm n fm kd 2 (goD pts n fm kd q d k) f, nI (k + 1), ms_s_bests S5 (upd (ms_bests S5) 0 (nI k))), ⟨by rw [est], rfl, (by rw [est]; show upd (ms_bests S5) 0 (nI k) 0 = nI k; exact upd_at), frS5.trans (Fr.set 0 S5 (nI k))⟩, fun rec => ?_⟩
            simp only [bL2, jn, e3, l1, if_false, hi8, if_true, e1, cf, hcg, ob, b01_t cc, show ¬ (1 : Int32) = 0 by decide, d1, nI_p1, r1, one_sub hf, w1, ev, eD, eb]
            by_cases c4 : ms_bests s3 0 = -1000000
            · rw [if_pos c4]
            · rw [if_neg c4, if_neg (fun z => (c3.resolve_left c4) z)]
          · rw [if_neg c3] at est
            have c4 : ¬ ms_bests s3 0 = -1000000 := fun z => c3 (Or.inl z)
            have c5 : wrA pts hm n fm kd 2 (goD pts n fm kd q d k) f ≤ s1 := Classical.not_not.1 (fun z => c3 (Or.inr z))
            refine ⟨(s1, nI (k + 1), ms_s_bests S5 (upd (ms_bests S5) 0 (ms_bests s3 0))), ⟨by rw [est]; exact g1, rfl, (by rw [est]; show upd (ms_bests S5) 0 (ms_bests s3 0) 0 = _; exact upd_at.trans g3), frS5.trans (Fr.set 0 S5 _)⟩, fun rec => ?_⟩
            simp only [bL2, jn, e3, l1, if_false, hi8, if_true, e1, cf, hcg, ob, b01_t cc, show ¬ (1 : Int32) = 0 by decide, d1, nI_p1, r1, one_sub hf, w1, ev, eD, eb, c4, c5]
        · rw [if_neg (show ¬ (fm k == f && canA pts hm n fm kd q k d) = true by simp [cf, cc])] at est
          refine ⟨(s1, nI (k + 1), s3), ⟨by rw [est]; exact g1, rfl, by rw [est]; exact g3, g4⟩, fun rec => ?_⟩
          simp only [bL2, e3, l1, if_false, hi8, if_true, e1, cf, hcg, ob, b01_f cc, nI_p1]
      · have cf2 : ¬ nI (fm k) = nI f := fun z => cf ((eqI (by omega) (by omega)).1 z)
        rw [if_neg (show ¬ (fm k == f && canA pts hm n fm kd q k d) = true by simp [cf])] at est
        refine ⟨(s1, nI (k + 1), s3), ⟨by rw [est]; exact g1, rfl, by rw [est]; exact g3, g4⟩, fun rec => ?_⟩
        simp only [bL2, e3, l1, if_false, hi8, if_true, e1, cf2, nI_p1])
    (by
      rintro ⟨s1, s2, s3⟩ ⟨g1, g2, g3, g4⟩
      have g2 : s2 = nI n := g2
      have g4 : Fr 0 S s3 := g4
      subst g2
      have l1 : nI n ≤ nI n := nI_le (Nat.le_refl n) (by omega)
      have e3 : ms_men s3 = nI n := (hS.kp g4.2.2.1).2.2.1
      exact ⟨(s1, s3), ⟨g1, g3, g4⟩, fun rec => by simp only [bL2, e3, l1, if_true]⟩)
    ⟨rfl, rfl, (by show upd (ms_bests S) 0 (-1000000) 0 = _; exact upd_at), Fr.set 0 S _⟩ (by omega)
  obtain ⟨⟨b1, b2⟩, k1, k2, k3, k4⟩ := key
  have k2 : b1 = _ := k2
  have k3 : ms_bests b2 0 = _ := k3
  have k4 : Fr 0 S b2 := k4
  have eD : (nI 0).toNatClampNeg = 0 := cl (by omega)
  unfold grW
  show ∃ S', M_X8_best2 S (nI f) (nI d) = _ ∧ _
  unfold M_X8_best2
  refine ex_bind k1 ?_
  show ∃ x, (if ms_bests b2 0 = (-1000000 : Int32) then _ else _) = _ ∧ _
  rw [k2, k3]
  by_cases c : (grB pts hm n fm kd (wrA pts hm n fm kd 2) q f d n).1 = -1000000
  · rw [if_pos c, if_pos c]
    obtain ⟨S3, d1, d2, d3, d4⟩ := kb_down (hS.kp k4.2.2.1) (k4.er hn hE) (show 0 < 3 by omega) ok
    obtain ⟨S5, w1, w2⟩ := hA S3 q (1 - f) ok ((hS.kp k4.2.2.1).kp d3.2.2.1) d2 (by omega)
    have w2u := w2.up
    have d1 : M_X8_deeper b2 (0 : Int32) = _ := d1
    have w1 : M_X8_all1 S3 (1 : Int32) (nI (1 - f)) = _ := w1
    rw [d1, one_sub hf]
    simp only [ob]
    rw [w1]
    exact ⟨S5, rfl, by rw [w2u.2, d4]; exact k3, (k4.trans d3).trans w2u.1⟩
  · rw [if_neg c, if_neg c]
    exact ⟨b2, rfl, k3, k4⟩
theorem bs_all : Bs pts hm n fm kd M_X8_best0 0 0 ∧ Bs pts hm n fm kd M_X8_best1 1 0 ∧ Bs pts hm n fm kd (fun S _ i2 i3 => M_X8_best2 S i2 i3) 2 0 := by
  have a1 : As pts hm n fm kd M_X8_all0 0 1 := by rw [all_0]; exact as_of (bs_0 (by omega))
  have a2 : As pts hm n fm kd M_X8_all0 0 2 := by rw [all_0]; exact as_of (bs_0 (by omega))
  have b1 : As pts hm n fm kd M_X8_all1 1 1 := by rw [all_1]; exact as_of (bs_1 a2 (by omega))
  exact ⟨bs_0 (by omega), bs_1 a1 (by omega), bs_2 b1⟩
end BESTM
