/-! ===== chance: fractions, the reference's way, the sim ===== -/
def eu : Nat → Nat → Nat → Nat
  | 0, a, _ => a
  | k + 1, a, b => if b = 0 then a else eu k b (a % b)
def gL7 : (Int64 × Int64 × Int32 → Option Int64) → Int64 × Int64 × Int32 → Option Int64 := (fun rec1 st1 => (if (100 : Int32) ≤ st1.2.2 then (some st1.1) else (if (lg_cmp st1.2.1 (0 : Int64)) = 0 then (some st1.1) else (if ¬ st1.2.1 = 0 then (rec1 (st1.2.1, (st1.1 - st1.1 / st1.2.1 * st1.2.1), (st1.2.2 + (1 : Int32)))) else none))))
def gL8 : (Int32 × Int32 → Option Int32) → Int32 × Int32 → Option Int32 := (fun rec12 st12 => (if st12.2 = 0 then (some st12.1) else (if ¬ st12.2 = 0 then (rec12 (st12.2, (st12.1 - st12.1 / st12.2 * st12.2))) else none)))
def hL20 (i1 i2 : Int32) : (Int32 × Int32 × MS → Option MS) → Int32 × Int32 × MS → Option MS := (fun rec20 st20 => (if i2 ≤ st20.2.1 then (some st20.2.2) else ((M_X8_goAlone st20.2.2 (0 : Int32) i1 (((st20.1 - st20.1 / (6 : Int32) * (6 : Int32)) + (1 : Int32)))).bind (fun u24 => (rec20 ((st20.1 / (6 : Int32)), (st20.2.1 + (1 : Int32)), u24))))))
def hL11 (i1 i2 v10 : Int32) : (Int32 × Int32 × MS → Option (Int32 × MS)) → Int32 × Int32 × MS → Option (Int32 × MS) := (fun rec11 st11 => (if v10 ≤ st11.2.1 then (some (st11.1, st11.2.2)) else ((M_X8_alone st11.2.2 i1).bind (fun u19 => ((lp (σ := Int32 × Int32 × MS) (β := MS) (hL20 i1 i2) 1000000 (st11.2.1, (0 : Int32), u19)).bind (fun b20 => ((M_X8_isDone b20 (0 : Int32) i1).bind (fun u21 => (if u21 = 0 then (rec11 ((st11.1 + (0 : Int32)), (st11.2.1 + (1 : Int32)), b20)) else (rec11 ((st11.1 + (1 : Int32)), (st11.2.1 + (1 : Int32)), b20)))))))))))
def kC8 (S0 : MS) (i1 i2 i3 : Int32) : Int32 → Option (Int64 × MS) := (fun v10 => ((lp (σ := Int32 × Int32 × MS) (β := Int32 × MS) (hL11 i1 i2 v10) 1000000 ((0 : Int32), (0 : Int32), S0)).bind (fun b11 => ((lp (σ := Int32 × Int32) (β := Int32) gL8 1000000 (b11.1, v10)).bind (fun b12 => (if i3 = 0 then (if ¬ b12 = 0 then (some (((b11.1 / b12)).toInt64, b11.2)) else none) else (if ¬ b12 = 0 then (some (((v10 / b12)).toInt64, b11.2)) else none)))))))
theorem cmp_z {b : Nat} (h : b < 2 ^ 31) : lg_cmp (lN b) (0 : Int64) = 0 ↔ b = 0 := by
  unfold lg_cmp
  rw [show ((0 : Int64)) = lN 0 from rfl]
  by_cases c : b = 0
  · subst c
    rw [if_neg (by decide), if_pos rfl]
    exact ⟨fun _ => rfl, fun _ => rfl⟩
  · have h1 : lN 0 < lN b := (lN_lt (by omega) h).2 (by omega)
    rw [if_pos h1]
    exact ⟨fun z => absurd z (by decide), fun z => absurd z c⟩
theorem eu_7 : ∀ (k t N a b : Nat), t + k = 100 → k < N → a < 2 ^ 31 → b < 2 ^ 31 → lp gL7 N (lN a, lN b, nI t) = some (lN (eu k a b))
  | 0, t, N, a, b, ht, hN, ha, hb => by
    cases N with
    | zero => omega
    | succ N =>
      have l1 : (100 : Int32) ≤ nI t := (leI (show 100 < 2 ^ 31 by omega) (show t < 2 ^ 31 by omega)).2 (by omega)
      show gL7 (lp gL7 N) (lN a, lN b, nI t) = some (lN a)
      simp only [gL7, l1, if_true]
  | k + 1, t, N, a, b, ht, hN, ha, hb => by
    cases N with
    | zero => omega
    | succ N =>
      have l1 : ¬ (100 : Int32) ≤ nI t := fun z => absurd ((leI (show 100 < 2 ^ 31 by omega) (show t < 2 ^ 31 by omega)).1 z) (by omega)
      show gL7 (lp gL7 N) (lN a, lN b, nI t) = some (lN (if b = 0 then a else eu k b (a % b)))
      by_cases c : b = 0
      · simp only [gL7, l1, if_false, (cmp_z hb).2 c, if_true, if_pos c]
      · have c2 : ¬ lg_cmp (lN b) (0 : Int64) = 0 := fun z => c ((cmp_z hb).1 z)
        have c3 : ¬ lN b = 0 := fun z => c ((lN_eq (b := 0) hb (by omega)).1 z)
        simp only [gL7, l1, if_false, c2, c3, not_false_eq_true, if_true, if_neg c]
        rw [pk_lRem (by omega) (by omega) (by omega), nI_p1]
        exact eu_7 k (t + 1) N b (a % b) (by omega) (by omega) hb (by have := Nat.mod_lt a (show 0 < b by omega); omega)
theorem gcd_8 : ∀ (b a N : Nat), b < N → a < 2 ^ 31 → b < 2 ^ 31 → lp gL8 N (nI a, nI b) = some (nI (Nat.gcd b a)) := by
  intro b
  induction b using Nat.strongRecOn with
  | _ b ih =>
    intro a N hN ha hb
    cases N with
    | zero => omega
    | succ N =>
      show gL8 (lp gL8 N) (nI a, nI b) = _
      by_cases c : b = 0
      · subst c
        simp only [gL8, show nI 0 = (0 : Int32) from rfl, if_true, Nat.gcd_zero_left]
      · have c3 : ¬ nI b = 0 := fun z => c ((eqI (b := 0) hb (by omega)).1 z)
        have hlt := Nat.mod_lt a (show 0 < b by omega)
        simp only [gL8, c3, not_false_eq_true, if_true, if_false]
        rw [pk_rem ha (by omega) hb, ih (a % b) hlt b N (by omega) hb (by omega), Nat.gcd_rec b a]
theorem eu_gcd : ∀ m, m < 4 → ∀ a, a < 217 → eu 100 a (6 ^ m) = Nat.gcd (6 ^ m) a := by decide +kernel
section CHANCEM
variable {pts hm n : Nat} {fm kd : Nat → Nat} {f : Nat}
theorem OKb.run (hf : f < 2) : ∀ (m c : Nat) {q : Nat → Nat}, OKb pts hm n fm kd q → OKb pts hm n fm kd (runC pts hm n fm kd f m c q)
  | 0, _, _, ok => ok
  | m + 1, c, q, ok => OKb.run hf m (c / 6) ok.tur
theorem s8_code (hf : f < 2) {N0 : Nat} (hN0 : N0 ≤ 3) : ∀ (m k N c : Nat) (q : Nat → Nat) (S : MS), k + m = N0 → m < N → c < 2 ^ 31 → OKb pts hm n fm kd q → ES pts hm n fm kd S → ER pts n q 0 S → ∃ S', lp (hL20 (nI f) (nI N0)) N (nI c, nI k, S) = some S' ∧ ER pts n (runC pts hm n fm kd f m c q) 0 S' ∧ Kp S S' ∧ Kn S S'
  | 0, k, N, c, q, S, hk, hN, hc, ok, hS, hE => by
    cases N with
    | zero => omega
    | succ N =>
      have l1 : nI N0 ≤ nI k := nI_le (by omega) (by omega)
      refine ⟨S, ?_, hE, Kp.refl S, Kn.refl S⟩
      show hL20 (nI f) (nI N0) (lp (hL20 (nI f) (nI N0)) N) (nI c, nI k, S) = some S
      simp only [hL20, l1, if_true]
  | m + 1, k, N, c, q, S, hk, hN, hc, ok, hS, hE => by
    cases N with
    | zero => omega
    | succ N =>
      have l1 : ¬ nI N0 ≤ nI k := nI_ge (by omega) (by omega)
      have hr := Nat.mod_lt c (show 0 < 6 by omega)
      obtain ⟨S1, h1, h2, h3, h4, h5⟩ := kp_goAlone (d := c % 6 + 1) hS hE (show 0 < 4 by omega) ok hf (by omega) (by omega)
      have h1 : M_X8_goAlone S (0 : Int32) (nI f) (nI (c % 6 + 1)) = _ := h1
      obtain ⟨S', g1, g2, g3, g4⟩ := s8_code hf hN0 m (k + 1) N (c / 6) _ S1 (by omega) (by omega) (by omega) ok.tur (hS.kp h4) h2
      have em : nI c - nI c / (6 : Int32) * (6 : Int32) = nI (c % 6) := pk_rem (d := 6) (by omega) (by omega) (by omega)
      have ed : nI c / (6 : Int32) = nI (c / 6) := pk_div (d := 6) (by omega) (by omega) (by omega)
      rw [ed] at em
      refine ⟨S', ?_, g2, h4.trans g3, h5.trans g4⟩
      show hL20 (nI f) (nI N0) (lp (hL20 (nI f) (nI N0)) N) (nI c, nI k, S) = some S'
      simp only [hL20, l1, if_false, em, nI_p1, h1, ob, ed]
      exact g1
theorem s8_codes {ps : Nat → Nat} {S : MS} (EM : EMb pts hm n fm kd ps S) (ho : ms_otherOne S = -1000000) (ok : OKb pts hm n fm kd ps) (hf : f < 2) (hc : 0 < cntF n fm f) {m : Nat} (hm3 : m ≤ 3) : ∃ S', lp (hL11 (nI f) (nI m) (nI (6 ^ m))) 1000000 ((0 : Int32), (0 : Int32), S) = some (nI (wwA pts hm n fm kd f m (mixA ps (alA pts fm ps f) n)), S') ∧ Kp S S' ∧ Kn S S' := by
  have hn := ok.2.2.2.2.1
  have h6 : 6 ^ m ≤ 216 := by
    have : 6 ^ m ≤ 6 ^ 3 := Nat.pow_le_pow_right (by omega) hm3
    omega
  have hes := es_of EM ho hn
  have key := lp_inv (F := hL11 (nI f) (nI m) (nI (6 ^ m))) (s0 := ((0 : Int32), (0 : Int32), S)) (N := 1000000)
    (fun k (s : Int32 × Int32 × MS) => s.1 = nI (fb_ct (fun c => wonA pts n fm (runC pts hm n fm kd f m c (mixA ps (alA pts fm ps f) n)) f) k) ∧ s.2.1 = nI k ∧ Kp S s.2.2 ∧ Kn S s.2.2)
    (fun (b : Int32 × MS) => b.1 = nI (fb_ct (fun c => wonA pts n fm (runC pts hm n fm kd f m c (mixA ps (alA pts fm ps f) n)) f) (6 ^ m)) ∧ Kp S b.2 ∧ Kn S b.2) (6 ^ m)
    (by
      rintro k ⟨s1, s2, s3⟩ hk ⟨g1, g2, kp, kn⟩
      have g1 : s1 = _ := g1
      have g2 : s2 = nI k := g2
      have kp : Kp S s3 := kp
      have kn : Kn S s3 := kn
      subst g2
      have l1 : ¬ nI (6 ^ m) ≤ nI k := nI_ge hk (by omega)
      obtain ⟨S1, a1, a2, a3, a4⟩ := kp_alone (EM.kp kp kn.1) ok hf
      obtain ⟨S2, b1, b2, b3, b4⟩ := s8_code hf hm3 m 0 1000000 k _ S1 (by omega) (by omega) (by omega) ok.al ((hes.kp kp).kp a3) a2
      have b1 : lp (hL20 (nI f) (nI m)) 1000000 (nI k, (0 : Int32), S1) = some S2 := b1
      have hd : M_X8_isDone S2 (0 : Int32) (nI f) = _ := s8_isDone (((hes.kp kp).kp a3).kp b3) b2 (show 0 < 4 by omega) (OKb.run hf m k ok.al) hf hc
      have hs := fb_ct_succ (fun c => wonA pts n fm (runC pts hm n fm kd f m c (mixA ps (alA pts fm ps f) n)) f) k
      have kp2 := (kp.trans a3).trans b3
      have kn2 := (kn.trans a4).trans b4
      by_cases c : wonA pts n fm (runC pts hm n fm kd f m k (mixA ps (alA pts fm ps f) n)) f = true
      · refine ⟨(s1 + 1, nI (k + 1), S2), ⟨?_, rfl, kp2, kn2⟩, fun rec => ?_⟩
        · show s1 + 1 = _
          rw [hs, if_pos c, show s1 = _ from g1, nI_p1]
        · simp only [hL11, l1, if_false, a1, ob, b1, hd, b01_t c, show ¬ (1 : Int32) = 0 by decide, nI_p1]
      · refine ⟨(s1 + 0, nI (k + 1), S2), ⟨?_, rfl, kp2, kn2⟩, fun rec => ?_⟩
        · show s1 + 0 = _
          rw [hs, if_neg c, show s1 = _ from g1, Int32.add_zero]
          rfl
        · simp only [hL11, l1, if_false, a1, ob, b1, hd, b01_f c, if_true, nI_p1])
    (by
      rintro ⟨s1, s2, s3⟩ ⟨g1, g2, kp, kn⟩
      have g2 : s2 = nI (6 ^ m) := g2
      subst g2
      have l1 : nI (6 ^ m) ≤ nI (6 ^ m) := nI_le (Nat.le_refl _) (by omega)
      exact ⟨(s1, s3), ⟨g1, kp, kn⟩, fun rec => by simp only [hL11, l1, if_true]⟩)
    ⟨rfl, rfl, Kp.refl S, Kn.refl S⟩ (by omega)
  obtain ⟨⟨b1, b2⟩, k1, k2, k3, k4⟩ := key
  have k2 : b1 = _ := k2
  rw [ww_ct hn] at k2
  exact ⟨b2, by rw [k1, k2], k3, k4⟩
end CHANCEM
theorem sim_chance {tf : TF} {rw_ : RW} {tp : TP} {bs : IA} {L i0 i1 : BD} {ac : AC} {as : AS} {S : MS} (h : Rel tf rw_ tp bs L i0 i1 ac as S) (fs : FS) (M : BD) (x y z : Int32) :
    ∃ v M' S', M_X7_chance tf L fs M x y z = some (v, M') ∧ M_X8_chance S x y z = some (v, S') ∧ Rel tf rw_ tp bs L i0 i1 ac as S' := by
  unfold M_X7_chance M_X8_chance
  rcases h.tabs with ⟨e1, e2, e3, e4⟩ | ⟨pts, hm, n, fm, kd, ps, thr, trn, cub, ow, B, A, I⟩
  · rw [no_tab e1, e3]
    exact ⟨_, _, _, rfl, rfl, h⟩
  have hn := B.n8
  have hno := B.no (tf := tf)
  have hhas := B.has
  obtain ⟨c1, ok, okt, E, T, EM, TM, c6, hoo⟩ := B
  have hS := es_of EM hoo hn
  rw [hno, if_neg hhas, sp_isFirm7, sp_isFirm8, sp_within, sp_isChoice7, show (0 : Int64) = (0 : Int32).toInt64 from rfl, show (1 : Int64) = (1 : Int32).toInt64 from rfl, show (3 : Int64) = (3 : Int32).toInt64 from rfl, sp_in, sp_in]
  simp only [ob, if_true, b01_no]
  by_cases hx : 0 ≤ x ∧ x ≤ 1
  · obtain ⟨f, hf, rfl⟩ := firm_of hx
    have nx : ¬ ¬ (0 ≤ nI f ∧ nI f ≤ 1) := fun q => q hx
    simp only [nx, if_false]
    by_cases hy : 0 ≤ y ∧ y ≤ 3
    · have ny : ¬ ¬ (0 ≤ y ∧ y ≤ 3) := fun q => q hy
      simp only [ny, if_false]
      by_cases hz : 0 ≤ z ∧ z ≤ 1
      · have nz : ¬ ¬ (0 ≤ z ∧ z ≤ 1) := fun q => q hz
        simp only [nz, if_false]
        rw [sp_hasMen E ok hf, s8_hasMen hS ok hf]
        simp only [ob, b01_no]
        by_cases hc : 0 < cntF n fm f
        · have hnc : ¬ ¬ 0 < cntF n fm f := fun q => q hc
          obtain ⟨m, -, hm3, rfl⟩ := rng_of (lo := 0) (hi := 3) rfl rfl (by omega) (by omega) hy
          obtain ⟨L1, p1, p2⟩ := sp_leaveAlone (S0 := fs) E ok M hf
          obtain ⟨L2, q1, q2⟩ := ww_all hf m hm3 L1 _ ok.al p2 gone_al
          obtain ⟨S1, r1, r2, r3⟩ := s8_codes EM hoo ok hf hc hm3
          have hle := ww_le (pts := pts) (hm := hm) (fm := fm) (kd := kd) (f := f) hn m (mixA ps (alA pts fm ps f) n)
          have h6 : 6 ^ m ≤ 216 := by
            have : 6 ^ m ≤ 6 ^ 3 := Nat.pow_le_pow_right (by omega) hm3
            omega
          have h61 : 0 < 6 ^ m := Nat.pow_pos (by omega)
          generalize wwA pts hm n fm kd f m (mixA ps (alA pts fm ps f) n) = w at *
          have hgcd := eu_gcd m (by omega) w (by omega)
          have hgp : 0 < Nat.gcd (6 ^ m) w := Nat.gcd_pos_of_pos_left _ h61
          have hgl : Nat.gcd (6 ^ m) w ≤ 6 ^ m := Nat.gcd_le_left _ h61
          have g7 := eu_7 100 0 1000000 w (6 ^ m) (by omega) (by omega) (by omega) (by omega)
          have g8 := gcd_8 (6 ^ m) w 1000000 (by omega) (by omega) (by omega)
          rw [hgcd] at g7
          generalize Nat.gcd (6 ^ m) w = G at *
          have hJ : ∀ (K : Int32 → Option (Int64 × MS)), (if nI m = (0 : Int32) then K 1 else if nI m = (1 : Int32) then K 6 else if nI m = (2 : Int32) then K 36 else K 216) = K (nI (6 ^ m)) := by
            intro K
            rcases (show m = 0 ∨ m = 1 ∨ m = 2 ∨ m = 3 by omega) with rfl | rfl | rfl | rfl <;> rfl
          have hcd : M_X7_commonDivisor (lN w) (lN (6 ^ m)) = some (lN G) := by
            have g7' : lp gL7 1000000 (lN w, lN (6 ^ m), (0 : Int32)) = some (lN G) := g7
            unfold M_X7_commonDivisor
            refine (bind_of g7').trans ?_
            rw [if_neg (show ¬ lN G < (1 : Int64) from fun q => absurd ((lN_lt (a := G) (b := 1) (by omega) (by omega)).1 q) (by omega))]
          have hG0 : ¬ lN G = 0 := fun q => absurd ((lN_eq (b := 0) (by omega) (by omega)).1 q) (by omega)
          have hG0' : ¬ lN G = Int32.toInt64 0 := hG0
          have hG8 : ¬ nI G = 0 := fun q => absurd ((eqI (b := 0) (by omega) (by omega)).1 q) (by omega)
          have hways : M_X3_waysToWin fs L M (nI f) (nI m) = some (lN w, L2) := by
            unfold M_X3_waysToWin
            rw [p1]
            simp only [ob]
            rw [q1]
            rfl
          have d7 : ∀ k, k < 2 ^ 31 → lN k / lN G = lN (k / G) := fun k hk => pk_lDiv (by omega) hgp (by omega)
          have d8 : ∀ k, k < 2 ^ 31 → (nI k / nI G).toInt64 = lN (k / G) := fun k hk => by
            rw [pk_div hk hgp (by omega)]
            exact nI_l (Nat.lt_of_le_of_lt (Nat.div_le_self _ _) hk)
          simp only [hnc, if_false, sp_power m hm3, ob, hways]
          have k8 : kC8 S (nI f) (nI m) z (nI (6 ^ m)) = if z = 0 then some (lN (w / G), S1) else some (lN (6 ^ m / G), S1) := by
            unfold kC8
            refine (bind_of r1).trans ?_
            refine (bind_of g8).trans ?_
            simp only [hG8, not_false_eq_true, if_true]
            rw [d8 w (by omega), d8 (6 ^ m) (by omega)]
          by_cases c : z = 0
          · refine ⟨lN (w / G), L2, S1, ?_, (hJ (kC8 S (nI f) (nI m) z)).trans (k8.trans (if_pos c)), h.kp r2 r3⟩
            simp only [jn, c, if_true, hcd, ob, hG0', not_false_eq_true]
            rw [d7 w (by omega)]
          · refine ⟨lN (6 ^ m / G), L2, S1, ?_, (hJ (kC8 S (nI f) (nI m) z)).trans (k8.trans (if_neg c)), h.kp r2 r3⟩
            simp only [jn, c, if_false, hcd, ob, hG0', not_false_eq_true, if_true]
            rw [d7 (6 ^ m) (by omega)]
        · simp only [hc, not_false_eq_true, if_true]
          exact ⟨_, _, _, rfl, rfl, h⟩
      · simp only [hz, not_false_eq_true, if_true]
        exact ⟨_, _, _, rfl, rfl, h⟩
    · simp only [hy, not_false_eq_true, if_true]
      exact ⟨_, _, _, rfl, rfl, h⟩
  · simp only [hx, not_false_eq_true, if_true]
    exact ⟨_, _, _, rfl, rfl, h⟩
