/-! ===== chance: what it comes to, and the class's way ===== -/
def runC (pts hm n : Nat) (fm kd : Nat → Nat) (f : Nat) : Nat → Nat → (Nat → Nat) → Nat → Nat
  | 0, _, q => q
  | m + 1, c, q => runC pts hm n fm kd f m (c / 6) (turA pts hm n fm kd q f (c % 6 + 1))
def wwA (pts hm n : Nat) (fm kd : Nat → Nat) (f : Nat) : Nat → (Nat → Nat) → Nat
  | 0 => fun q => if wonA pts n fm q f = true then 1 else 0
  | m + 1 => fun q => if wonA pts n fm q f = true then 6 ^ (m + 1) else fb_sm (fun d => wwA pts hm n fm kd f m (turA pts hm n fm kd q f (d + 1))) 6
theorem ct_six (P : Nat → Nat → Bool) : ∀ M, fb_ct (fun c => P (c % 6) (c / 6)) (6 * M) = fb_sm (fun d => fb_ct (fun c => P d c) M) 6
  | 0 => rfl
  | M + 1 => by
    rw [Nat.mul_succ, fb_ct_split, ct_six P M]
    have h1 : fb_ct (fun k => P ((6 * M + k) % 6) ((6 * M + k) / 6)) 6 = fb_ct (fun k => P k M) 6 := fb_ct_cong (fun k hk => by rw [show (6 * M + k) % 6 = k by omega, show (6 * M + k) / 6 = M by omega])
    have h2 : fb_sm (fun d => fb_ct (fun c => P d c) (M + 1)) 6 = fb_sm (fun d => fb_ct (fun c => P d c) M) 6 + fb_sm (fun d => if P d M = true then 1 else 0) 6 := fb_sm_add _ _ 6
    rw [h1, h2]
    rfl
section CHANCE
variable {pts hm n : Nat} {fm kd : Nat → Nat} {f : Nat}
theorem won_off {q : Nat → Nat} (h : wonA pts n fm q f = true) {i : Nat} (hi : i < n) (hf : fm i = f) : q i = pts + 1 := by
  have h1 := (wonA_t.1 h).1
  have h2 := fb_ct_zero.1 h1 i hi
  rw [Bool.and_eq_false_iff] at h2
  rcases h2 with h3 | h3
  · rw [hf] at h3
    simp at h3
  · simpa using h3
theorem won_stay {q : Nat → Nat} (h : wonA pts n fm q f = true) (d : Nat) (hn : n ≤ 8) : turA pts hm n fm kd q f d = q := by
  unfold turA
  rcases rulA_is (pts := pts) (hm := hm) (n := n) (fm := fm) (kd := kd) (ps := q) (k := n) (f := f) (d := d) with c4 | ⟨c4, c5, c6⟩
  · rw [if_neg (by omega)]
  · exact absurd (won_off h c4 c5) (canA_on c6)
theorem run_won (hn : n ≤ 8) : ∀ (m c : Nat) {q : Nat → Nat}, wonA pts n fm q f = true → runC pts hm n fm kd f m c q = q
  | 0, _, _, _ => rfl
  | m + 1, c, q, h => by
    show runC pts hm n fm kd f m (c / 6) (turA pts hm n fm kd q f (c % 6 + 1)) = q
    rw [won_stay h _ hn]
    exact run_won hn m _ h
theorem ww_ct (hn : n ≤ 8) : ∀ (m : Nat) (q : Nat → Nat), fb_ct (fun c => wonA pts n fm (runC pts hm n fm kd f m c q) f) (6 ^ m) = wwA pts hm n fm kd f m q
  | 0, q => by
    show 0 + (if wonA pts n fm q f = true then 1 else 0) = if wonA pts n fm q f = true then 1 else 0
    rw [Nat.zero_add]
  | m + 1, q => by
    show fb_ct (fun c => wonA pts n fm (runC pts hm n fm kd f m (c / 6) (turA pts hm n fm kd q f (c % 6 + 1))) f) (6 ^ (m + 1)) = if wonA pts n fm q f = true then 6 ^ (m + 1) else fb_sm (fun d => wwA pts hm n fm kd f m (turA pts hm n fm kd q f (d + 1))) 6
    by_cases c : wonA pts n fm q f = true
    · rw [if_pos c]
      refine fb_ct_all.2 (fun k hk => ?_)
      show wonA pts n fm (runC pts hm n fm kd f m (k / 6) (turA pts hm n fm kd q f (k % 6 + 1))) f = true
      rw [won_stay c _ hn, run_won hn m _ c]
      exact c
    · rw [if_neg c, Nat.pow_succ, Nat.mul_comm, ct_six (fun d c => wonA pts n fm (runC pts hm n fm kd f m c (turA pts hm n fm kd q f (d + 1))) f)]
      exact fb_sm_cong (fun d hd => ww_ct hn m _)
theorem ww_le (hn : n ≤ 8) (m : Nat) (q : Nat → Nat) : wwA pts hm n fm kd f m q ≤ 6 ^ m := by
  rw [← ww_ct hn m q]
  exact fb_ct_le _ _
/-- the other firm is gone -/
def goneA (pts n : Nat) (fm : Nat → Nat) (f : Nat) (q : Nat → Nat) : Prop := ∀ k, k < n → fm k ≠ f → q k = pts + 1
theorem gone_go {q : Nat → Nat} (h : goneA pts n fm f q) {i to : Nat} (hf : fm i = f) : goA pts n fm q i to = setp q i to := by
  funext j
  unfold goA setp
  by_cases c : j = i
  · rw [if_pos c, if_pos c]
  · rw [if_neg c, if_neg c]
    refine if_neg (fun z => ?_)
    have := h j z.1 (by rw [← hf]; exact z.2.1)
    omega
theorem gone_set {q : Nat → Nat} (h : goneA pts n fm f q) {i to : Nat} (hf : fm i = f) : goneA pts n fm f (setp q i to) := fun k hk hne => by
  rw [setp_ne (fun e => hne (by rw [e]; exact hf))]
  exact h k hk hne
theorem gone_tur {q : Nat → Nat} (h : goneA pts n fm f q) (d : Nat) : goneA pts n fm f (turA pts hm n fm kd q f d) := by
  unfold turA
  rcases rulA_is (pts := pts) (hm := hm) (n := n) (fm := fm) (kd := kd) (ps := q) (k := n) (f := f) (d := d) with c4 | ⟨c4, c5, c6⟩
  · rw [if_neg (by omega)]; exact h
  · by_cases c : rulA pts hm n fm kd q f d n < 1000
    · rw [if_pos c, gone_go h c5]
      exact gone_set h c5
    · rw [if_neg c]; exact h
theorem gone_al {ps : Nat → Nat} : goneA pts n fm f (mixA ps (alA pts fm ps f) n) := fun k hk hne => by
  unfold mixA alA
  rw [if_pos hk, if_neg hne]
theorem set_back {q : Nat → Nat} {i to : Nat} : setp (setp q i to) i (q i) = q := by
  rw [setp_set]
  funext j
  unfold setp
  by_cases c : j = i
  · rw [if_pos c, c]
  · rw [if_neg c]
theorem sp_power : ∀ m, m ≤ 3 → M_X7_power (6 : Int64) (nI m) = some (lN (6 ^ m)) := by
  intro m hm3
  unfold M_X7_power
  refine (bind_of (b := lN (6 ^ m)) ?_).trans rfl
  refine lp_at (fun k => (lN (6 ^ k), nI k)) m _ rfl ?_ ?_ (by omega)
  · intro k rec hk
    have h1 : ¬ nI m ≤ nI k := nI_ge hk (by omega)
    simp only [h1, if_false]
    rw [show ((6 : Int64)) = lN 6 from rfl, lN_mul, nI_p1, Nat.pow_succ]
  · intro rec
    have h1 : nI m ≤ nI m := nI_le (Nat.le_refl m) (by omega)
    simp only [h1, if_true]
def gWL (WW : BD → Int32 → Int32 → Option (Int64 × BD)) (i1 i2 : Int32) : (Int64 × Int32 × BD → Option (Int64 × BD)) → Int64 × Int32 × BD → Option (Int64 × BD) := (fun rec4 st4 => (if (6 : Int32) < st4.2.1 then (some (st4.1, st4.2.2)) else ((M_X2_chosenByRule st4.2.2 i1 st4.2.1).bind (fun u6 => (if u6 = (-1000000 : Int32) then ((WW st4.2.2 i1 ((i2 - (1 : Int32)))).bind (fun u12 => (rec4 ((st4.1 + u12.1), (st4.2.1 + (1 : Int32)), u12.2)))) else (if inb u6 8 = true then ((M_X2_go st4.2.2 u6 st4.2.1).bind (fun u9 => ((WW u9.2 i1 ((i2 - (1 : Int32)))).bind (fun u10 => ((M_X2_put u10.2 u6 (((bd_places st4.2.2) (u6).toNatClampNeg))).bind (fun u11 => (rec4 ((st4.1 + u10.1), (st4.2.1 + (1 : Int32)), u11)))))))) else none))))))
def gWW (WW : BD → Int32 → Int32 → Option (Int64 × BD)) (S1 : BD) (i1 : Int32) (i2 : Int32) : Option (Int64 × BD) :=
  ((M_X2_hasWon S1 i1).bind (fun u1 => (if u1 = 0 then (if 0 < i2 then ((lp (σ := Int64 × Int32 × BD) (β := Int64 × BD) (gWL WW i1 i2) 1000000 ((0 : Int64), (1 : Int32), S1)).bind (fun b4 => (some (b4.1, b4.2)))) else (some ((0 : Int64), S1))) else ((M_X7_power (6 : Int64) i2).bind (fun u13 => (some (u13, S1)))))))
theorem ww_1 : M_X3_winsWithin_1 = gWW M_X3_winsWithin_0 := rfl
theorem ww_2 : M_X3_winsWithin_2 = gWW M_X3_winsWithin_1 := rfl
theorem ww_3 : M_X3_winsWithin_3 = gWW M_X3_winsWithin_2 := rfl
def WWs (pts hm n : Nat) (fm kd : Nat → Nat) (f : Nat) (WW : BD → Int32 → Int32 → Option (Int64 × BD)) (m : Nat) : Prop :=
  ∀ (L : BD) (q : Nat → Nat), OKb pts hm n fm kd q → EC pts hm n fm kd q L → goneA pts n fm f q → ∃ L', WW L (nI f) (nI m) = some (lN (wwA pts hm n fm kd f m q), L') ∧ EC pts hm n fm kd q L'
theorem ww_z0 (hf : f < 2) : WWs pts hm n fm kd f M_X3_winsWithin_0 0 := by
  intro L q ok E _
  unfold M_X3_winsWithin_0
  rw [sp_hasWon E ok hf]
  simp only [ob, b01_0]
  show ∃ L', _ = some (lN (if wonA pts n fm q f = true then 1 else 0), L') ∧ _
  by_cases c : wonA pts n fm q f = true
  · rw [if_neg (fun z => z c), if_pos c, sp_power 0 (by omega)]
    exact ⟨L, rfl, E⟩
  · rw [if_pos c, if_neg c, if_neg (show ¬ (0 : Int32) < nI 0 by decide)]
    exact ⟨L, rfl, E⟩
theorem ww_z (hf : f < 2) (WW : BD → Int32 → Int32 → Option (Int64 × BD)) : WWs pts hm n fm kd f (gWW WW) 0 := by
  intro L q ok E _
  unfold gWW
  rw [sp_hasWon E ok hf]
  simp only [ob, b01_0]
  show ∃ L', _ = some (lN (if wonA pts n fm q f = true then 1 else 0), L') ∧ _
  by_cases c : wonA pts n fm q f = true
  · rw [if_neg (fun z => z c), if_pos c, sp_power 0 (by omega)]
    exact ⟨L, rfl, E⟩
  · rw [if_pos c, if_neg c, if_neg (show ¬ (0 : Int32) < nI 0 by decide)]
    exact ⟨L, rfl, E⟩
theorem ww_s {WW : BD → Int32 → Int32 → Option (Int64 × BD)} {m : Nat} (hf : f < 2) (hm3 : m < 3) (h : WWs pts hm n fm kd f WW m) : WWs pts hm n fm kd f (gWW WW) (m + 1) := by
  intro L q ok E hg
  have hn := ok.2.2.2.2.1
  unfold gWW
  rw [sp_hasWon E ok hf]
  simp only [ob, b01_0]
  show ∃ L', _ = some (lN (if wonA pts n fm q f = true then 6 ^ (m + 1) else fb_sm (fun d => wwA pts hm n fm kd f m (turA pts hm n fm kd q f (d + 1))) 6), L') ∧ _
  by_cases c : wonA pts n fm q f = true
  · rw [if_neg (fun z => z c), if_pos c, sp_power (m + 1) (by omega)]
    exact ⟨L, rfl, E⟩
  · have l1 : (0 : Int32) < nI (m + 1) := (ltI (a := 0) (by omega) (by omega)).2 (by omega)
    rw [if_pos c, if_neg c, if_pos l1]
    have key := lp_inv (F := gWL WW (nI f) (nI (m + 1))) (s0 := ((0 : Int64), (1 : Int32), L)) (N := 1000000)
      (fun k (s : Int64 × Int32 × BD) => s.1 = lN (fb_sm (fun d => wwA pts hm n fm kd f m (turA pts hm n fm kd q f (d + 1))) k) ∧ s.2.1 = nI (k + 1) ∧ EC pts hm n fm kd q s.2.2)
      (fun (b : Int64 × BD) => b.1 = lN (fb_sm (fun d => wwA pts hm n fm kd f m (turA pts hm n fm kd q f (d + 1))) 6) ∧ EC pts hm n fm kd q b.2) 6
      (by
        rintro k ⟨s1, s2, s3⟩ hk ⟨g1, g2, hE⟩
        have g1 : s1 = _ := g1
        have g2 : s2 = nI (k + 1) := g2
        have hE : EC pts hm n fm kd q s3 := hE
        subst g2
        have e1 : nI (m + 1) - 1 = nI m := subI (a := m + 1) (b := 1) (by omega)
        obtain ⟨u1, u2⟩ := sp_goAlone (d := k + 1) hE ok hf (by omega) (by omega)
        have hs : s1 + lN (wwA pts hm n fm kd f m (turA pts hm n fm kd q f (k + 1))) = lN (fb_sm (fun d => wwA pts hm n fm kd f m (turA pts hm n fm kd q f (d + 1))) (k + 1)) := by
          rw [fb_sm_succ, ← lN_add]
          exact congrArg (fun z : Int64 => z + lN (wwA pts hm n fm kd f m (turA pts hm n fm kd q f (k + 1)))) g1
        rcases u2 with ⟨v1, v2⟩ | ⟨v1, v2, v3, hh, L1, v4, v5, v6⟩
        · obtain ⟨L', w1, w2⟩ := h s3 q ok hE hg
          rw [v2] at hs
          refine ⟨(s1 + lN (wwA pts hm n fm kd f m q), nI (k + 1 + 1), L'), ⟨hs, rfl, w2⟩, fun rec => ?_⟩
          simp only [gWL, show ((6 : Int32)) = nI 6 from rfl, thr_idx hk, if_false, u1, ob, v1, if_true, e1, w1, nI_p1]
        · obtain ⟨L2, w1, w2⟩ := h L1 _ ok.tur v5 (gone_tur hg _)
          have hwho := (rulA_is (pts := pts) (hm := hm) (n := n) (fm := fm) (kd := kd) (ps := q) (k := n) (f := f) (d := k + 1)).resolve_left (by omega)
          have hif : fm (rulA pts hm n fm kd q f (k + 1) n) = f := hwho.2.1
          have eq1 : turA pts hm n fm kd q f (k + 1) = setp q (rulA pts hm n fm kd q f (k + 1) n) (aimA pts (fm (rulA pts hm n fm kd q f (k + 1) n)) (kd (rulA pts hm n fm kd q f (k + 1) n)) (q (rulA pts hm n fm kd q f (k + 1) n)) (k + 1)) := by
            unfold turA
            rw [if_pos (by omega)]
            exact gone_go hg hif
          obtain ⟨L', p1, p2, p3⟩ := sp_put w2 ok.tur v2 (ok.2.2.2.2.2 _ v2).2.2.2
          have eb : bd_places s3 (nI (rulA pts hm n fm kd q f (k + 1) n)).toNatClampNeg = nI (q (rulA pts hm n fm kd q f (k + 1) n)) := by
            rw [cl (by omega)]
            exact (hE.2.2.2.1 _ v2).2.2
          have hi8 : inb (nI (rulA pts hm n fm kd q f (k + 1) n)) 8 = true := inb_nI (by omega) (by omega)
          refine ⟨(s1 + lN (wwA pts hm n fm kd f m (turA pts hm n fm kd q f (k + 1))), nI (k + 1 + 1), L'), ⟨hs, rfl, p2.same (by rw [eq1]; exact set_back)⟩, fun rec => ?_⟩
          have v1' : ¬ nI (rulA pts hm n fm kd q f (k + 1) n) = -1000000 := by rw [← v3]; exact v1
          rw [v3] at u1
          simp only [gWL, show ((6 : Int32)) = nI 6 from rfl, thr_idx hk, if_false, u1, ob, v1', hi8, if_true, v4, e1, w1, eb, p1, nI_p1])
      (by
        rintro ⟨s1, s2, s3⟩ ⟨g1, g2, hE⟩
        have g2 : s2 = nI (6 + 1) := g2
        subst g2
        exact ⟨(s1, s3), ⟨g1, hE⟩, fun rec => by simp only [gWL, show (6 : Int32) < nI (6 + 1) by decide, if_true]⟩)
      ⟨rfl, rfl, E⟩ (by omega)
    obtain ⟨⟨b1, b2⟩, k1, k2, k3⟩ := key
    have k2 : b1 = _ := k2
    rw [k1]
    exact ⟨b2, congrArg some (Prod.ext k2 rfl), k3⟩
theorem ww_all (hf : f < 2) : ∀ m, m ≤ 3 → WWs pts hm n fm kd f M_X3_winsWithin_3 m := by
  have a0 : WWs pts hm n fm kd f M_X3_winsWithin_0 0 := ww_z0 hf
  have b0 : WWs pts hm n fm kd f M_X3_winsWithin_1 0 := by rw [ww_1]; exact ww_z hf _
  have b1 : WWs pts hm n fm kd f M_X3_winsWithin_1 1 := by rw [ww_1]; exact ww_s hf (by omega) a0
  have c0 : WWs pts hm n fm kd f M_X3_winsWithin_2 0 := by rw [ww_2]; exact ww_z hf _
  have c1 : WWs pts hm n fm kd f M_X3_winsWithin_2 1 := by rw [ww_2]; exact ww_s hf (by omega) b0
  have c2 : WWs pts hm n fm kd f M_X3_winsWithin_2 2 := by rw [ww_2]; exact ww_s hf (by omega) b1
  intro m hm3
  rw [ww_3]
  rcases (show m = 0 ∨ m = 1 ∨ m = 2 ∨ m = 3 by omega) with rfl | rfl | rfl | rfl
  · exact ww_z hf _
  · exact ww_s hf (by omega) c0
  · exact ww_s hf (by omega) c1
  · exact ww_s hf (by omega) c2
end CHANCE
