/-! ===== image, restore ===== -/
def iL4 (S0 : MS) (i1 : Int32) : (Int32 × (Nat → Int32) → Option (Nat → Int32)) → Int32 × (Nat → Int32) → Option (Nat → Int32) := (fun rec4 st4 => (if (8 : Int32) ≤ st4.1 then (some st4.2) else (if inb st4.1 8 = true then (if inb (((32 : Int32) * i1) + st4.1) 64 = true then (rec4 ((st4.1 + (1 : Int32)), (upd st4.2 ((((32 : Int32) * i1) + st4.1)).toNatClampNeg (((10 : Int32) * ((ms_kinds S0) (st4.1).toNatClampNeg)) + ((ms_firms S0) (st4.1).toNatClampNeg))))) else none) else none)))
def iL5 (S0 : MS) (i1 : Int32) : (Int32 × (Nat → Int32) → Option (Nat → Int32)) → Int32 × (Nat → Int32) → Option (Nat → Int32) := (fun rec5 st5 => (if (12 : Int32) ≤ st5.1 then (some st5.2) else (if inb st5.1 12 = true then (if inb ((((32 : Int32) * i1) + (8 : Int32)) + st5.1) 64 = true then (rec5 ((st5.1 + (1 : Int32)), (upd st5.2 (((((32 : Int32) * i1) + (8 : Int32)) + st5.1)).toNatClampNeg ((ms_now S0) (st5.1).toNatClampNeg)))) else none) else none)))
def rL5 (S0 : MS) (i1 : Int32) : (Int32 × (Nat → Int32) × (Nat → Int32) → Option ((Nat → Int32) × (Nat → Int32))) → Int32 × (Nat → Int32) × (Nat → Int32) → Option ((Nat → Int32) × (Nat → Int32)) := (fun rec5 st5 => (if (8 : Int32) ≤ st5.1 then (some (st5.2.1, st5.2.2)) else (if inb (((32 : Int32) * i1) + st5.1) 64 = true then (if inb st5.1 8 = true then (rec5 ((st5.1 + (1 : Int32)), (upd st5.2.1 (st5.1).toNatClampNeg (((ms_images S0) ((((32 : Int32) * i1) + st5.1)).toNatClampNeg) - ((ms_images S0) ((((32 : Int32) * i1) + st5.1)).toNatClampNeg) / (10 : Int32) * (10 : Int32))), (upd st5.2.2 (st5.1).toNatClampNeg (((ms_images S0) ((((32 : Int32) * i1) + st5.1)).toNatClampNeg) / (10 : Int32))))) else none) else none)))
def rL6 (S0 : MS) (i1 : Int32) : (Int32 × (Nat → Int32) → Option (Nat → Int32)) → Int32 × (Nat → Int32) → Option (Nat → Int32) := (fun rec6 st6 => (if (12 : Int32) ≤ st6.1 then (some st6.2) else (if inb ((((32 : Int32) * i1) + (8 : Int32)) + st6.1) 64 = true then (if inb st6.1 12 = true then (rec6 ((st6.1 + (1 : Int32)), (upd st6.2 (st6.1).toNatClampNeg ((ms_images S0) (((((32 : Int32) * i1) + (8 : Int32)) + st6.1)).toNatClampNeg)))) else none) else none)))
theorem e32 {k : Nat} : (32 : Int32) * nI k = nI (32 * k) := by rw [show ((32 : Int32)) = nI 32 from rfl, pk_mul]
theorem e32a {k j : Nat} : nI (32 * k) + nI j = nI (32 * k + j) := nI_add _ _
theorem asR0_s {f g : Nat → Int32} {k : Nat} {v : Int32} (h : v = g k) : upd (asR 0 f g k) k v = asR 0 f g (k + 1) := by
  have h := asR_s (D := 0) (k := k) (f := f) (g := g) (v := v) h
  rwa [Nat.mul_zero, Nat.zero_add] at h
theorem asR0_in {f g : Nat → Int32} {k j : Nat} (h : j < k) : asR 0 f g k j = g j := by
  have h2 := asR_in (D := 0) (k := k) (j := j) (f := f) (g := g) h
  rwa [Nat.mul_zero, Nat.zero_add] at h2
theorem i_loop4 (S : MS) {k : Nat} (hk : k < 2) (f : Nat → Int32) : lp (iL4 S (nI k)) 1000000 ((0 : Int32), f) = some (fb_put f (fun m => 10 * ms_kinds S m + ms_firms S m) (32 * k) 8) := by
  refine lp_at (fun j => (nI j, fb_put f (fun m => 10 * ms_kinds S m + ms_firms S m) (32 * k) j)) 8 _ (congrArg (Prod.mk _) (fb_put_0 _ _ _).symm) ?_ ?_ (by omega)
  · intro j rec hj
    have h1 : ¬ (8 : Int32) ≤ nI j := fun z => absurd ((leI (show 8 < 2 ^ 31 by omega) (show j < 2 ^ 31 by omega)).1 z) (by omega)
    have hs := fb_put_succ f (fun m => 10 * ms_kinds S m + ms_firms S m) (32 * k) j
    simp only [iL4, h1, if_false, e32, e32a]
    rw [inb_nI (show j < 8 by omega) (by omega), inb_nI (show 32 * k + j < 64 by omega) (by omega), cl (show j < 2 ^ 31 by omega), cl (show 32 * k + j < 2 ^ 31 by omega), nI_p1]
    simp only [if_true]
    rw [hs]
  · intro rec
    rfl
theorem i_loop5 (S : MS) {k : Nat} (hk : k < 2) (f : Nat → Int32) : lp (iL5 S (nI k)) 1000000 ((0 : Int32), f) = some (fb_put f (ms_now S) (32 * k + 8) 12) := by
  refine lp_at (fun j => (nI j, fb_put f (ms_now S) (32 * k + 8) j)) 12 _ (congrArg (Prod.mk _) (fb_put_0 _ _ _).symm) ?_ ?_ (by omega)
  · intro j rec hj
    have h1 : ¬ (12 : Int32) ≤ nI j := fun z => absurd ((leI (show 12 < 2 ^ 31 by omega) (show j < 2 ^ 31 by omega)).1 z) (by omega)
    have hs := fb_put_succ f (ms_now S) (32 * k + 8) j
    have e8 : nI (32 * k) + 8 + nI j = nI (32 * k + 8 + j) := by rw [show ((8 : Int32)) = nI 8 from rfl, nI_add, nI_add]
    simp only [iL5, h1, if_false, e32, e8]
    rw [inb_nI (show j < 12 by omega) (by omega), inb_nI (show 32 * k + 8 + j < 64 by omega) (by omega), cl (show j < 2 ^ 31 by omega), cl (show 32 * k + 8 + j < 2 ^ 31 by omega), nI_p1]
    simp only [if_true]
    rw [hs]
  · intro rec
    rfl
theorem r_loop5 (S : MS) {k : Nat} (hk : k < 2) (f g : Nat → Int32) : lp (rL5 S (nI k)) 1000000 ((0 : Int32), f, g) = some (asR 0 f (fun m => ms_images S (32 * k + m) - ms_images S (32 * k + m) / 10 * 10) 8, asR 0 g (fun m => ms_images S (32 * k + m) / 10) 8) := by
  refine lp_at (fun j => (nI j, asR 0 f (fun m => ms_images S (32 * k + m) - ms_images S (32 * k + m) / 10 * 10) j, asR 0 g (fun m => ms_images S (32 * k + m) / 10) j)) 8 _ (by rw [asR_0, asR_0]; rfl) ?_ ?_ (by omega)
  · intro j rec hj
    have h1 : ¬ (8 : Int32) ≤ nI j := fun z => absurd ((leI (show 8 < 2 ^ 31 by omega) (show j < 2 ^ 31 by omega)).1 z) (by omega)
    have s1 := asR0_s (f := f) (k := j) (g := fun m => ms_images S (32 * k + m) - ms_images S (32 * k + m) / 10 * 10) rfl
    have s2 := asR0_s (f := g) (k := j) (g := fun m => ms_images S (32 * k + m) / 10) rfl
    simp only [rL5, h1, if_false, e32, e32a]
    rw [inb_nI (show j < 8 by omega) (by omega), inb_nI (show 32 * k + j < 64 by omega) (by omega), cl (show j < 2 ^ 31 by omega), cl (show 32 * k + j < 2 ^ 31 by omega), nI_p1]
    simp only [if_true]
    rw [s1, s2]
  · intro rec
    rfl
theorem r_loop6 (S : MS) {k : Nat} (hk : k < 2) (f : Nat → Int32) : lp (rL6 S (nI k)) 1000000 ((0 : Int32), f) = some (asR 0 f (fun c => ms_images S (32 * k + 8 + c)) 12) := by
  refine lp_at (fun j => (nI j, asR 0 f (fun c => ms_images S (32 * k + 8 + c)) j)) 12 _ (congrArg (Prod.mk _) asR_0.symm) ?_ ?_ (by omega)
  · intro j rec hj
    have h1 : ¬ (12 : Int32) ≤ nI j := fun z => absurd ((leI (show 12 < 2 ^ 31 by omega) (show j < 2 ^ 31 by omega)).1 z) (by omega)
    have s1 := asR0_s (f := f) (k := j) (g := fun c => ms_images S (32 * k + 8 + c)) rfl
    have e8 : nI (32 * k) + 8 + nI j = nI (32 * k + 8 + j) := by rw [show ((8 : Int32)) = nI 8 from rfl, nI_add, nI_add]
    simp only [rL6, h1, if_false, e32, e8]
    rw [inb_nI (show j < 12 by omega) (by omega), inb_nI (show 32 * k + 8 + j < 64 by omega) (by omega), cl (show j < 2 ^ 31 by omega), cl (show 32 * k + 8 + j < 2 ^ 31 by omega), nI_p1]
    simp only [if_true]
    rw [s1]
  · intro rec
    rfl
/-- what all the rest has in common, where a table comes in place of another -/
def Kr (S S' : MS) : Prop := (ms_status S' = ms_status S ∧ ms_fault S' = ms_fault S ∧ ms_items S' = ms_items S ∧ ms_lanes S' = ms_lanes S ∧ ms_sizes S' = ms_sizes S ∧ ms_length S' = ms_length S ∧ ms_tape S' = ms_tape S ∧ ms_traced S' = ms_traced S ∧ ms_trace S' = ms_trace S)
theorem Kr.trans {A B C : MS} (a : Kr A B) (b : Kr B C) : Kr A C := by
  obtain ⟨a1, a2, a3, a4, a5, a6, a7, a8, a9⟩ := a
  obtain ⟨b1, b2, b3, b4, b5, b6, b7, b8, b9⟩ := b
  exact ⟨b1.trans a1, b2.trans a2, b3.trans a3, b4.trans a4, b5.trans a5, b6.trans a6, b7.trans a7, b8.trans a8, b9.trans a9⟩
theorem Rel.kr {tf : TF} {rw_ : RW} {tp : TP} {bs : IA} {L L' i0 i1 i0' i1' : BD} {ac ac' : AC} {as : AS} {S S' : MS} (h : Rel tf rw_ tp bs L i0 i1 ac as S) (k : Kr S S') (B : RelB L' i0' i1' ac' S') : Rel tf rw_ tp bs L' i0' i1' ac' as S' := by
  obtain ⟨hT, hR, hP, hA, -⟩ := h
  obtain ⟨a1, a2, a3, a4, a5, a6, a7, a8, a9⟩ := k
  refine ⟨⟨hT.1.trans a2.symm, hT.2.trans a1.symm⟩, ?_, ?_, ?_, B⟩
  · unfold RelRow at hR ⊢
    rw [a3, a4, a5]
    exact hR
  · unfold RelTape at hP ⊢
    rw [a6, a7]
    exact hP
  · unfold RelAsk at hA ⊢
    rw [a8, a9]
    exact hA
theorem kr_of {S S' : MS} (h : Kp S S') : Kr S S' := h.1
theorem kr_imaged (S : MS) (v : Int32) : Kr S (ms_s_imaged S v) := ⟨rfl, rfl, rfl, rfl, rfl, rfl, rfl, rfl, rfl⟩
theorem kr_images (S : MS) (v : Nat → Int32) : Kr S (ms_s_images S v) := ⟨rfl, rfl, rfl, rfl, rfl, rfl, rfl, rfl, rfl⟩
theorem kr_points (S : MS) (v : Int32) : Kr S (ms_s_points S v) := ⟨rfl, rfl, rfl, rfl, rfl, rfl, rfl, rfl, rfl⟩
theorem kr_home (S : MS) (v : Int32) : Kr S (ms_s_home S v) := ⟨rfl, rfl, rfl, rfl, rfl, rfl, rfl, rfl, rfl⟩
theorem kr_men (S : MS) (v : Int32) : Kr S (ms_s_men S v) := ⟨rfl, rfl, rfl, rfl, rfl, rfl, rfl, rfl, rfl⟩
theorem kr_acts (S : MS) (v : Int32) : Kr S (ms_s_acts S v) := ⟨rfl, rfl, rfl, rfl, rfl, rfl, rfl, rfl, rfl⟩
theorem kr_firms (S : MS) (v : Nat → Int32) : Kr S (ms_s_firms S v) := ⟨rfl, rfl, rfl, rfl, rfl, rfl, rfl, rfl, rfl⟩
theorem kr_kinds (S : MS) (v : Nat → Int32) : Kr S (ms_s_kinds S v) := ⟨rfl, rfl, rfl, rfl, rfl, rfl, rfl, rfl, rfl⟩
theorem kr_now (S : MS) (v : Nat → Int32) : Kr S (ms_s_now S v) := ⟨rfl, rfl, rfl, rfl, rfl, rfl, rfl, rfl, rfl⟩
theorem img_bit {k m0 m1 : Nat} (hk : k < 2) (h0 : m0 < 2) (h1 : m1 < 2) : nI (m0 + 2 * m1) ||| ((1 : Int32) <<< (nI k &&& 31)) = nI ((if k = 0 then 1 else m0) + 2 * (if k = 1 then 1 else m1)) := by
  rcases (show k = 0 ∨ k = 1 by omega) with rfl | rfl <;> rcases (show m0 = 0 ∨ m0 = 1 by omega) with rfl | rfl <;> rcases (show m1 = 0 ∨ m1 = 1 by omega) with rfl | rfl <;> decide
theorem has_bit {k m0 m1 : Nat} (hk : k < 2) (h0 : m0 < 2) (h1 : m1 < 2) : M_X8_has (nI (m0 + 2 * m1)) (nI k) = some (nI (if k = 0 then m0 else m1)) := by
  unfold M_X8_has
  rcases (show k = 0 ∨ k = 1 by omega) with rfl | rfl <;> rcases (show m0 = 0 ∨ m0 = 1 by omega) with rfl | rfl <;> rcases (show m1 = 0 ∨ m1 = 1 by omega) with rfl | rfl <;> decide
theorem RelImg.lt {k : Nat} {I : BD} {S : MS} {m : Nat} (h : RelImg k I S m) : m < 2 := by
  rcases h with h | h <;> omega
/-- an image that stays, where the row of images changes elsewhere -/
theorem RelImg.out {k : Nat} {I : BD} {S S' : MS} {m : Nat} (h : RelImg k I S m) (e : ∀ c, c < 23 → ms_images S' (32 * k + c) = ms_images S (32 * k + c)) : RelImg k I S' m := by
  rcases h with h | ⟨h, pts, hm, n, fm, kd, ps, thr, trn, cub, ow, p1, p2, p3, p4, p5, p6, p7, p8, p9, p10⟩
  · exact Or.inl h
  · have hn : n ≤ 8 := p2.2.2.2.2.1
    refine Or.inr ⟨h, pts, hm, n, fm, kd, ps, thr, trn, cub, ow, p1, p2, p3, p4, p5, fun i hi => ⟨(e i (by omega)).trans (p6 i hi).1, ?_⟩, ⟨?_, ?_, ?_, ?_⟩, (e 20 (by omega)).trans p8, (e 21 (by omega)).trans p9, (e 22 (by omega)).trans p10⟩
    · have := e (8 + i) (by omega)
      rw [← Nat.add_assoc] at this
      exact this.trans (p6 i hi).2
    · exact (e (8 + 11) (by omega)).trans p7.1
    · exact (e (8 + 8) (by omega)).trans p7.2.1
    · exact (e (8 + 9) (by omega)).trans p7.2.2.1
    · exact (e (8 + 10) (by omega)).trans p7.2.2.2
theorem sim_image {tf : TF} {rw_ : RW} {tp : TP} {bs : IA} {L i0 i1 : BD} {ac : AC} {as : AS} {S : MS} (h : Rel tf rw_ tp bs L i0 i1 ac as S) (x : Int32) :
    ∃ v j0 j1 S', M_X7_image tf L i0 i1 x = some (v, j0, j1) ∧ M_X8_image S x = some (v, S') ∧ Rel tf rw_ tp bs L j0 j1 ac as S' := by
  unfold M_X7_image M_X8_image
  rw [sp_within, show (0 : Int64) = (0 : Int32).toInt64 from rfl, show (1 : Int64) = (1 : Int32).toInt64 from rfl, sp_in]
  simp only [ob, b01_no]
  by_cases hx : 0 ≤ x ∧ x ≤ 1
  · obtain ⟨k, hk, rfl⟩ := firm_of hx
    have nx : ¬ ¬ (0 ≤ nI k ∧ nI k ≤ 1) := fun q => q hx
    simp only [nx, if_false]
    rcases h.tabs with ⟨e1, e2, e3, e4⟩ | ⟨pts, hm, n, fm, kd, ps, thr, trn, cub, ow, B, A, I⟩
    · rw [no_tab e1, e3]
      exact ⟨_, _, _, _, rfl, rfl, h⟩
    have hn := B.n8
    have B0 := B
    have hno := B.no (tf := tf)
    have hhas := B.has
    obtain ⟨c1, ok, okt, E, T, EM, TM, c6, hoo⟩ := B
    obtain ⟨m0, m1, im, I0, I1⟩ := I
    have hm0 := I0.lt
    have hm1 := I1.lt
    rw [hno, if_neg hhas]
    simp only [ob, if_true]
    have a0 : (0 : Int32) + 0 = 0 := rfl
    have e20 : nI (32 * k) + 20 = nI (32 * k + 20) := nI_add _ 20
    have e21 : nI (32 * k) + 21 = nI (32 * k + 21) := nI_add _ 21
    have e22 : nI (32 * k) + 22 = nI (32 * k + 22) := nI_add _ 22
    have hb := img_bit hk hm0 hm1
    let F : Nat → Int32 := upd (upd (upd (fb_put (fb_put (ms_images S) (fun m => 10 * ms_kinds S m + ms_firms S m) (32 * k) 8) (ms_now S) (32 * k + 8) 12) (32 * k + 20) (ms_points S)) (32 * k + 21) (ms_home S)) (32 * k + 22) (ms_men S)
    have F1 : ∀ m, m < 8 → F (32 * k + m) = 10 * ms_kinds S m + ms_firms S m := fun m hm => by
      show upd (upd (upd _ _ _) _ _) _ _ _ = _
      rw [upd_ne (by omega), upd_ne (by omega), upd_ne (by omega), fb_put_out (by omega), fb_put_in (by omega) (by omega), show 32 * k + m - 32 * k = m by omega]
    have F2 : ∀ c, c < 12 → F (32 * k + 8 + c) = ms_now S c := fun c hc => by
      show upd (upd (upd _ _ _) _ _) _ _ _ = _
      rw [upd_ne (by omega), upd_ne (by omega), upd_ne (by omega), fb_put_in (by omega) (by omega), show 32 * k + 8 + c - (32 * k + 8) = c by omega]
    have F3 : F (32 * k + 20) = ms_points S := by
      show upd (upd (upd _ _ _) _ _) _ _ _ = _
      rw [upd_ne (by omega), upd_ne (by omega), upd_at]
    have F4 : F (32 * k + 21) = ms_home S := by
      show upd (upd (upd _ _ _) _ _) _ _ _ = _
      rw [upd_ne (by omega), upd_at]
    have F5 : F (32 * k + 22) = ms_men S := by
      show upd (upd (upd _ _ _) _ _) _ _ _ = _
      rw [upd_at]
    have F6 : ∀ x, x < 32 * k ∨ 32 * k + 23 ≤ x → F x = ms_images S x := fun x hx => by
      show upd (upd (upd _ _ _) _ _) _ _ _ = _
      rw [upd_ne (by omega), upd_ne (by omega), upd_ne (by omega), fb_put_out (by omega), fb_put_out (by omega)]
    have hM8 : (lp (iL4 S (nI k)) 1000000 ((0 : Int32), ms_images S)).bind (fun b4 => (lp (iL5 S (nI k)) 1000000 ((0 : Int32), b4)).bind (fun b5 => (if inb (((32 : Int32) * nI k) + (20 : Int32)) 64 = true then (if inb (((32 : Int32) * nI k) + (21 : Int32)) 64 = true then (if inb (((32 : Int32) * nI k) + (22 : Int32)) 64 = true then (some ((1 : Int32), (ms_s_images (ms_s_imaged S ((ms_imaged S) ||| ((1 : Int32) <<< (nI k &&& 31)))) (upd (upd (upd b5 ((((32 : Int32) * nI k) + (20 : Int32))).toNatClampNeg (ms_points S)) ((((32 : Int32) * nI k) + (21 : Int32))).toNatClampNeg (ms_home S)) ((((32 : Int32) * nI k) + (22 : Int32))).toNatClampNeg (ms_men S))))) else none) else none) else none))) = some ((1 : Int32), ms_s_images (ms_s_imaged S (nI ((if k = 0 then 1 else m0) + 2 * (if k = 1 then 1 else m1)))) F) := by
      rw [i_loop4 S hk, e32, e20, e21, e22, im, hb]
      simp only [ob]
      rw [i_loop5 S hk]
      simp only [ob]
      rw [if_pos (inb_nI (show 32 * k + 20 < 64 by omega) (by omega)), if_pos (inb_nI (show 32 * k + 21 < 64 by omega) (by omega)), if_pos (inb_nI (show 32 * k + 22 < 64 by omega) (by omega)), cl (show 32 * k + 20 < 2 ^ 31 by omega), cl (show 32 * k + 21 < 2 ^ 31 by omega), cl (show 32 * k + 22 < 2 ^ 31 by omega)]
    have kr := (kr_imaged S (nI ((if k = 0 then 1 else m0) + 2 * (if k = 1 then 1 else m1)))).trans (kr_images _ F)
    have newimg : ∀ (J : BD), EC pts hm n fm kd ps J → ECt thr trn cub ow J → RelImg k J (ms_s_images (ms_s_imaged S (nI ((if k = 0 then 1 else m0) + 2 * (if k = 1 then 1 else m1)))) F) 1 := fun J EJ TJ => by
      refine Or.inr ⟨rfl, pts, hm, n, fm, kd, ps, thr, trn, cub, ow, c1, ok, okt, EJ, TJ, fun i hi => ⟨?_, ?_⟩, ⟨?_, ?_, ?_, ?_⟩, ?_, ?_, ?_⟩
      · refine (F1 i (by omega)).trans ?_
        rw [(EM.2.2.2 i hi).1, (EM.2.2.2 i hi).2.1, show ((10 : Int32)) = nI 10 from rfl, pk_mul, nI_add]
      · exact (F2 i (by omega)).trans (EM.2.2.2 i hi).2.2
      · exact (F2 11 (by omega)).trans TM.1
      · exact (F2 8 (by omega)).trans TM.2.1
      · exact (F2 9 (by omega)).trans TM.2.2.1
      · exact (F2 10 (by omega)).trans TM.2.2.2
      · exact F3.trans EM.1
      · exact F4.trans EM.2.1
      · exact F5.trans EM.2.2.1
    have B' : TabR L (ms_s_images (ms_s_imaged S (nI ((if k = 0 then 1 else m0) + 2 * (if k = 1 then 1 else m1)))) F) pts hm n fm kd ps thr trn cub ow := ⟨c1, ok, okt, E, T, EM, TM, c6, hoo⟩
    have A' : RelAct pts n ac (ms_s_images (ms_s_imaged S (nI ((if k = 0 then 1 else m0) + 2 * (if k = 1 then 1 else m1)))) F) := A.kn rfl rfl
    rcases (show k = 0 ∨ k = 1 by omega) with rfl | rfl
    · obtain ⟨J, p1, p2, p3⟩ := sp_copyFrom E hn i0
      rw [if_pos (show nI 0 = (0 : Int32) from rfl), p1]
      refine ⟨1, J, i1, _, rfl, hM8, h.kr kr (relB_of B' A' ⟨1, m1, rfl, newimg J p2 (T.same p3), I1.out (fun c hc => F6 _ (by omega))⟩)⟩
    · obtain ⟨J, p1, p2, p3⟩ := sp_copyFrom E hn i1
      rw [if_neg (show ¬ nI 1 = (0 : Int32) by decide), if_pos (show nI 1 = (1 : Int32) from rfl), p1]
      refine ⟨1, i0, J, _, rfl, hM8, h.kr kr (relB_of B' A' ⟨m0, 1, rfl, I0.out (fun c hc => F6 _ (by omega)), newimg J p2 (T.same p3)⟩)⟩
  · simp only [hx, not_false_eq_true, if_true]
    exact ⟨_, _, _, _, rfl, rfl, h⟩
